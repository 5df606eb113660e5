/-! THE CLAIM OUT OF ONE WALK OF THE LAW'S BODY. Your part is whole_start (and what it stands on); all else here is the same for every law, but numbers. -/
def R_law : String := "LateChecksLaw"
def lw_P (b : Addr) (xs : List Int32) (args : Array Value) (s : State) : Prop := args = #[.ref b] ∧ s.IntsAt b xs ∧ xs.length ≤ 2048 ∧ (Jvm.Cond.and given_1 narrow_1).before args s = true
def lw_Q (_ : Array Value) (s : State) (o : Outcome) (t : State) : Prop := o = .returned (some (.int 1)) ∧ Framed s o t [] 600000 7302250
def lw_Z (below : List Frame) (a : Array Value) (s : State) : State → Prop := fun t => ∃ o, t.status = .running ∧ Ended t below o ∧ lw_Q a s o t
/-- the law's own end, with 1 on the stack, nothing written that was there before, its room as the claim has it -/
theorem lw_ret {p : Program} {l : Launch} {e : Env} {s : State} {m : MethodId} {below : List Frame} {meth : Method} {c : Code} {b : Nat} (hx : p.tables.exec = Jvm.exec) (hb : c.code = code) (hr : meth.sig.returnType = ret) (hlocks : meth.locks = false) {pc : Nat} {H : Heap} {ls : Array Slot} (hdg : decode code pc = .ok (.ireturn, 1)) : W p l e room_1 s m #[Value.ref b] below meth c H [] 600000 7302250 (lw_Z below #[Value.ref b] s) (F0 m pc ls [.int 1]) := by
  intro T hT X
  obtain ⟨fs, hret, hrun, hended, hW, hframe⟩ := X.leave (v := some (.int 1)) (hlocks := hlocks) (fun h => by rw [hr] at h; cases h)
  have hmeth' : T.vm.method? m = some meth := X.method'
  refine ⟨T.setFrames fs, ?_, .returned (some (.int 1)), hrun, hended, rfl, ⟨_, rfl⟩, hW, hframe⟩
  jvm_step X.here [X.here.top, hx, hb, hdg, hmeth', hr, ret, narrow_b1]
  (try refine ⟨rfl, ?_⟩); (try refine ⟨rfl, ?_⟩)
  first | (intro acts; rw [hret _ acts rfl rfl rfl]) | rw [hret _ _ rfl rfl rfl]
  exact Steps.refl _
/-- what holds at the law's entry: the machine, the code, the tables' words (any of lw_tbl by 'hts w (by decide +kernel)'), the script of L ints xs at the cell b, what the Statement gives of the start (any of its parts by flat_of_before) -/
def lw_At (p : Program) (s : State) (m : MethodId) (meth : Method) (c : Code) (b L : Nat) (xs : Nat → Int32) : Prop :=
  p.tables.exec = Jvm.exec ∧ c.code = code ∧ meth.sig.returnType = ret ∧ c.maxLocals = 4 ∧ s.vm.findClass R_law = some m.cls ∧ (∀ w ∈ lw_tbl, w.before #[Value.ref b] s = true) ∧ va_X b L xs s s.heap ∧ b < s.heap.size ∧ meth.locks = false ∧ (Jvm.Cond.and given_1 narrow_1).before #[Value.ref b] s = true
theorem and31 (v : Int32) : ∃ j, j < 32 ∧ v &&& 31 = nI j := by
  refine ⟨(v.toBitVec &&& 31#32).toNat, ?_, ?_⟩
  · rw [BitVec.toNat_and]; exact Nat.lt_of_le_of_lt Nat.and_le_right (by decide)
  · rw [← Int32.toBitVec_inj, Int32.toBitVec_and]
    show v.toBitVec &&& 31#32 = BitVec.ofNat 32 (v.toBitVec &&& 31#32).toNat
    rw [BitVec.ofNat_toNat, BitVec.setWidth_eq]
theorem lp_go {L k : Nat} (hL : L ≤ 2048) (hk : 4 * k ≤ L) (h : ¬ nI L - 4 < nI (4 * k)) : 4 * k + 4 ≤ L := by
  rcases Nat.lt_or_ge L 4 with q | q
  · exfalso
    have z : (nI L - 4) < 0 := by
      rcases (show L = 0 ∨ L = 1 ∨ L = 2 ∨ L = 3 by omega) with rfl | rfl | rfl | rfl <;> decide
    exact h (Int32.lt_of_lt_of_le z (nI_pos' (by omega)))
  · have e : nI L - 4 = nI (L - 4) := nI_sb q
    rw [e] at h
    rcases Nat.lt_or_ge (L - 4) (4 * k) with r | r
    · exact absurd (nI_lt r (by omega)) h
    · omega
theorem Al.mono {x : Sg} {y : Rg} {k : Nat} (h : Al x y k) : Al x y (k + 1) := by
  obtain ⟨c, T, t, a1, a2, a3, a4, a5⟩ := h
  exact ⟨c, T, t, a1, a2, a3, by omega, by omega⟩
set_option maxHeartbeats 8000000 in
set_option maxRecDepth 100000 in
theorem law_loop {p : Program} {l : Launch} {e : Env} {s : State} {m : MethodId} {below : List Frame} {meth : Method} {c : Code} {nm : String} {G : Cx} {g : Nat → Nat → Nat} {h : Nat → Nat} {b L : Nat} {xs : Nat → Int32} (go : Go l ⟨RL, nm, "([I)Z"⟩ cL_law 4 (some .boolean) p s m #[Value.ref b] meth c) (hX : va_X b L xs s s.heap) (hbl : b < s.heap.size) (hL : L ≤ 2048) :
    ∀ (n k : Nat), n + k = 513 → 4 * k ≤ L → ∀ (x : Sg) (y : Rg) (H : Heap) (locs : List Loc) (ls : Array Slot), Al x y k → Wd G (fun q => s.heap.size ≤ q) s H locs (cw G g x ++ rw' G h y) → lv_has ls 4 [(0, .ref b), (1, .ref (g 0 0)), (2, .ref (h 0)), (3, .int (nI (4 * k)))] →
      W p l e room_1 s m #[Value.ref b] below meth c H locs (58 + 72 * k) (14771 + 576 * k) (lw_Z below #[Value.ref b] s) (F0 m 18 ls []) := by
  have hx := go.1
  have hb := go.2.1
  have hbA : ¬ (fun q : Nat => s.heap.size ≤ q) b := Nat.not_le.mpr hbl
  intro n
  induction n with
  | zero => intro k hk hk4; exfalso; omega
  | succ n ih =>
    intro k hk hk4 x y H locs ls hA hw hl
    refine lv_iload_n hx hb dL_law_18 rfl (lv_at hl 3 rfl) ?_
    refine lv_aload_n hx hb dL_law_19 rfl (lv_at hl 0 rfl) ?_
    refine va_slen hx hb hX hbl hbA hw.2.2.1 dL_law_20 ?_
    refine lv_iconst (v := 4) hx hb dL_law_21 (by decide) ?_
    refine lv_isub hx hb dL_law_22 ?_
    refine lv_icmp_gt (tgt := 856) hx hb dL_law_23 (by decide) (fun _ => ?_) (fun h23 => ?_)
    · refine lv_iconst (v := 1) hx hb dL_law_856 (by decide) ?_
      refine va_forget hw.2.2.1.2.2 ?_
      refine W.widen (k := 600000) (n := 7302250) (by omega) (by omega) ?_
      exact lw_ret hx hb go.2.2.1 go.2.2.2.2.2.2.1 dL_law_857
    have hi : 4 * k + 4 ≤ L := lp_go hL hk4 h23
    have hf : (58 + 72 * k) + 72 ≤ 600000 ∧ (14771 + 576 * k) + 576 ≤ 7302250 := by omega
    have nx : ∀ (u : Sg) (w : Rg) (H1 : Heap) (locs1 : List Loc), Al u w (k + 1) → Wd G (fun q => s.heap.size ≤ q) s H1 locs1 (cw G g u ++ rw' G h w) → W p l e room_1 s m #[Value.ref b] below meth c H1 locs1 (58 + 72 * k + 72) (14771 + 576 * k + 576) (lw_Z below #[Value.ref b] s) (F0 m 850 ls []) := by
      intro u w H1 locs1 hA1 hw1
      refine lv_iinc (v := nI (4 * (k + 1))) (lv' := [(3, .int (nI (4 * (k + 1)))), (0, .ref b), (1, .ref (g 0 0)), (2, .ref (h 0))]) hx hb dL_law_850 hl (k := 3) rfl (nI_add (4 * k) 4) (by decide) rfl (fun ls hl => ?_)
      refine lv_goto (tgt := 18) hx hb dL_law_853 (by decide) ?_
      refine W.widen (k := 58 + 72 * (k + 1)) (n := 14771 + 576 * (k + 1)) (by omega) (by omega) ?_
      exact ih (k + 1) (by omega) (by omega) u w H1 locs1 ls hA1 hw1 (lv_sub hl [1, 2, 3, 0] rfl)
    have nx0 : W p l e room_1 s m #[Value.ref b] below meth c H locs (58 + 72 * k) (14771 + 576 * k) (lw_Z below #[Value.ref b] s) (F0 m 850 ls []) := W.widen (by omega) (by omega) (nx x y H locs hA.mono hw)
    refine lv_aload_n hx hb dL_law_26 rfl (lv_at hl 0 rfl) ?_
    refine lv_iload_n hx hb dL_law_27 rfl (lv_at hl 3 rfl) ?_
    refine va_sld hx hb hX hbl hbA hw.2.2.1 (vp_in_nI (n := 4 * k) (by omega) (by omega)) dL_law_28 ?_
    refine lv_bipush (v := 31) hx hb dL_law_29 (by decide) ?_
    refine lv_iand hx hb dL_law_31 ?_
    obtain ⟨j, hj, ej⟩ := and31 (xs (nI (4 * k)).toNatClampNeg)
    refine toI ej ?_
    clear ej
    rcases (show j = 0 ∨ j = 1 ∨ j = 2 ∨ j = 3 ∨ j = 4 ∨ j = 5 ∨ j = 6 ∨ j = 7 ∨ j = 8 ∨ j = 9 ∨ j = 10 ∨ j = 11 ∨ j = 12 ∨ j = 13 ∨ j = 14 ∨ j = 15 ∨ j = 16 ∨ j = 17 ∨ j = 18 ∨ j = 19 ∨ j = 20 ∨ j = 21 ∨ j = 22 ∨ j = 23 ∨ j = 24 ∨ j = 25 ∨ j = 26 ∨ j = 27 ∨ j = 28 ∨ j = 29 ∨ j = 30 ∨ j = 31 by omega) with rfl | rfl | rfl | rfl | rfl | rfl | rfl | rfl | rfl | rfl | rfl | rfl | rfl | rfl | rfl | rfl | rfl | rfl | rfl | rfl | rfl | rfl | rfl | rfl | rfl | rfl | rfl | rfl | rfl | rfl | rfl | rfl
    · refine lv_tableIn hx hb (off := 120) (tgt := 152) dL_law_32 (by decide) (by decide) (by decide +kernel) (by decide) ?_
      exact lo_write go hX hbl hbA hL hi hw hl hf (duo_write l G g h (xs (4 * k + 1)) hA) nx
    · refine lv_tableIn hx hb (off := 143) (tgt := 175) dL_law_32 (by decide) (by decide) (by decide +kernel) (by decide) ?_
      exact lo_erase go hX hbl hbA hL hi hw hl hf (duo_erase l G g h hA) nx
    · refine lv_tableIn hx hb (off := 156) (tgt := 188) dL_law_32 (by decide) (by decide) (by decide +kernel) (by decide) ?_
      exact lo_fault go hX hbl hbA hL hi hw hl hf (duo_fault l G g h (by omega) hA) nx
    · refine lv_tableIn hx hb (off := 169) (tgt := 201) dL_law_32 (by decide) (by decide) (by decide +kernel) (by decide) ?_
      exact lo_tell go hX hbl hbA hL hi hw hl hf (duo_tell l G g h (by omega) hA) nx
    · refine lv_tableIn hx hb (off := 182) (tgt := 214) dL_law_32 (by decide) (by decide) (by decide +kernel) (by decide) ?_
      exact lo_item go hX hbl hbA hL hi hw hl hf (duo_item l G g h (xs (4 * k + 1)) (xs (4 * k + 2)) hA) nx
    · refine lv_tableIn hx hb (off := 215) (tgt := 247) dL_law_32 (by decide) (by decide) (by decide +kernel) (by decide) ?_
      exact lo_put go hX hbl hbA hL hi hw hl hf (duo_put l G g h (xs (4 * k + 1)) (xs (4 * k + 2)) (by omega) hA) nx
    · refine lv_tableIn hx hb (off := 248) (tgt := 280) dL_law_32 (by decide) (by decide) (by decide +kernel) (by decide) ?_
      exact lo_limit go hX hbl hbA hL hi hw hl hf (duo_limit l G g h (xs (4 * k + 1)) hA) nx
    · refine lv_tableIn hx hb (off := 271) (tgt := 303) dL_law_32 (by decide) (by decide) (by decide +kernel) (by decide) ?_
      exact lo_begin go hX hbl hbA hL hi hw hl hf (duo_begin l G g h (xs (4 * k + 1)) hA) nx
    · refine lv_tableIn hx hb (off := 294) (tgt := 326) dL_law_32 (by decide) (by decide) (by decide +kernel) (by decide) ?_
      exact lo_retry go hX hbl hbA hL hi hw hl hf (duo_retry l G g h (xs (4 * k + 1)) hA) nx
    · refine lv_tableIn hx hb (off := 317) (tgt := 349) dL_law_32 (by decide) (by decide) (by decide +kernel) (by decide) ?_
      exact lo_read go hX hbl hbA hL hi hw hl hf (duo_read l G g h (xs (4 * k + 1)) (xs (4 * k + 2)) hA) nx
    · refine lv_tableIn hx hb (off := 350) (tgt := 382) dL_law_32 (by decide) (by decide) (by decide +kernel) (by decide) ?_
      exact lo_lay go hX hbl hbA hL hi hw hl hf (duo_lay l G g h (xs (4 * k + 1)) (xs (4 * k + 2)) (xs (4 * k + 3)) hA) nx
    · refine lv_tableIn hx hb (off := 393) (tgt := 425) dL_law_32 (by decide) (by decide) (by decide +kernel) (by decide) ?_
      exact lo_commit go hX hbl hbA hL hi hw hl hf (duo_commit l G g h (xs (4 * k + 1)) (xs (4 * k + 2)) (by omega) hA) nx
    · refine lv_tableIn hx hb (off := 426) (tgt := 458) dL_law_32 (by decide) (by decide) (by decide +kernel) (by decide) ?_
      exact lo_peek go hX hbl hbA hL hi hw hl hf (duo_peek l G g h (xs (4 * k + 1)) (xs (4 * k + 2)) (by omega) hA) nx
    · refine lv_tableIn hx hb (off := 459) (tgt := 491) dL_law_32 (by decide) (by decide) (by decide +kernel) (by decide) ?_
      exact lo_abort go hX hbl hbA hL hi hw hl hf (duo_abort l G g h (xs (4 * k + 1)) hA) nx
    · refine lv_tableIn hx hb (off := 482) (tgt := 514) dL_law_32 (by decide) (by decide) (by decide +kernel) (by decide) ?_
      exact lo_sweep go hX hbl hbA hL hi hw hl hf (duo_sweep l G g h hA) nx
    · refine lv_tableIn hx hb (off := 495) (tgt := 527) dL_law_32 (by decide) (by decide) (by decide +kernel) (by decide) ?_
      exact lo_send go hX hbl hbA hL hi hw hl hf (duo_send l G g h (xs (4 * k + 1)) (by omega) hA) nx
    · refine lv_tableIn hx hb (off := 518) (tgt := 550) dL_law_32 (by decide) (by decide) (by decide +kernel) (by decide) ?_
      exact lo_vote go hX hbl hbA hL hi hw hl hf (duo_vote l G g h (xs (4 * k + 1)) hA) nx
    · refine lv_tableIn hx hb (off := 541) (tgt := 573) dL_law_32 (by decide) (by decide) (by decide +kernel) (by decide) ?_
      exact lo_settle go hX hbl hbA hL hi hw hl hf (duo_settle l G g h (by omega) hA) nx
    · refine lv_tableIn hx hb (off := 554) (tgt := 586) dL_law_32 (by decide) (by decide) (by decide +kernel) (by decide) ?_
      exact lo_deal go hX hbl hbA hL hi hw hl hf (duo_deal l G g h (xs (4 * k + 1)) (xs (4 * k + 2)) (by omega) hA) nx
    · refine lv_tableIn hx hb (off := 587) (tgt := 619) dL_law_32 (by decide) (by decide) (by decide +kernel) (by decide) ?_
      exact lo_noted go hX hbl hbA hL hi hw hl hf (duo_noted l G g h (xs (4 * k + 1)) (xs (4 * k + 2)) (xs (4 * k + 3)) hA) nx
    · refine lv_tableIn hx hb (off := 630) (tgt := 662) dL_law_32 (by decide) (by decide) (by decide +kernel) (by decide) ?_
      exact lo_sent go hX hbl hbA hL hi hw hl hf (duo_sent l G g h (xs (4 * k + 1)) hA) nx
    · refine lv_tableIn hx hb (off := 653) (tgt := 685) dL_law_32 (by decide) (by decide) (by decide +kernel) (by decide) ?_
      exact lo_ballot go hX hbl hbA hL hi hw hl hf (duo_ballot l G g h (xs (4 * k + 1)) (xs (4 * k + 2)) hA) nx
    · refine lv_tableIn hx hb (off := 686) (tgt := 718) dL_law_32 (by decide) (by decide) (by decide +kernel) (by decide) ?_
      exact lo_log go hX hbl hbA hL hi hw hl hf (duo_log l G g h (xs (4 * k + 1)) (xs (4 * k + 2)) (by omega) hA) nx
    · refine lv_tableIn hx hb (off := 719) (tgt := 751) dL_law_32 (by decide) (by decide) (by decide +kernel) (by decide) ?_
      exact lo_logged go hX hbl hbA hL hi hw hl hf (duo_logged l G g h (xs (4 * k + 1)) (xs (4 * k + 2)) (xs (4 * k + 3)) (by omega) hA) nx
    · refine lv_tableIn hx hb (off := 762) (tgt := 794) dL_law_32 (by decide) (by decide) (by decide +kernel) (by decide) ?_
      exact lo_behind go hX hbl hbA hL hi hw hl hf (duo_behind l G g h (xs (4 * k + 1)) (xs (4 * k + 2)) (by omega) hA) nx
    · refine lv_tableIn hx hb (off := 795) (tgt := 827) dL_law_32 (by decide) (by decide) (by decide +kernel) (by decide) ?_
      exact lo_count go hX hbl hbA hL hi hw hl hf (duo_count l G g h (xs (4 * k + 1)) hA) nx
    · refine lv_tableOut hx hb (tgt := 850) dL_law_32 (Or.inr (by decide)) (by decide) ?_
      exact nx0
    · refine lv_tableOut hx hb (tgt := 850) dL_law_32 (Or.inr (by decide)) (by decide) ?_
      exact nx0
    · refine lv_tableOut hx hb (tgt := 850) dL_law_32 (Or.inr (by decide)) (by decide) ?_
      exact nx0
    · refine lv_tableOut hx hb (tgt := 850) dL_law_32 (Or.inr (by decide)) (by decide) ?_
      exact nx0
    · refine lv_tableOut hx hb (tgt := 850) dL_law_32 (Or.inr (by decide)) (by decide) ?_
      exact nx0
    · refine lv_tableOut hx hb (tgt := 850) dL_law_32 (Or.inr (by decide)) (by decide) ?_
      exact nx0
