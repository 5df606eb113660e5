/-! ===== what holds at the start: classes, arrays, texts ===== -/
theorem lw_T {w : Cond} {i : Nat} (h : tables_1[i]? = some w) : w ∈ lw_tbl := List.mem_append_right _ (List.mem_of_getElem? h)
def tmJ (i : Nat) : Term := Term.string "LateChecks$Text" (entJ.getD i 0)
def flJ : List Cond := flatC (Jvm.Cond.and given_1 narrow_1)
set_option maxRecDepth 100000 in
theorem flJ_ex : ∀ i, i < 13 → Cond.exactly (tmJ i) "java/lang/String" ∈ flJ := by decide +kernel
set_option maxRecDepth 100000 in
theorem flJ_co : ∀ i, i < 13 → Cond.eq (.field (tmJ i) "java/lang/String" "coder" "B") (.int 0) ∈ flJ := by decide +kernel
set_option maxRecDepth 100000 in
theorem flJ_ar : ∀ i, i < 13 → Cond.arrayOf (.field (tmJ i) "java/lang/String" "value" "[B") .byte ∈ flJ := by decide +kernel
set_option maxRecDepth 100000 in
theorem flJ_le : ∀ i, i < 13 → Cond.eq (.length (.field (tmJ i) "java/lang/String" "value" "[B")) (.int (Int32.ofNat (lenJ.getD i 0))) ∈ flJ := by decide +kernel
set_option maxRecDepth 100000 in
theorem flJ_el : ∀ i, i < 13 → ∀ j, j < lenJ.getD i 0 → Cond.eq (.elem (.field (tmJ i) "java/lang/String" "value" "[B") (.int (Int32.ofNat j))) (.int ((bytJ.getD i []).getD j 0)) ∈ flJ := by decide +kernel
set_option maxRecDepth 100000 in
theorem flJ_ne : ∀ i, i < 13 → ∀ j, j < 13 → i < j → Cond.not (Cond.eq (tmJ i) (tmJ j)) ∈ flJ := by decide +kernel
set_option maxRecDepth 100000 in
theorem flJ_cs : Cond.eq (.static "java/lang/String" "COMPACT_STRINGS" "Z") (.int 1) ∈ flJ := by decide +kernel
set_option maxRecDepth 100000 in
theorem flJ_si : Cond.isRef (.static "jdk/internal/util/Preconditions" "SIOOBE_FORMATTER" "Ljava/util/function/BiFunction;") ∈ flJ := by decide +kernel
theorem lenJ_31 : ∀ i, i < 13 → lenJ.getD i 0 < 2 ^ 31 := fun i hi => Nat.lt_of_le_of_lt (lenJ_5 i hi) (by decide)
theorem srJ (i : Nat) (hi : i < 13) : Cond.stringRef "LateChecks$Text" (entJ.getD i 0) (txtJ.getD i "") ∈ lw_tbl := by
  rcases (show i = 0 ∨ i = 1 ∨ i = 2 ∨ i = 3 ∨ i = 4 ∨ i = 5 ∨ i = 6 ∨ i = 7 ∨ i = 8 ∨ i = 9 ∨ i = 10 ∨ i = 11 ∨ i = 12 by omega) with rfl | rfl | rfl | rfl | rfl | rfl | rfl | rfl | rfl | rfl | rfl | rfl | rfl
  · exact lw_T (i := 212) (by decide +kernel)
  · exact lw_T (i := 213) (by decide +kernel)
  · exact lw_T (i := 214) (by decide +kernel)
  · exact lw_T (i := 215) (by decide +kernel)
  · exact lw_T (i := 216) (by decide +kernel)
  · exact lw_T (i := 217) (by decide +kernel)
  · exact lw_T (i := 218) (by decide +kernel)
  · exact lw_T (i := 274) (by decide +kernel)
  · exact lw_T (i := 275) (by decide +kernel)
  · exact lw_T (i := 276) (by decide +kernel)
  · exact lw_T (i := 277) (by decide +kernel)
  · exact lw_T (i := 278) (by decide +kernel)
  · exact lw_T (i := 279) (by decide +kernel)
theorem arr_p {args : Array Value} {s : State} {ty : FieldType} (h : (Cond.arrayClass ty).before args s = true) : ∃ cA, ArrOfT s cA ty ∧ s.vm.findClass ("[" ++ ty.toString) = some cA := by
  obtain ⟨cA, kA, comp, h1, h2, h3⟩ := Cond.arrayClass_spec h
  exact ⟨cA, fun n z => ⟨fun k h => (by cases h), kA, h2, comp, h3⟩, h1⟩
theorem arr_q {args : Array Value} {s : State} {C : String} (h : (Cond.arrayOver (.object C)).before args s = true) : ∃ cA, ArrOfT s cA (.object C) ∧ va_RA s cA (.object C) := by
  obtain ⟨comp, cA, kA, h1, h2, h3, h4, h5⟩ := Cond.arrayOver_spec h
  exact ⟨cA, fun n z => ⟨fun k h => (by cases h), kA, h3, comp, h4⟩, kA, comp, h3, h4, h1, h5⟩
set_option maxRecDepth 100000 in
theorem kt_start {args : Array Value} {s : State} (hts : ∀ w ∈ lw_tbl, w.before args s = true) (hgv : (Jvm.Cond.and given_1 narrow_1).before args s = true) : ∃ G : Cx, KT G (fun q => s.heap.size ≤ q) s := by
  have hs : ∀ w ∈ flJ, w.before args s = true := flat_of_before _ hgv
  have hA : ∀ a : Nat, a < s.heap.size → ¬ s.heap.size ≤ a := fun a h => Nat.not_le.mpr h
  obtain ⟨c0, i0, k0⟩ := u_known (C := RX0) (T := TX0) (N := 13) (n := 13) hts (fun w h => gW_in _ (inX0 w h)) (hts _ (gW_in _ q54))
  obtain ⟨c1, i1, k1⟩ := u_known (C := RX1) (T := TX1) (N := 8) (n := 8) hts (fun w h => gW_in _ (inX1 w h)) (hts _ (gW_in _ q325))
  obtain ⟨c2, i2, k2⟩ := u_known (C := RX2) (T := TX2) (N := 7) (n := 7) hts (fun w h => gW_in _ (inX2 w h)) (hts _ (gW_in _ q20))
  obtain ⟨c3, i3, k3⟩ := u_known (C := RX3) (T := TX3) (N := 12) (n := 12) hts (fun w h => gW_in _ (inX3 w h)) (hts _ (gW_in _ q12))
  obtain ⟨c4, i4, k4⟩ := u_known (C := RX4) (T := TX4) (N := 30) (n := 30) hts (fun w h => gW_in _ (inX4 w h)) (hts _ (gW_in _ q585))
  obtain ⟨a0, b0, d0⟩ := arr_p (hts _ (gW_in _ q49))
  obtain ⟨a1, b1, d1⟩ := arr_p (hts _ (gW_in _ q681))
  have hO1 : (Cond.arrayOver (.object "LateChecks$Deal")).before args s = true := hts _ (lw_T (i := 51) (by decide +kernel))
  have hO2 : (Cond.arrayOver (.object "LateChecks$Entry")).before args s = true := hts _ (lw_T (i := 53) (by decide +kernel))
  obtain ⟨a2, b2, d2⟩ := arr_q hO1
  obtain ⟨a3, b3, d3⟩ := arr_q hO2
  obtain ⟨adK, adV, hE, hev⟩ := vk_Sof (args := args) (s := s) (N := 13) (tm := tmJ) (len := lenJ) (byt := bytJ) (A := fun q => s.heap.size ≤ q) lenJ_31 (fun i hi => hs _ (flJ_ex i hi)) (fun i hi => hs _ (flJ_co i hi)) (fun i hi => hs _ (flJ_ar i hi)) (fun i hi => hs _ (flJ_le i hi)) (fun i hi j hj => hs _ (flJ_el i hi j hj)) (fun i j hi hj hij => by
    rcases Nat.lt_or_gt_of_ne hij with q | q
    · exact Or.inl (hs _ (flJ_ne i hi j hj q))
    · exact Or.inr (hs _ (flJ_ne j hj i hi q))) hA
  refine ⟨((fun k => if k = 0 then c0 else if k = 1 then c1 else if k = 2 then c2 else if k = 3 then c3 else c4, fun k => if k = 0 then i0 else if k = 1 then i1 else if k = 2 then i2 else if k = 3 then i3 else i4), (fun k => if k = 0 then a0 else if k = 1 then a1 else if k = 2 then a2 else a3), adK, adV), ⟨?_, ?_⟩, ⟨?_, ?_, ?_, ?_, ?_⟩, ⟨va_AO.of hO1, va_AO.of hO2⟩, hE, fun i hi => ?_, ?_, ?_⟩
  · intro k q hq
    match k, hq with
    | 0, hq => cases hq; exact k0
    | 1, hq => cases hq; exact k1
    | 2, hq => cases hq; exact k2
    | 3, hq => cases hq; exact k3
    | 4, hq => cases hq; exact k4
    | k + 5, hq => simp [vwCl] at hq
  · intro k q hq
    match k, hq with
    | 0, hq => cases hq; exact ⟨b0, d0⟩
    | 1, hq => cases hq; exact ⟨b1, d1⟩
    | 2, hq => cases hq; exact ⟨b2, d2⟩
    | 3, hq => cases hq; exact ⟨b3, d3⟩
    | k + 4, hq => simp [tysG] at hq
  · exact va_Nw.of rfl (hts _ (lw_T (i := 21) (by decide +kernel)))
  · exact va_Nw.of rfl (hts _ (lw_T (i := 326) (by decide +kernel)))
  · exact va_Nw.of rfl (hts _ (lw_T (i := 367) (by decide +kernel)))
  · exact va_Nw.of rfl (hts _ (lw_T (i := 401) (by decide +kernel)))
  · exact va_Nw.of rfl (hts _ (lw_T (i := 575) (by decide +kernel)))
  · exact vk_R.of (hts _ (srJ i hi)) (hev i hi)
  · exact va_Zof (hts _ (lw_T (i := 232) (by decide +kernel))) (hts _ (gW_in _ q5)) (va_eqi (hs _ flJ_cs)) hA
  · exact va_Zqof (hts _ (lw_T (i := 248) (by decide +kernel))) (hts _ (gW_in _ q7)) (hs _ flJ_si) hA
