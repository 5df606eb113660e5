/-! ===== commits: an entry more, and what goes with it ===== -/
def wA (a : Nat → Nat → Nat) (y : Sg) : Sg := (a, y.2)
def nxS (x : Sg) (c0 : Nat) : Sg := if c0 < sN x then pI x 0 5 (nI (c0 + 1)) else pI (addE x 0 0 0) 0 5 (nI (c0 + 1))
theorem nxS_N {x : Sg} {c0 : Nat} (h : c0 ≤ sN x) : c0 < sN (nxS x c0) := by
  unfold nxS
  split
  · assumption
  · show c0 < sN x + 1
    omega
theorem nxS_lt {x : Sg} {c0 : Nat} (a : Nat → Nat → Nat) (h : c0 ≤ sN x) : c0 < sN (wA a (nxS x c0)) := nxS_N h
theorem nxS_I {x : Sg} {c0 : Nat} {o k : Nat} (ho : o < 8) : sI (nxS x c0) o k = if o = 0 ∧ k = 5 then nI (c0 + 1) else sI x o k := by
  unfold nxS
  split
  · rfl
  · rw [sI_pI, sI_addE, if_neg (show ¬ o = 8 + sN x by omega)]
theorem nxS_A {x : Sg} {c0 : Nat} {o k : Nat} (ho : o < 8) : sA (nxS x c0) o k = sA x o k := by
  unfold nxS
  split
  · rfl
  · rw [sA_pI, sA_addE, if_neg (show ¬ o = 8 + sN x by omega)]
def kpS (d : Nat) (y : Sg) (i : Nat) : Sg := if hasB (sI y (2 + d) 6) (nI i) then chS y i (sA y (2 + d) 11 i) else y
def keS (x : Sg) (c0 d : Nat) (w : Int32) : Sg := frD (foS (kpS d) (kdE (nxS x c0) c0 d w) 8) d false
theorem kpS_w (d : Nat) (a : Nat → Nat → Nat) (y : Sg) : ∀ n, foS (kpS d) (wA a y) n = wA a (foS (kpS d) y n)
  | 0 => rfl
  | n + 1 => by
    rw [foS, kpS_w d a y n, foS, kpS, kpS]
    show (if hasB (sI (foS (kpS d) y n) (2 + d) 6) (nI n) = true then _ else _) = _
    split
    · rfl
    · rfl
theorem kpS_I (d : Nat) (y : Sg) (o k : Nat) : ∀ n, sI (foS (kpS d) y n) o k = sI y o k
  | 0 => rfl
  | n + 1 => by
    rw [foS, kpS]
    split
    · rw [chS, sI_pA, sI_pA]; exact kpS_I d y o k n
    · exact kpS_I d y o k n
theorem frD_w (a : Nat → Nat → Nat) (y : Sg) (d : Nat) (b : Bool) : frD (wA a y) d b = wA a (frD y d b) := by cases b <;> rfl
def puS (x : Sg) (c0 i : Nat) (v : Int32) : Sg := chS (kwE (nxS x c0) c0 i v) i v
def puC (x : Sg) (c0 : Nat) (a v : Int32) : Int32 × Sg := if inB 8 a = true then (if vaB v = true then (if nI (howM x 3) ≤ 0 then (nI (c0 + 1), puS x c0 a.toNatClampNeg v) else (-4, x)) else (-3, x)) else (-2, x)
def cmC (x : Sg) (c0 : Nat) (a w : Int32) : Int32 × Sg :=
  if inB 6 a = true then
    let d := a.toNatClampNeg
    if faB (ftI x d w) = true then (ftI x d w, loS x d (ftI x d w))
    else if 0 ≤ ftI x d w then (nI (c0 + 1), keS (if w = 2 then dmA x (riv x d) else x) c0 d w)
    else (ftI x d w, x)
  else (-2, x)
def stC (x : Sg) (c0 : Nat) : Int32 × Sg :=
  if inB 6 (saI x 0) = true then
    let d := (saI x 0).toNatClampNeg
    if haB x d = true then
      if hoB x d = true then (nI (c0 + 1), keS x c0 d 3)
      else if stl x d = 0 then (-12, loS x d (-12)) else (-11, loS x d (-11))
    else (-4, x)
  else (-4, x)
theorem dmA_I (b : Int32) (x : Sg) (o k : Nat) (h : ¬ k = 1) : sI (dmA x b) o k = sI x o k := by
  have key : ∀ n, sI (foS (dmS b) x n) o k = sI x o k := by
    intro n
    induction n with
    | zero => rfl
    | succ n ih =>
      rw [foS, dmS]
      split
      · rw [sI_ne (by omega)]; exact ih
      · exact ih
  exact key 6
theorem dmA_N (b : Int32) (x : Sg) : sN (dmA x b) = sN x := by
  have key : ∀ n, sN (foS (dmS b) x n) = sN x := by
    intro n
    induction n with
    | zero => rfl
    | succ n ih =>
      rw [foS, dmS]
      split
      · exact ih
      · exact ih
  exact key 6
def cpZ (f : Nat → Int32) (i : Nat) : Nat → Int32 := cpF f (fun _ => 0) i
theorem cpZ_0 (f : Nat → Int32) : cpZ f 0 = f := cpF_0 _ _
theorem cpZ_s (f : Nat → Int32) (i : Nat) : upd (cpZ f i) i 0 = cpZ f (i + 1) := cpF_s f (fun _ => 0) i
/-- all as at first, but the text -/
def anS (x : Sg) : Sg :=
  pI (pI (pI (pI (pI (pI (pI (foS (fun y d => frD y d false) (pA (pA x 0 1 (cpZ (sA x 0 1) 8)) 0 2 (cpZ (sA x 0 2) 8)) 6) 0 5 0) 0 6 3) 0 7 0) 0 8 0) 0 9 0) 0 10 0) 0 11 0

set_option maxHeartbeats 4000000 in
set_option maxRecDepth 100000 in
theorem kX3_startAnew (l : Launch) (G : Cx) (g : Nat → Nat → Nat) (x : Sg) : Cv l G yX3_startAnew cX3_startAnew 5 (Rm 1 21) (cw G g) [.ref (g 0 0)] x (fun u => u = anS x) := by
  refine Cv.mk (by decide) (Nat.le_of_ble_eq_true rfl) ?_
  intro p e s m below meth c A ls go hw hl
  generalize s.heap = H at hw ⊢
  generalize ([] : List Loc) = locs at hw ⊢
  have hx := go.1
  have hb := go.2.1
  have hl : lv_has ls 5 [(0, .ref (g 0 0))] := hl
  refine lv_iconst (v := 0) hx hb dX3_startAnew_0 (by decide) ?_
  refine lv_istore_n (lv' := [(1, .int 0), (0, .ref (g 0 0))]) hx hb dX3_startAnew_1 rfl hl (by decide) rfl (fun ls hl => ?_)
  rw [show x = pA (pA x 0 1 (cpZ (sA x 0 1) 0)) 0 2 (cpZ (sA x 0 2) 0) from by rw [cpZ_0, cpZ_0]; exact ((congrArg (fun z => pA z 0 2 (sA x 0 2)) (pA_self x 0 1)).trans (pA_self x 0 2)).symm] at hw
  have hl0 : lv_has ls 5 [(0, .ref (g 0 0)), (1, .int (nI 0))] := lv_to (lv_sub (l' := [(0, .ref (g 0 0)), (1, .int 0)]) hl [1, 0] rfl) (lr (lc (show (0 : Int32) = nI 0 from rfl) rfl))
  refine loop_up (N := 8) (P := fun i H locs ls => Wd G A s H locs (cw G g (pA (pA x 0 1 (cpZ (sA x 0 1) i)) 0 2 (cpZ (sA x 0 2) i))) ∧ lv_has ls 5 [(0, .ref (g 0 0)), (1, .int (nI i))]) (X := fun H locs ls => W p l e (Rm 1 21) s m ([.ref (g 0 0)] : List Value).toArray below meth c H locs 0 0 (MQ below (va_Qv (fun u => u = anS x) (PostW G (cw G g) A) A) ([.ref (g 0 0)] : List Value).toArray s (Rm 1 21).cells (Rm 1 21).slots A) (F0 m 2 ls [])) ?_ 0 (by omega) H locs ls ⟨hw, hl0⟩
  clear hl0 hl hw
  intro i hi ih H locs ls hP
  obtain ⟨hw, hl⟩ := hP
  refine lv_iload_n hx hb dX3_startAnew_2 rfl (lv_at hl 1 rfl) ?_
  refine lv_bipush (v := 8) hx hb dX3_startAnew_3 (by decide) ?_
  refine lv_icmp_ge (tgt := 28) hx hb dX3_startAnew_5 (by decide) (fun h5 => ?_) (fun h5 => ?_)
  · skip
    have hE : i = 8 := lp_end h5 rfl rfl hi (by decide)
    subst hE
    refine lv_aload_n hx hb dX3_startAnew_28 rfl (lv_at hl 0 rfl) ?_
    refine gX (k := 3) (v := .ref (g 0 4)) rfl (by decide) rfl go hw dX3_startAnew_29 q130 ?_
    refine lv_astore_n (lv' := [(1, .ref (g 0 4)), (0, .ref (g 0 0))]) hx hb dX3_startAnew_32 rfl hl (by decide) rfl (fun ls hl => ?_)
    refine lv_aload_n hx hb dX3_startAnew_33 rfl (lv_at hl 0 rfl) ?_
    refine lDl go hw dX3_startAnew_34 ?_
    refine lv_istore_n (lv' := [(2, .int (nI 6)), (1, .ref (g 0 4)), (0, .ref (g 0 0))]) hx hb dX3_startAnew_35 rfl hl (by decide) rfl (fun ls hl => ?_)
    refine lv_iconst (v := 0) hx hb dX3_startAnew_36 (by decide) ?_
    refine lv_istore_n (lv' := [(3, .int 0), (2, .int (nI 6)), (1, .ref (g 0 4)), (0, .ref (g 0 0))]) hx hb dX3_startAnew_37 rfl hl (by decide) rfl (fun ls hl => ?_)
    rw [show pA (pA x 0 1 (cpZ (sA x 0 1) 8)) 0 2 (cpZ (sA x 0 2) 8) = foS (fun y d => frD y d false) (pA (pA x 0 1 (cpZ (sA x 0 1) 8)) 0 2 (cpZ (sA x 0 2) 8)) 0 from by rfl] at hw
    have hl0 : lv_has ls 5 [(0, .ref (g 0 0)), (1, .ref (g 0 4)), (2, .int (nI 6)), (3, .int (nI 0))] := lv_to (lv_sub (l' := [(0, .ref (g 0 0)), (1, .ref (g 0 4)), (2, .int (nI 6)), (3, .int 0)]) hl [3, 2, 1, 0] rfl) (lr (lr (lr (lc (show (0 : Int32) = nI 0 from rfl) rfl))))
    refine loop_up (N := 6) (P := fun i H locs ls => Wd G A s H locs (cw G g (foS (fun y d => frD y d false) (pA (pA x 0 1 (cpZ (sA x 0 1) 8)) 0 2 (cpZ (sA x 0 2) 8)) i)) ∧ lv_has ls 5 [(0, .ref (g 0 0)), (1, .ref (g 0 4)), (2, .int (nI 6)), (3, .int (nI i))]) (X := fun H locs ls => W p l e (Rm 1 21) s m ([.ref (g 0 0)] : List Value).toArray below meth c H locs 0 0 (MQ below (va_Qv (fun u => u = anS x) (PostW G (cw G g) A) A) ([.ref (g 0 0)] : List Value).toArray s (Rm 1 21).cells (Rm 1 21).slots A) (F0 m 38 ls [])) ?_ 0 (by omega) H locs ls ⟨hw, hl0⟩
    clear hl0 hl hw
    intro i hi ih H locs ls hP
    obtain ⟨hw, hl⟩ := hP
    refine lv_iload_n hx hb dX3_startAnew_38 rfl (lv_at hl 3 rfl) ?_
    refine lv_iload_n hx hb dX3_startAnew_39 rfl (lv_at hl 2 rfl) ?_
    refine lv_icmp_ge (tgt := 60) hx hb dX3_startAnew_40 (by decide) (fun h40 => ?_) (fun h40 => ?_)
    · skip
      have hE : i = 6 := lp_end h40 rfl rfl hi (by decide)
      subst hE
      refine lv_aload_n hx hb dX3_startAnew_60 rfl (lv_at hl 0 rfl) ?_
      refine lv_iconst (v := 0) hx hb dX3_startAnew_61 (by decide) ?_
      refine pX (k := 5) ⟨by decide, by decide⟩ go hw dX3_startAnew_62 q132 (fun H locs hw => ?_)
      refine lv_aload_n hx hb dX3_startAnew_65 rfl (lv_at hl 0 rfl) ?_
      refine lv_iconst (v := 3) hx hb dX3_startAnew_66 (by decide) ?_
      refine pX (k := 6) ⟨by decide, by decide⟩ go hw dX3_startAnew_67 q133 (fun H locs hw => ?_)
      refine lv_aload_n hx hb dX3_startAnew_70 rfl (lv_at hl 0 rfl) ?_
      refine lv_iconst (v := 0) hx hb dX3_startAnew_71 (by decide) ?_
      refine pX (k := 7) ⟨by decide, by decide⟩ go hw dX3_startAnew_72 q134 (fun H locs hw => ?_)
      refine lv_aload_n hx hb dX3_startAnew_75 rfl (lv_at hl 0 rfl) ?_
      refine lv_iconst (v := 0) hx hb dX3_startAnew_76 (by decide) ?_
      refine pX (k := 8) ⟨by decide, by decide⟩ go hw dX3_startAnew_77 q135 (fun H locs hw => ?_)
      refine lv_aload_n hx hb dX3_startAnew_80 rfl (lv_at hl 0 rfl) ?_
      refine lv_iconst (v := 0) hx hb dX3_startAnew_81 (by decide) ?_
      refine pX (k := 9) ⟨by decide, by decide⟩ go hw dX3_startAnew_82 q136 (fun H locs hw => ?_)
      refine lv_aload_n hx hb dX3_startAnew_85 rfl (lv_at hl 0 rfl) ?_
      refine lv_iconst (v := 0) hx hb dX3_startAnew_86 (by decide) ?_
      refine pX (k := 10) ⟨by decide, by decide⟩ go hw dX3_startAnew_87 q137 (fun H locs hw => ?_)
      refine lv_aload_n hx hb dX3_startAnew_90 rfl (lv_at hl 0 rfl) ?_
      refine lv_iconst (v := 0) hx hb dX3_startAnew_91 (by decide) ?_
      refine pX (k := 11) ⟨by decide, by decide⟩ go hw dX3_startAnew_92 q138 (fun H locs hw => ?_)
      refine ret_v (wf := cw G g) go hw dX3_startAnew_95 ?_
      rfl
    · skip
      have hlt : i < 6 := lp_in h40 rfl rfl hi (by decide)
      refine lv_aload_n hx hb dX3_startAnew_43 rfl (lv_at hl 1 rfl) ?_
      refine lv_iload_n hx hb dX3_startAnew_44 rfl (lv_at hl 3 rfl) ?_
      refine aDl (d := i) (by exact hlt) go hw dX3_startAnew_45 ?_
      refine lv_astore (lv' := [(4, .ref (g (2 + i) 0)), (0, .ref (g 0 0)), (1, .ref (g 0 4)), (2, .int (nI 6)), (3, .int (nI i))]) hx hb dX3_startAnew_46 hl (by decide) rfl (fun ls hl => ?_)
      refine lv_aload hx hb dX3_startAnew_48 (lv_at hl 0 rfl) ?_
      refine lv_iconst (v := 0) hx hb dX3_startAnew_50 (by decide) ?_
      refine cal_Vv' (kX0_becomeFree l G g (foS (fun y d => frD y d false) (pA (pA x 0 1 (cpZ (sA x 0 1) 8)) 0 2 (cpZ (sA x 0 2) 8)) i) i hlt false) go hw dX3_startAnew_51 (And.intro q123 (And.intro q3 q126)) q124 q125 kyX0_becomeFree ⟨Nat.le_of_ble_eq_true rfl, Nat.le_of_ble_eq_true rfl⟩ (rc_D hlt) hl.1 rfl (Nat.le_of_ble_eq_true rfl) ⟨rfl, rfl⟩ ⟨Nat.le_of_ble_eq_true rfl, Nat.le_of_ble_eq_true rfl⟩ (fun H locs hw => ?_)
      refine lv_iinc (v := nI (i + 1)) (lv' := [(3, .int (nI (i + 1))), (4, .ref (g (2 + i) 0)), (0, .ref (g 0 0)), (1, .ref (g 0 4)), (2, .int (nI 6))]) hx hb dX3_startAnew_54 hl (k := 4) rfl (nI_1 _) (by decide) rfl (fun ls hl => ?_)
      refine lv_goto (tgt := 38) hx hb dX3_startAnew_57 (by decide) ?_
      have hl9 : lv_has ls 5 [(0, .ref (g 0 0)), (1, .ref (g 0 4)), (2, .int (nI 6)), (3, .int (nI (i + 1)))] := lv_sub hl [2, 3, 4, 0] rfl
      rw [show frD (foS (fun y d => frD y d false) (pA (pA x 0 1 (cpZ (sA x 0 1) 8)) 0 2 (cpZ (sA x 0 2) 8)) i) i false = foS (fun y d => frD y d false) (pA (pA x 0 1 (cpZ (sA x 0 1) 8)) 0 2 (cpZ (sA x 0 2) 8)) (i + 1) from by rfl] at hw
      exact ih _ _ _ (by omega) ⟨hw, hl9⟩
  · skip
    have hlt : i < 8 := lp_in h5 rfl rfl hi (by decide)
    refine lv_aload_n hx hb dX3_startAnew_8 rfl (lv_at hl 0 rfl) ?_
    refine gX (k := 1) (v := .ref (g 0 2)) rfl (by decide) rfl go hw dX3_startAnew_9 q128 ?_
    refine lv_iload_n hx hb dX3_startAnew_12 rfl (lv_at hl 1 rfl) ?_
    refine lv_iconst (v := 0) hx hb dX3_startAnew_13 (by decide) ?_
    refine sX (k := 1) (j := i) (by decide) (by exact hlt) go hw dX3_startAnew_14 (fun H locs hw => ?_)
    rw [show sA (pA (pA x 0 1 (cpZ (sA x 0 1) i)) 0 2 (cpZ (sA x 0 2) i)) 0 1 = cpZ (sA x 0 1) i from ((sA_ne (by omega)).trans sA_eq)] at hw
    refine lv_aload_n hx hb dX3_startAnew_15 rfl (lv_at hl 0 rfl) ?_
    refine gX (k := 2) (v := .ref (g 0 3)) rfl (by decide) rfl go hw dX3_startAnew_16 q129 ?_
    refine lv_iload_n hx hb dX3_startAnew_19 rfl (lv_at hl 1 rfl) ?_
    refine lv_iconst (v := 0) hx hb dX3_startAnew_20 (by decide) ?_
    refine sX (k := 2) (j := i) (by decide) (by exact hlt) go hw dX3_startAnew_21 (fun H locs hw => ?_)
    rw [show sA (pA (pA (pA x 0 1 (cpZ (sA x 0 1) i)) 0 2 (cpZ (sA x 0 2) i)) 0 1 (upd (cpZ (sA x 0 1) i) i 0)) 0 2 = cpZ (sA x 0 2) i from ((sA_ne (by omega)).trans sA_eq)] at hw
    refine lv_iinc (v := nI (i + 1)) (lv' := [(1, .int (nI (i + 1))), (0, .ref (g 0 0))]) hx hb dX3_startAnew_22 hl (k := 1) rfl (nI_1 _) (by decide) rfl (fun ls hl => ?_)
    refine lv_goto (tgt := 2) hx hb dX3_startAnew_25 (by decide) ?_
    have hl9 : lv_has ls 5 [(0, .ref (g 0 0)), (1, .int (nI (i + 1)))] := lv_sub hl [1, 0] rfl
    rw [show pA (pA (pA (pA x 0 1 (cpZ (sA x 0 1) i)) 0 2 (cpZ (sA x 0 2) i)) 0 1 (upd (cpZ (sA x 0 1) i) i 0)) 0 2 (upd (cpZ (sA x 0 2) i) i 0) = pA (pA x 0 1 (cpZ (sA x 0 1) (i + 1))) 0 2 (cpZ (sA x 0 2) (i + 1)) from by rw [pA_over, cpZ_s, cpZ_s]] at hw
    exact ih _ _ _ (by omega) ⟨hw, hl9⟩

set_option maxHeartbeats 4000000 in
set_option maxRecDepth 100000 in
theorem kX3_nextEntry (l : Launch) (G : Cx) (g : Nat → Nat → Nat) (x : Sg) (c0 : Nat) (hc : sI x 0 5 = nI c0) (hcs : c0 ≤ sN x) (hc5 : c0 < 512) : Cq l G yX3_nextEntry cX3_nextEntry 2 (.object "LateChecks$Entry") ({ frames := 2, cells := 3, slots := 24, locals := 32 } : Room) (cw G g) [.ref (g 0 0)] x (fun r u => (∃ a, u = wA a (nxS x c0)) ∧ r = some (sE u c0 0)) := by
  refine Cq.mk (by decide) (Nat.le_of_ble_eq_true rfl) ?_
  intro p e s m below meth c A ls go hw hl
  generalize s.heap = H at hw ⊢
  generalize ([] : List Loc) = locs at hw ⊢
  have hx := go.1
  have hb := go.2.1
  have hl : lv_has ls 2 [(0, .ref (g 0 0))] := hl
  by_cases hsn : c0 < sN x
  · skip
    refine lv_aload_n hx hb dX3_nextEntry_0 rfl (lv_at hl 0 rfl) ?_
    refine gX (k := 4) (v := .ref (g 0 5)) rfl (by decide) rfl go hw dX3_nextEntry_1 q131 ?_
    refine lv_aload_n hx hb dX3_nextEntry_4 rfl (lv_at hl 0 rfl) ?_
    refine gXi (k := 5) (v := nI c0) ⟨by decide, by decide⟩ hc go hw dX3_nextEntry_5 q132 ?_
    refine aEn (n := c0) (by exact hc5) go hw dX3_nextEntry_8 ?_
    rw [show entF x c0 = some (sE x c0 0) from if_pos hsn]
    refine lv_astore_n (lv' := [(1, .ref (sE x c0 0)), (0, .ref (g 0 0))]) hx hb dX3_nextEntry_9 rfl hl (by decide) rfl (fun ls hl => ?_)
    refine lv_aload_n hx hb dX3_nextEntry_10 rfl (lv_at hl 0 rfl) ?_
    refine lv_ifnonnull (tgt := 32) hx hb dX3_nextEntry_11 (by decide) ?_
    refine lv_aload_n hx hb dX3_nextEntry_32 rfl (lv_at hl 1 rfl) ?_
    refine lv_dup hx hb dX3_nextEntry_33 rfl ?_
    refine gXi (k := 5) (v := nI c0) ⟨by decide, by decide⟩ hc go hw dX3_nextEntry_34 q132 ?_
    refine lv_iconst (v := 1) hx hb dX3_nextEntry_37 (by decide) ?_
    refine lv_iadd hx hb dX3_nextEntry_38 ?_
    refine toI (show (nI c0) + 1 = nI (c0 + 1) from nI_1 _) ?_
    refine pX (k := 5) ⟨by decide, by decide⟩ go hw dX3_nextEntry_39 q132 (fun H locs hw => ?_)
    refine lv_aload_n hx hb dX3_nextEntry_42 rfl (lv_at hl 0 rfl) ?_
    refine W.widen (k := 3) (n := 24) (by omega) (by omega) ?_
    refine ret_q (r := (some (sE x c0 0))) (wf := cw G g) go hw dX3_nextEntry_43 ?_
    exact ⟨⟨x.1, by rw [nxS, if_pos hsn]; rfl⟩, rfl⟩
  · skip
    obtain rfl : c0 = sN x := by omega
    refine lv_aload_n hx hb dX3_nextEntry_0 rfl (lv_at hl 0 rfl) ?_
    refine gX (k := 4) (v := .ref (g 0 5)) rfl (by decide) rfl go hw dX3_nextEntry_1 q131 ?_
    refine lv_aload_n hx hb dX3_nextEntry_4 rfl (lv_at hl 0 rfl) ?_
    refine gXi (k := 5) (v := nI (sN x)) ⟨by decide, by decide⟩ hc go hw dX3_nextEntry_5 q132 ?_
    refine aEn (n := sN x) (by exact hc5) go hw dX3_nextEntry_8 ?_
    rw [show entF x (sN x) = none from if_neg hsn]
    refine lv_astore_nN (lv' := [(1, .null), (0, .ref (g 0 0))]) hx hb dX3_nextEntry_9 rfl hl (by decide) rfl (fun ls hl => ?_)
    refine lv_aload_nN hx hb dX3_nextEntry_10 rfl (lv_at hl 0 rfl) ?_
    refine lv_ifnonnullN hx hb dX3_nextEntry_11 ?_
    refine new_o (ci := 1) (fs := [.int 0, .int 0, .int 0, .int 0, .int 0, .int 0, .null, .null]) inX1 tyX1_ok rfl (fun j hj => by rcases (show j = 0 ∨ j = 1 ∨ j = 2 ∨ j = 3 ∨ j = 4 ∨ j = 5 ∨ j = 6 ∨ j = 7 by omega) with rfl | rfl | rfl | rfl | rfl | rfl | rfl | rfl <;> rfl) q325 q9 go hw dX3_nextEntry_14 q52 (Nat.le_of_ble_eq_true rfl) (Nat.le_of_ble_eq_true rfl) (fun q0 H hwE => ?_)
    refine lv_dup hx hb dX3_nextEntry_17 rfl ?_
    refine cal_INvF (wr := cw G g x) (kX1_init l G q0) go hwE dX3_nextEntry_18 (And.intro hwE.2.2.2.1.2.1.2.1 (And.intro q9 q328)) rfl q327 kyX1_init ⟨Nat.le_of_ble_eq_true rfl, Nat.le_of_ble_eq_true rfl⟩ hl.1 rfl (Nat.le_of_ble_eq_true rfl) ⟨Nat.le_of_ble_eq_true rfl, Nat.le_of_ble_eq_true rfl⟩ (fun u H locs hu hwE => ?_)
    obtain ⟨q1, q2, rfl⟩ := hu
    have hw := hwE.left
    refine lv_astore_n (lv' := [(1, .ref q0), (0, .ref (g 0 0))]) hx hb dX3_nextEntry_21 rfl hl (by decide) rfl (fun ls hl => ?_)
    refine lv_aload_n hx hb dX3_nextEntry_22 rfl (lv_at hl 1 rfl) ?_
    refine gX (k := 4) (v := .ref (g 0 5)) rfl (by decide) rfl go hw dX3_nextEntry_23 q131 ?_
    refine lv_aload_n hx hb dX3_nextEntry_26 rfl (lv_at hl 1 rfl) ?_
    refine gXi (k := 5) (v := nI (sN x)) ⟨by decide, by decide⟩ hc go hw dX3_nextEntry_27 q132 ?_
    refine lv_aload_n hx hb dX3_nextEntry_30 rfl (lv_at hl 0 rfl) ?_
    obtain ⟨kq, hkq⟩ := wl_get (L := cIx (sN x)) (ad := cad g x) (E := cE G g x) (i := (0, 5)) (cIx_0 (by omega))
    have hkq : (cw G g x)[kq]? = some (g 0 5, cE G g x (0, 5)) := hkq
    have hkl := (List.getElem?_eq_some_iff.mp hkq).1
    refine va_astq hx hb hwE.2.2.2.1.1 hwE.1 hwE.2.1 hwE.2.2.1 kq 3 ((cw G g x).length + 0) 1 (cA := G.2.1 3) (n := 512) (f := entF x) (r := (RX1, TX1, 8)) (vs := [.int 0, .int 0, .int 0, .int 0, .int 0, .int 0, .ref q1, .ref q2]) (by rw [List.getElem?_append_left hkl]; exact hkq) rfl (at_right (a := cw G g x) (b := ew G q0 (some (q1, q2))) (k := 0) rfl) rfl (vp_in_nI hc5 (by decide)) dX3_nextEntry_31 (fun H locs hP hD hS => ?_)
    rw [nI_clamp (by omega), List.set_append_left _ _ hkl, cw_addE hwE.left.2.1 hkq] at hP hD
    have hw : Wd G A s H locs (cw G g (addE x q0 q1 q2)) := ⟨hP, hD, hS, hwE.2.2.2.1, hwE.2.2.2.2⟩
    refine lv_aload_n hx hb dX3_nextEntry_32 rfl (lv_at hl 1 rfl) ?_
    refine lv_dup hx hb dX3_nextEntry_33 rfl ?_
    refine gXi (k := 5) (v := nI (sN x)) ⟨by decide, by decide⟩ ((sI_addE x q0 q1 q2 0 5).trans ((if_neg (by omega)).trans hc)) go hw dX3_nextEntry_34 q132 ?_
    refine lv_iconst (v := 1) hx hb dX3_nextEntry_37 (by decide) ?_
    refine lv_iadd hx hb dX3_nextEntry_38 ?_
    refine toI (show (nI (sN x)) + 1 = nI (sN x + 1) from nI_1 _) ?_
    refine pX (k := 5) ⟨by decide, by decide⟩ go hw dX3_nextEntry_39 q132 (fun H locs hw => ?_)
    refine lv_aload_n hx hb dX3_nextEntry_42 rfl (lv_at hl 0 rfl) ?_
    refine ret_q (r := (some (q0))) (wf := cw G g) go hw dX3_nextEntry_43 ?_
    exact ⟨⟨(addE x q0 q1 q2).1, by rw [nxS, if_neg hsn]; rfl⟩, by simp [sE_pI, sE_addE]⟩

set_option maxHeartbeats 4000000 in
set_option maxRecDepth 100000 in
theorem kX3_put (l : Launch) (G : Cx) (g : Nat → Nat → Nat) (x : Sg) (c0 : Nat) (hc : sI x 0 5 = nI c0) (hcs : c0 ≤ sN x) (hc5 : c0 < 512) (a v : Int32) : Ci l G yX3_put cX3_put 3 .int ({ frames := 3, cells := 3, slots := 24, locals := 53 } : Room) (cw G g) [.ref (g 0 0), .int a, .int v] x (fun r u => r = (puC x c0 a v).1 ∧ ∃ ad, u = wA ad (puC x c0 a v).2) := by
  refine Ci.mk (by decide) (Nat.le_of_ble_eq_true rfl) ?_
  intro p e s m below meth c A ls go hw hl
  generalize s.heap = H at hw ⊢
  generalize ([] : List Loc) = locs at hw ⊢
  have hx := go.1
  have hb := go.2.1
  have hl : lv_has ls 3 [(0, .ref (g 0 0)), (1, .int a), (2, .int v)] := hl
  refine lv_iload_n hx hb dX3_put_0 rfl (lv_at hl 1 rfl) ?_
  refine cal_S (kX3_isItem l G a) go hw.2.2.1 hw.2.2.2.1 dX3_put_1 (And.intro q311 (And.intro q1 q313)) q312 kyX3_isItem ⟨rfl, rfl⟩ ⟨Nat.le_of_ble_eq_true rfl, Nat.le_of_ble_eq_true rfl⟩ hl.1 rfl (Nat.le_of_ble_eq_true rfl) ⟨Nat.le_of_ble_eq_true rfl, Nat.le_of_ble_eq_true rfl⟩ ?_
  refine lv_if_ne (tgt := 10) hx hb dX3_put_4 (by decide) (fun h4 => ?_) (fun h4 => ?_)
  · skip
    have h4 := bI_1 h4
    refine lv_iload_n hx hb dX3_put_10 rfl (lv_at hl 2 rfl) ?_
    refine cal_S (kX3_isValue l G v) go hw.2.2.1 hw.2.2.2.1 dX3_put_11 (And.intro q314 (And.intro q1 q316)) q315 kyX3_isValue ⟨rfl, rfl⟩ ⟨Nat.le_of_ble_eq_true rfl, Nat.le_of_ble_eq_true rfl⟩ hl.1 rfl (Nat.le_of_ble_eq_true rfl) ⟨Nat.le_of_ble_eq_true rfl, Nat.le_of_ble_eq_true rfl⟩ ?_
    refine lv_if_ne (tgt := 20) hx hb dX3_put_14 (by decide) (fun h14 => ?_) (fun h14 => ?_)
    · skip
      have h14 := bI_1 h14
      refine lv_aload_n hx hb dX3_put_20 rfl (lv_at hl 0 rfl) ?_
      refine lv_iconst (v := 3) hx hb dX3_put_21 (by decide) ?_
      refine cal_Vi' (kX3_howMany l G g x 3) go hw dX3_put_22 (And.intro q317 (And.intro q1 q320)) q319 qs2 kyX3_howMany ⟨Nat.le_of_ble_eq_true rfl, Nat.le_of_ble_eq_true rfl⟩ rc_X hl.1 rfl (Nat.le_of_ble_eq_true rfl) ⟨rfl, rfl⟩ ⟨Nat.le_of_ble_eq_true rfl, Nat.le_of_ble_eq_true rfl⟩ (fun H locs hw => ?_)
      refine lv_if_le (tgt := 31) hx hb dX3_put_25 (by decide) (fun h25 => ?_) (fun h25 => ?_)
      · skip
        refine lv_aload_n hx hb dX3_put_31 rfl (lv_at hl 0 rfl) ?_
        refine gXi (k := 5) (v := nI c0) ⟨by decide, by decide⟩ hc go hw dX3_put_32 q132 ?_
        refine lv_sipush (v := 512) hx hb dX3_put_35 (by decide) ?_
        refine lv_icmp_lt (tgt := 44) hx hb dX3_put_38 (by decide) (fun h38 => ?_) (fun h38 => absurd h38 (by exact fun q => q (nI_lt (b := 512) hc5 (by decide))))
        obtain ⟨i, hi, rfl⟩ := inB_of (n := 8) h4 rfl (by decide)
        have ci : (nI i).toNatClampNeg = i := nI_clamp (by omega)
        refine lv_aload_n hx hb dX3_put_44 rfl (lv_at hl 0 rfl) ?_
        refine cal_Vq (kX3_nextEntry l G g x c0 hc hcs hc5) go hw dX3_put_45 (And.intro q321 (And.intro q1 q324)) q323 qs3 kyX3_nextEntry ⟨Nat.le_of_ble_eq_true rfl, Nat.le_of_ble_eq_true rfl⟩ rc_X hl.1 rfl (Nat.le_of_ble_eq_true rfl) ⟨Nat.le_of_ble_eq_true rfl, Nat.le_of_ble_eq_true rfl⟩ (fun r u H locs hu hw => ?_)
        obtain ⟨⟨a9, rfl⟩, rfl⟩ := hu
        refine lv_iload_n hx hb dX3_put_48 rfl (lv_at hl 1 rfl) ?_
        refine lv_iload_n hx hb dX3_put_49 rfl (lv_at hl 2 rfl) ?_
        refine cal_Vv' (kX1_keepWrite l G g (wA a9 (nxS x c0)) c0 (nxS_lt a9 hcs) i (by omega) v) go hw dX3_put_50 (And.intro q363 (And.intro q9 q366)) q364 q365 kyX1_keepWrite ⟨Nat.le_of_ble_eq_true rfl, Nat.le_of_ble_eq_true rfl⟩ (rc_E (x := wA a9 (nxS x c0)) (nxS_lt a9 hcs)) hl.1 rfl (Nat.le_of_ble_eq_true rfl) ⟨rfl, rfl⟩ ⟨Nat.le_of_ble_eq_true rfl, Nat.le_of_ble_eq_true rfl⟩ (fun H locs hw => ?_)
        refine lv_aload_n hx hb dX3_put_53 rfl (lv_at hl 0 rfl) ?_
        refine lv_iload_n hx hb dX3_put_54 rfl (lv_at hl 1 rfl) ?_
        refine lv_iload_n hx hb dX3_put_55 rfl (lv_at hl 2 rfl) ?_
        refine cal_Vv' (kX3_change l G g (kwE (wA a9 (nxS x c0)) c0 i v) i (by omega) v) go hw dX3_put_56 (And.intro q370 (And.intro q1 q373)) q372 qs4 kyX3_change ⟨Nat.le_of_ble_eq_true rfl, Nat.le_of_ble_eq_true rfl⟩ rc_X hl.1 rfl (Nat.le_of_ble_eq_true rfl) ⟨rfl, rfl⟩ ⟨Nat.le_of_ble_eq_true rfl, Nat.le_of_ble_eq_true rfl⟩ (fun H locs hw => ?_)
        refine lv_aload_n hx hb dX3_put_59 rfl (lv_at hl 0 rfl) ?_
        refine gXi (k := 5) (v := sI (chS (kwE (wA a9 (nxS x c0)) c0 i v) i v) 0 5) ⟨by decide, by decide⟩ rfl go hw dX3_put_60 q132 ?_
        refine ret_i (wf := cw G g) go hw dX3_put_63 ?_
        exact ⟨by simp [puC, chS, kwE, sI_pI, sI_pA, *]; rw [if_neg (by omega)]; exact (nxS_I (by omega)).trans (if_pos ⟨rfl, rfl⟩), a9, by simp [puC, *]; rfl⟩
      · skip
        refine lv_bipush (v := (-4)) hx hb dX3_put_28 (by decide) ?_
        refine W.widen (k := 3) (n := 24) (by omega) (by omega) ?_
        refine ret_i (wf := cw G g) go hw dX3_put_30 ?_
        exact ⟨by simp [puC, *], x.1, by simp [puC, *]; rfl⟩
    · skip
      have h14 := bI_0 h14
      refine lv_bipush (v := (-3)) hx hb dX3_put_17 (by decide) ?_
      refine W.widen (k := 3) (n := 24) (by omega) (by omega) ?_
      refine ret_i (wf := cw G g) go hw dX3_put_19 ?_
      exact ⟨by simp [puC, *], x.1, by simp [puC, *]; rfl⟩
  · skip
    have h4 := bI_0 h4
    refine lv_bipush (v := (-2)) hx hb dX3_put_7 (by decide) ?_
    refine W.widen (k := 3) (n := 24) (by omega) (by omega) ?_
    refine ret_i (wf := cw G g) go hw dX3_put_9 ?_
    exact ⟨by simp [puC, *], x.1, by simp [puC, *]; rfl⟩

theorem frD_I0 (x : Sg) (d : Nat) (b : Bool) (k : Nat) : sI (frD x d b) 0 k = sI x 0 k := by
  cases b <;> simp only [frD, if_true, if_false, Bool.false_eq_true] <;> (repeat rw [sI_ne (by omega)])
theorem kdE_I {x : Sg} {n d : Nat} {w : Int32} {o k : Nat} (ho : o < 8) : sI (kdE x n d w) o k = sI x o k := by
  unfold kdE kd0
  rw [sI_pA, sI_pA]
  repeat rw [sI_ne (by omega)]

set_option maxHeartbeats 4000000 in
set_option maxRecDepth 100000 in
theorem kX3_keep (l : Launch) (G : Cx) (g : Nat → Nat → Nat) (x : Sg) (c0 : Nat) (hc : sI x 0 5 = nI c0) (hcs : c0 ≤ sN x) (hc5 : c0 < 512) (d : Nat) (hd : d < 6) (w : Int32) : Ci l G yX3_keep cX3_keep 4 .int ({ frames := 3, cells := 3, slots := 24, locals := 53 } : Room) (cw G g) [.ref (g 0 0), .ref (g (2 + d) 0), .int w] x (fun r u => r = nI (c0 + 1) ∧ ∃ ad, u = wA ad (keS x c0 d w)) := by
  refine Ci.mk (by decide) (Nat.le_of_ble_eq_true rfl) ?_
  intro p e s m below meth c A ls go hw hl
  generalize s.heap = H at hw ⊢
  generalize ([] : List Loc) = locs at hw ⊢
  have hx := go.1
  have hb := go.2.1
  have hl : lv_has ls 4 [(0, .ref (g 0 0)), (1, .ref (g (2 + d) 0)), (2, .int w)] := hl
  refine lv_aload_n hx hb dX3_keep_0 rfl (lv_at hl 0 rfl) ?_
  refine cal_Vq (kX3_nextEntry l G g x c0 hc hcs hc5) go hw dX3_keep_1 (And.intro q321 (And.intro q1 q324)) q323 qs3 kyX3_nextEntry ⟨Nat.le_of_ble_eq_true rfl, Nat.le_of_ble_eq_true rfl⟩ rc_X hl.1 rfl (Nat.le_of_ble_eq_true rfl) ⟨Nat.le_of_ble_eq_true rfl, Nat.le_of_ble_eq_true rfl⟩ (fun r u H locs hu hw => ?_)
  obtain ⟨⟨a9, rfl⟩, rfl⟩ := hu
  refine lv_aload_n hx hb dX3_keep_4 rfl (lv_at hl 1 rfl) ?_
  refine lv_iload_n hx hb dX3_keep_5 rfl (lv_at hl 2 rfl) ?_
  refine cal_Vv' (kX1_keepDeal l G g (wA a9 (nxS x c0)) c0 (nxS_lt a9 hcs) d hd w) go hw dX3_keep_6 (And.intro q480 (And.intro q9 q483)) q481 q482 kyX1_keepDeal ⟨Nat.le_of_ble_eq_true rfl, Nat.le_of_ble_eq_true rfl⟩ (rc_E (x := wA a9 (nxS x c0)) (nxS_lt a9 hcs)) hl.1 rfl (Nat.le_of_ble_eq_true rfl) ⟨rfl, rfl⟩ ⟨Nat.le_of_ble_eq_true rfl, Nat.le_of_ble_eq_true rfl⟩ (fun H locs hw => ?_)
  refine lv_iconst (v := 0) hx hb dX3_keep_9 (by decide) ?_
  refine lv_istore_n (lv' := [(3, .int 0), (0, .ref (g 0 0)), (1, .ref (g (2 + d) 0)), (2, .int w)]) hx hb dX3_keep_10 rfl hl (by decide) rfl (fun ls hl => ?_)
  rw [show kdE (wA a9 (nxS x c0)) c0 d w = foS (kpS d) (kdE (wA a9 (nxS x c0)) c0 d w) 0 from by rfl] at hw
  have hl0 : lv_has ls 4 [(0, .ref (g 0 0)), (1, .ref (g (2 + d) 0)), (3, .int (nI 0))] := lv_to (lv_sub (l' := [(0, .ref (g 0 0)), (1, .ref (g (2 + d) 0)), (3, .int 0)]) hl [1, 2, 0] rfl) (lr (lr (lc (show (0 : Int32) = nI 0 from rfl) rfl)))
  refine loop_up (N := 8) (P := fun i H locs ls => Wd G A s H locs (cw G g (foS (kpS d) (kdE (wA a9 (nxS x c0)) c0 d w) i)) ∧ lv_has ls 4 [(0, .ref (g 0 0)), (1, .ref (g (2 + d) 0)), (3, .int (nI i))]) (X := fun H locs ls => W p l e ({ frames := 3, cells := 3, slots := 24, locals := 53 } : Room) s m ([.ref (g 0 0), .ref (g (2 + d) 0), .int w] : List Value).toArray below meth c H locs 3 24 (MQ below (va_Qi (fun r u => r = nI (c0 + 1) ∧ ∃ ad, u = wA ad (keS x c0 d w)) (PostW G (cw G g) A) A) ([.ref (g 0 0), .ref (g (2 + d) 0), .int w] : List Value).toArray s ({ frames := 3, cells := 3, slots := 24, locals := 53 } : Room).cells ({ frames := 3, cells := 3, slots := 24, locals := 53 } : Room).slots A) (F0 m 11 ls [])) ?_ 0 (by omega) H locs ls ⟨hw, hl0⟩
  clear hl0 hl hw
  intro i hi ih H locs ls hP
  obtain ⟨hw, hl⟩ := hP
  refine lv_iload_n hx hb dX3_keep_11 rfl (lv_at hl 2 rfl) ?_
  refine lv_bipush (v := 8) hx hb dX3_keep_12 (by decide) ?_
  refine lv_icmp_ge (tgt := 45) hx hb dX3_keep_14 (by decide) (fun h14 => ?_) (fun h14 => ?_)
  · skip
    have hE : i = 8 := lp_end h14 rfl rfl hi (by decide)
    subst hE
    refine lv_aload_n hx hb dX3_keep_45 rfl (lv_at hl 1 rfl) ?_
    refine lv_iconst (v := 0) hx hb dX3_keep_46 (by decide) ?_
    refine cal_Vv' (kX0_becomeFree l G g (foS (kpS d) (kdE (wA a9 (nxS x c0)) c0 d w) 8) d hd false) go hw dX3_keep_47 (And.intro q123 (And.intro q3 q126)) q124 q125 kyX0_becomeFree ⟨Nat.le_of_ble_eq_true rfl, Nat.le_of_ble_eq_true rfl⟩ (rc_D hd) hl.1 rfl (Nat.le_of_ble_eq_true rfl) ⟨rfl, rfl⟩ ⟨Nat.le_of_ble_eq_true rfl, Nat.le_of_ble_eq_true rfl⟩ (fun H locs hw => ?_)
    refine lv_aload_n hx hb dX3_keep_50 rfl (lv_at hl 0 rfl) ?_
    refine gXi (k := 5) (v := sI (frD (foS (kpS d) (kdE (wA a9 (nxS x c0)) c0 d w) 8) d false) 0 5) ⟨by decide, by decide⟩ rfl go hw dX3_keep_51 q132 ?_
    refine ret_i (wf := cw G g) go hw dX3_keep_54 ?_
    refine ⟨?_, a9, ?_⟩
    · rw [frD_I0, kpS_I, kdE_I (by omega)]; exact (nxS_I (by omega)).trans (if_pos ⟨rfl, rfl⟩)
    · rw [show kdE (wA a9 (nxS x c0)) c0 d w = wA a9 (kdE (nxS x c0) c0 d w) from rfl, kpS_w, frD_w]; rfl
  · skip
    have hlt : i < 8 := lp_in h14 rfl rfl hi (by decide)
    refine lv_aload_n hx hb dX3_keep_17 rfl (lv_at hl 1 rfl) ?_
    refine gDi (d := d) (k := 6) (v := sI (foS (kpS d) (kdE (wA a9 (nxS x c0)) c0 d w) i) (2 + d) 6) hd (by decide) rfl go hw dX3_keep_18 q77 ?_
    refine lv_iload_n hx hb dX3_keep_21 rfl (lv_at hl 2 rfl) ?_
    refine cal_S (kX3_has l G (sI (foS (kpS d) (kdE (wA a9 (nxS x c0)) c0 d w) i) (2 + d) 6) (nI i)) go hw.2.2.1 hw.2.2.2.1 dX3_keep_22 (And.intro q393 (And.intro q1 q395)) q394 kyX3_has ⟨rfl, rfl⟩ ⟨Nat.le_of_ble_eq_true rfl, Nat.le_of_ble_eq_true rfl⟩ hl.1 rfl (Nat.le_of_ble_eq_true rfl) ⟨Nat.le_of_ble_eq_true rfl, Nat.le_of_ble_eq_true rfl⟩ ?_
    refine lv_if_eq (tgt := 39) hx hb dX3_keep_25 (by decide) (fun h25 => ?_) (fun h25 => ?_)
    · skip
      have h25 := bI_0 h25
      refine lv_iinc (v := nI (i + 1)) (lv' := [(3, .int (nI (i + 1))), (0, .ref (g 0 0)), (1, .ref (g (2 + d) 0))]) hx hb dX3_keep_39 hl (k := 2) rfl (nI_1 _) (by decide) rfl (fun ls hl => ?_)
      refine lv_goto (tgt := 11) hx hb dX3_keep_42 (by decide) ?_
      have hl9 : lv_has ls 4 [(0, .ref (g 0 0)), (1, .ref (g (2 + d) 0)), (3, .int (nI (i + 1)))] := lv_sub hl [1, 2, 0] rfl
      rw [show foS (kpS d) (kdE (wA a9 (nxS x c0)) c0 d w) i = foS (kpS d) (kdE (wA a9 (nxS x c0)) c0 d w) (i + 1) from by simp [foS, kpS, *]] at hw
      exact ih _ _ _ (by omega) ⟨hw, hl9⟩
    · skip
      have h25 := bI_1 h25
      refine lv_aload_n hx hb dX3_keep_28 rfl (lv_at hl 0 rfl) ?_
      refine lv_iload_n hx hb dX3_keep_29 rfl (lv_at hl 2 rfl) ?_
      refine lv_aload_n hx hb dX3_keep_30 rfl (lv_at hl 1 rfl) ?_
      refine gD (d := d) (k := 11) (v := .ref (g (2 + d) 12)) hd rfl (by decide) rfl go hw dX3_keep_31 q89 ?_
      refine lv_iload_n hx hb dX3_keep_34 rfl (lv_at hl 2 rfl) ?_
      refine aD (d := d) (k := 11) (j := i) hd (by decide) (by exact hlt) go hw dX3_keep_35 ?_
      refine cal_Vv' (kX3_change l G g (foS (kpS d) (kdE (wA a9 (nxS x c0)) c0 d w) i) i (by omega) (sA (foS (kpS d) (kdE (wA a9 (nxS x c0)) c0 d w) i) (2 + d) 11 i)) go hw dX3_keep_36 (And.intro q370 (And.intro q1 q373)) q372 qs4 kyX3_change ⟨Nat.le_of_ble_eq_true rfl, Nat.le_of_ble_eq_true rfl⟩ rc_X hl.1 rfl (Nat.le_of_ble_eq_true rfl) ⟨rfl, rfl⟩ ⟨Nat.le_of_ble_eq_true rfl, Nat.le_of_ble_eq_true rfl⟩ (fun H locs hw => ?_)
      refine lv_iinc (v := nI (i + 1)) (lv' := [(3, .int (nI (i + 1))), (0, .ref (g 0 0)), (1, .ref (g (2 + d) 0))]) hx hb dX3_keep_39 hl (k := 2) rfl (nI_1 _) (by decide) rfl (fun ls hl => ?_)
      refine lv_goto (tgt := 11) hx hb dX3_keep_42 (by decide) ?_
      have hl9 : lv_has ls 4 [(0, .ref (g 0 0)), (1, .ref (g (2 + d) 0)), (3, .int (nI (i + 1)))] := lv_sub hl [1, 2, 0] rfl
      rw [show chS (foS (kpS d) (kdE (wA a9 (nxS x c0)) c0 d w) i) i (sA (foS (kpS d) (kdE (wA a9 (nxS x c0)) c0 d w) i) (2 + d) 11 i) = foS (kpS d) (kdE (wA a9 (nxS x c0)) c0 d w) (i + 1) from by simp [foS, kpS, *]] at hw
      exact ih _ _ _ (by omega) ⟨hw, hl9⟩

set_option maxHeartbeats 4000000 in
set_option maxRecDepth 100000 in
theorem kX3_commit (l : Launch) (G : Cx) (g : Nat → Nat → Nat) (x : Sg) (c0 : Nat) (hc : sI x 0 5 = nI c0) (hcs : c0 ≤ sN x) (hc5 : c0 < 512) (hN : Nm x) (a w : Int32) : Ci l G yX3_commit cX3_commit 5 .int ({ frames := 4, cells := 3, slots := 24, locals := 94 } : Room) (cw G g) [.ref (g 0 0), .int a, .int w] x (fun r u => r = (cmC x c0 a w).1 ∧ ∃ ad, u = wA ad (cmC x c0 a w).2) := by
  refine Ci.mk (by decide) (Nat.le_of_ble_eq_true rfl) ?_
  intro p e s m below meth c A ls go hw hl
  generalize s.heap = H at hw ⊢
  generalize ([] : List Loc) = locs at hw ⊢
  have hx := go.1
  have hb := go.2.1
  have hl : lv_has ls 5 [(0, .ref (g 0 0)), (1, .int a), (2, .int w)] := hl
  refine lv_iload_n hx hb dX3_commit_0 rfl (lv_at hl 1 rfl) ?_
  refine cal_S (kX3_isDeal l G a) go hw.2.2.1 hw.2.2.2.1 dX3_commit_1 (And.intro q382 (And.intro q1 q384)) q383 kyX3_isDeal ⟨rfl, rfl⟩ ⟨Nat.le_of_ble_eq_true rfl, Nat.le_of_ble_eq_true rfl⟩ hl.1 rfl (Nat.le_of_ble_eq_true rfl) ⟨Nat.le_of_ble_eq_true rfl, Nat.le_of_ble_eq_true rfl⟩ ?_
  refine lv_if_ne (tgt := 10) hx hb dX3_commit_4 (by decide) (fun h4 => ?_) (fun h4 => ?_)
  · skip
    have h4 := bI_1 h4
    obtain ⟨d, hd, rfl⟩ := inB_of (n := 6) h4 rfl (by decide)
    have cd : (nI d).toNatClampNeg = d := nI_clamp (by omega)
    refine lv_aload_n hx hb dX3_commit_10 rfl (lv_at hl 0 rfl) ?_
    refine gX (k := 3) (v := .ref (g 0 4)) rfl (by decide) rfl go hw dX3_commit_11 q130 ?_
    refine lv_iload_n hx hb dX3_commit_14 rfl (lv_at hl 1 rfl) ?_
    refine aDl (d := d) (by exact hd) go hw dX3_commit_15 ?_
    refine lv_astore_n (lv' := [(3, .ref (g (2 + d) 0)), (0, .ref (g 0 0)), (1, .int (nI d)), (2, .int w)]) hx hb dX3_commit_16 rfl hl (by decide) rfl (fun ls hl => ?_)
    refine lv_aload_n hx hb dX3_commit_17 rfl (lv_at hl 1 rfl) ?_
    refine lv_aload_n hx hb dX3_commit_18 rfl (lv_at hl 0 rfl) ?_
    refine lv_iload_n hx hb dX3_commit_19 rfl (lv_at hl 3 rfl) ?_
    refine cal_Vi' (kX3_foretell l G g x hN d hd w) go hw dX3_commit_20 (And.intro q437 (And.intro q1 q440)) q439 qs5 kyX3_foretell ⟨Nat.le_of_ble_eq_true rfl, Nat.le_of_ble_eq_true rfl⟩ rc_X hl.1 rfl (Nat.le_of_ble_eq_true rfl) ⟨rfl, rfl⟩ ⟨Nat.le_of_ble_eq_true rfl, Nat.le_of_ble_eq_true rfl⟩ (fun H locs hw => ?_)
    refine lv_istore (lv' := [(4, .int (ftI x d w)), (3, .ref (g (2 + d) 0)), (0, .ref (g 0 0)), (1, .int (nI d)), (2, .int w)]) hx hb dX3_commit_23 hl (by decide) rfl (fun ls hl => ?_)
    refine lv_iload hx hb dX3_commit_25 (lv_at hl 0 rfl) ?_
    refine cal_S (kX3_isFailure l G (ftI x d w)) go hw.2.2.1 hw.2.2.2.1 dX3_commit_27 (And.intro q465 (And.intro q1 q467)) q466 kyX3_isFailure ⟨rfl, rfl⟩ ⟨Nat.le_of_ble_eq_true rfl, Nat.le_of_ble_eq_true rfl⟩ hl.1 rfl (Nat.le_of_ble_eq_true rfl) ⟨Nat.le_of_ble_eq_true rfl, Nat.le_of_ble_eq_true rfl⟩ ?_
    refine lv_if_eq (tgt := 41) hx hb dX3_commit_30 (by decide) (fun h30 => ?_) (fun h30 => ?_)
    · skip
      have h30 := bI_0 h30
      refine lv_iload hx hb dX3_commit_41 (lv_at hl 0 rfl) ?_
      refine lv_if_ge (tgt := 49) hx hb dX3_commit_43 (by decide) (fun h43 => ?_) (fun h43 => ?_)
      · skip
        refine lv_iload_n hx hb dX3_commit_49 rfl (lv_at hl 4 rfl) ?_
        refine lv_iconst (v := 2) hx hb dX3_commit_50 (by decide) ?_
        refine lv_icmp_ne (tgt := 63) hx hb dX3_commit_51 (by decide) (fun h51 => ?_) (fun h51 => ?_)
        · skip
          refine lv_aload_n hx hb dX3_commit_63 rfl (lv_at hl 2 rfl) ?_
          refine lv_aload_n hx hb dX3_commit_64 rfl (lv_at hl 1 rfl) ?_
          refine lv_iload_n hx hb dX3_commit_65 rfl (lv_at hl 4 rfl) ?_
          refine cal_Vi (kX3_keep l G g x c0 hc hcs hc5 d hd w) go hw dX3_commit_66 (And.intro q476 (And.intro q1 q479)) q478 qs14 kyX3_keep ⟨Nat.le_of_ble_eq_true rfl, Nat.le_of_ble_eq_true rfl⟩ rc_X hl.1 rfl (Nat.le_of_ble_eq_true rfl) ⟨Nat.le_of_ble_eq_true rfl, Nat.le_of_ble_eq_true rfl⟩ (fun r u H locs hu hw => ?_)
          obtain ⟨rfl, a9, rfl⟩ := hu
          refine ret_i (wf := cw G g) go hw dX3_commit_69 ?_
          exact ⟨by simp [cmC, *], a9, by simp [cmC, *]⟩
        · skip
          refine lv_aload_n hx hb dX3_commit_54 rfl (lv_at hl 2 rfl) ?_
          refine lv_aload_n hx hb dX3_commit_55 rfl (lv_at hl 2 rfl) ?_
          refine lv_aload_n hx hb dX3_commit_56 rfl (lv_at hl 1 rfl) ?_
          refine cal_Vi' (kX3_rivalsOf l G g x hN d hd) go hw dX3_commit_57 (And.intro q453 (And.intro q1 q456)) q455 qs9 kyX3_rivalsOf ⟨Nat.le_of_ble_eq_true rfl, Nat.le_of_ble_eq_true rfl⟩ rc_X hl.1 rfl (Nat.le_of_ble_eq_true rfl) ⟨rfl, rfl⟩ ⟨Nat.le_of_ble_eq_true rfl, Nat.le_of_ble_eq_true rfl⟩ (fun H locs hw => ?_)
          refine cal_Vv' (kX3_doomAll l G g x hN (riv x d)) go hw dX3_commit_60 (And.intro q472 (And.intro q1 q475)) q474 qs13 kyX3_doomAll ⟨Nat.le_of_ble_eq_true rfl, Nat.le_of_ble_eq_true rfl⟩ rc_X hl.1 rfl (Nat.le_of_ble_eq_true rfl) ⟨rfl, rfl⟩ ⟨Nat.le_of_ble_eq_true rfl, Nat.le_of_ble_eq_true rfl⟩ (fun H locs hw => ?_)
          refine lv_aload_n hx hb dX3_commit_63 rfl (lv_at hl 2 rfl) ?_
          refine lv_aload_n hx hb dX3_commit_64 rfl (lv_at hl 1 rfl) ?_
          refine lv_iload_n hx hb dX3_commit_65 rfl (lv_at hl 4 rfl) ?_
          refine cal_Vi (kX3_keep l G g (dmA x (riv x d)) c0 ((dmA_I _ _ _ _ (by decide)).trans hc) (by rw [dmA_N]; exact hcs) hc5 d hd w) go hw dX3_commit_66 (And.intro q476 (And.intro q1 q479)) q478 qs14 kyX3_keep ⟨Nat.le_of_ble_eq_true rfl, Nat.le_of_ble_eq_true rfl⟩ rc_X hl.1 rfl (Nat.le_of_ble_eq_true rfl) ⟨Nat.le_of_ble_eq_true rfl, Nat.le_of_ble_eq_true rfl⟩ (fun r u H locs hu hw => ?_)
          obtain ⟨rfl, a9, rfl⟩ := hu
          refine ret_i (wf := cw G g) go hw dX3_commit_69 ?_
          subst h51
          exact ⟨by simp [cmC, *], a9, by simp [cmC, *]⟩
      · skip
        refine lv_iload hx hb dX3_commit_46 (lv_at hl 0 rfl) ?_
        refine W.widen (k := 3) (n := 24) (by omega) (by omega) ?_
        refine ret_i (wf := cw G g) go hw dX3_commit_48 ?_
        exact ⟨by simp [cmC, *], x.1, by simp [cmC, *]; rfl⟩
    · skip
      have h30 := bI_1 h30
      refine lv_aload_n hx hb dX3_commit_33 rfl (lv_at hl 2 rfl) ?_
      refine lv_aload_n hx hb dX3_commit_34 rfl (lv_at hl 1 rfl) ?_
      refine lv_iload hx hb dX3_commit_35 (lv_at hl 0 rfl) ?_
      refine cal_Vi' (kX3_lose l G g x d hd (ftI x d w)) go hw dX3_commit_37 (And.intro q468 (And.intro q1 q471)) q470 qs12 kyX3_lose ⟨Nat.le_of_ble_eq_true rfl, Nat.le_of_ble_eq_true rfl⟩ rc_X hl.1 rfl (Nat.le_of_ble_eq_true rfl) ⟨rfl, rfl⟩ ⟨Nat.le_of_ble_eq_true rfl, Nat.le_of_ble_eq_true rfl⟩ (fun H locs hw => ?_)
      refine W.widen (k := 3) (n := 24) (by omega) (by omega) ?_
      refine ret_i (wf := cw G g) go hw dX3_commit_40 ?_
      exact ⟨by simp [cmC, *], _, by simp [cmC, *]; rfl⟩
  · skip
    have h4 := bI_0 h4
    refine lv_bipush (v := (-2)) hx hb dX3_commit_7 (by decide) ?_
    refine W.widen (k := 3) (n := 24) (by omega) (by omega) ?_
    refine ret_i (wf := cw G g) go hw dX3_commit_9 ?_
    exact ⟨by simp [cmC, *], x.1, by simp [cmC, *]; rfl⟩

set_option maxHeartbeats 4000000 in
set_option maxRecDepth 100000 in
theorem kX3_settle (l : Launch) (G : Cx) (g : Nat → Nat → Nat) (x : Sg) (c0 : Nat) (hc : sI x 0 5 = nI c0) (hcs : c0 ≤ sN x) (hc5 : c0 < 512) (hN : Nm x) : Ci l G yX3_settle cX3_settle 3 .int ({ frames := 4, cells := 3, slots := 24, locals := 76 } : Room) (cw G g) [.ref (g 0 0)] x (fun r u => r = (stC x c0).1 ∧ ∃ ad, u = wA ad (stC x c0).2) := by
  refine Ci.mk (by decide) (Nat.le_of_ble_eq_true rfl) ?_
  intro p e s m below meth c A ls go hw hl
  generalize s.heap = H at hw ⊢
  generalize ([] : List Loc) = locs at hw ⊢
  have hx := go.1
  have hb := go.2.1
  have hl : lv_has ls 3 [(0, .ref (g 0 0))] := hl
  refine lv_aload_n hx hb dX3_settle_0 rfl (lv_at hl 0 rfl) ?_
  refine lv_iconst (v := 0) hx hb dX3_settle_1 (by decide) ?_
  refine cal_Vi' (kX3_sentAt l G g x hN 0) go hw dX3_settle_2 (And.intro q508 (And.intro q1 q511)) q510 qs16 kyX3_sentAt ⟨Nat.le_of_ble_eq_true rfl, Nat.le_of_ble_eq_true rfl⟩ rc_X hl.1 rfl (Nat.le_of_ble_eq_true rfl) ⟨rfl, rfl⟩ ⟨Nat.le_of_ble_eq_true rfl, Nat.le_of_ble_eq_true rfl⟩ (fun H locs hw => ?_)
  refine lv_istore_n (lv' := [(1, .int (saI x 0)), (0, .ref (g 0 0))]) hx hb dX3_settle_5 rfl hl (by decide) rfl (fun ls hl => ?_)
  refine lv_iload_n hx hb dX3_settle_6 rfl (lv_at hl 0 rfl) ?_
  refine cal_S (kX3_isDeal l G (saI x 0)) go hw.2.2.1 hw.2.2.2.1 dX3_settle_7 (And.intro q382 (And.intro q1 q384)) q383 kyX3_isDeal ⟨rfl, rfl⟩ ⟨Nat.le_of_ble_eq_true rfl, Nat.le_of_ble_eq_true rfl⟩ hl.1 rfl (Nat.le_of_ble_eq_true rfl) ⟨Nat.le_of_ble_eq_true rfl, Nat.le_of_ble_eq_true rfl⟩ ?_
  refine lv_if_ne (tgt := 16) hx hb dX3_settle_10 (by decide) (fun h10 => ?_) (fun h10 => ?_)
  · skip
    have h10 := bI_1 h10
    refine lv_aload_n hx hb dX3_settle_16 rfl (lv_at hl 1 rfl) ?_
    refine gX (k := 3) (v := .ref (g 0 4)) rfl (by decide) rfl go hw dX3_settle_17 q130 ?_
    refine lv_iload_n hx hb dX3_settle_20 rfl (lv_at hl 0 rfl) ?_
    refine toI (show (saI x 0 : Int32) = nI ((saI x 0).toNatClampNeg) from by exact (inB_cl (n := 6) h10 rfl (by decide)).1) ?_
    refine aDl (d := (saI x 0).toNatClampNeg) (by exact (inB_cl (n := 6) h10 rfl (by decide)).2) go hw dX3_settle_21 ?_
    refine lv_astore_n (lv' := [(2, .ref (g (2 + ((saI x 0).toNatClampNeg)) 0)), (1, .int (saI x 0)), (0, .ref (g 0 0))]) hx hb dX3_settle_22 rfl hl (by decide) rfl (fun ls hl => ?_)
    refine lv_aload_n hx hb dX3_settle_23 rfl (lv_at hl 0 rfl) ?_
    refine cal_Vi' (kX0_hasAllVotes l G g x ((saI x 0).toNatClampNeg) (inB_cl (n := 6) h10 rfl (by decide)).2) go hw dX3_settle_24 (And.intro q531 (And.intro q3 q534)) q532 q533 kyX0_hasAllVotes ⟨Nat.le_of_ble_eq_true rfl, Nat.le_of_ble_eq_true rfl⟩ (rc_D (inB_cl (n := 6) h10 rfl (by decide)).2) hl.1 rfl (Nat.le_of_ble_eq_true rfl) ⟨rfl, rfl⟩ ⟨Nat.le_of_ble_eq_true rfl, Nat.le_of_ble_eq_true rfl⟩ (fun H locs hw => ?_)
    refine lv_if_ne (tgt := 33) hx hb dX3_settle_27 (by decide) (fun h27 => ?_) (fun h27 => ?_)
    · skip
      have h27 := bI_1 h27
      refine lv_aload_n hx hb dX3_settle_33 rfl (lv_at hl 0 rfl) ?_
      refine cal_Vi' (kX0_hasOnlyYes l G g x ((saI x 0).toNatClampNeg) (inB_cl (n := 6) h10 rfl (by decide)).2) go hw dX3_settle_34 (And.intro q535 (And.intro q3 q538)) q536 q537 kyX0_hasOnlyYes ⟨Nat.le_of_ble_eq_true rfl, Nat.le_of_ble_eq_true rfl⟩ (rc_D (inB_cl (n := 6) h10 rfl (by decide)).2) hl.1 rfl (Nat.le_of_ble_eq_true rfl) ⟨rfl, rfl⟩ ⟨Nat.le_of_ble_eq_true rfl, Nat.le_of_ble_eq_true rfl⟩ (fun H locs hw => ?_)
      refine lv_if_ne (tgt := 61) hx hb dX3_settle_37 (by decide) (fun h37 => ?_) (fun h37 => ?_)
      · skip
        have h37 := bI_1 h37
        refine lv_aload_n hx hb dX3_settle_61 rfl (lv_at hl 2 rfl) ?_
        refine gXi (k := 5) (v := nI c0) ⟨by decide, by decide⟩ hc go hw dX3_settle_62 q132 ?_
        refine lv_sipush (v := 512) hx hb dX3_settle_65 (by decide) ?_
        refine lv_icmp_ge (tgt := 80) hx hb dX3_settle_68 (by decide) (fun h68 => absurd h68 (by exact nI_ge hc5 (by decide))) (fun h68 => ?_)
        refine lv_aload_n hx hb dX3_settle_71 rfl (lv_at hl 2 rfl) ?_
        refine lv_aload_n hx hb dX3_settle_72 rfl (lv_at hl 0 rfl) ?_
        refine lv_iconst (v := 3) hx hb dX3_settle_73 (by decide) ?_
        refine cal_Vi (kX3_keep l G g x c0 hc hcs hc5 ((saI x 0).toNatClampNeg) (inB_cl (n := 6) h10 rfl (by decide)).2 3) go hw dX3_settle_74 (And.intro q476 (And.intro q1 q479)) q478 qs14 kyX3_keep ⟨Nat.le_of_ble_eq_true rfl, Nat.le_of_ble_eq_true rfl⟩ rc_X hl.1 rfl (Nat.le_of_ble_eq_true rfl) ⟨Nat.le_of_ble_eq_true rfl, Nat.le_of_ble_eq_true rfl⟩ (fun r u H locs hu hw => ?_)
        obtain ⟨rfl, a9, rfl⟩ := hu
        refine lv_goto (tgt := 82) hx hb dX3_settle_77 (by decide) ?_
        refine ret_i (wf := cw G g) go hw dX3_settle_82 ?_
        exact ⟨by simp [stC, *], a9, by simp [stC, *]⟩
      · skip
        have h37 := bI_0 h37
        refine lv_aload_n hx hb dX3_settle_40 rfl (lv_at hl 2 rfl) ?_
        refine lv_aload_n hx hb dX3_settle_41 rfl (lv_at hl 0 rfl) ?_
        refine lv_aload_n hx hb dX3_settle_42 rfl (lv_at hl 2 rfl) ?_
        refine lv_aload_n hx hb dX3_settle_43 rfl (lv_at hl 0 rfl) ?_
        refine cal_Vi' (kX3_staleOf l G g x ((saI x 0).toNatClampNeg) (inB_cl (n := 6) h10 rfl (by decide)).2) go hw dX3_settle_44 (And.intro q441 (And.intro q1 q444)) q443 qs6 kyX3_staleOf ⟨Nat.le_of_ble_eq_true rfl, Nat.le_of_ble_eq_true rfl⟩ rc_X hl.1 rfl (Nat.le_of_ble_eq_true rfl) ⟨rfl, rfl⟩ ⟨Nat.le_of_ble_eq_true rfl, Nat.le_of_ble_eq_true rfl⟩ (fun H locs hw => ?_)
        refine lv_if_eq (tgt := 55) hx hb dX3_settle_47 (by decide) (fun h47 => ?_) (fun h47 => ?_)
        · skip
          refine lv_bipush (v := (-12)) hx hb dX3_settle_55 (by decide) ?_
          refine cal_Vi' (kX3_lose l G g x ((saI x 0).toNatClampNeg) (inB_cl (n := 6) h10 rfl (by decide)).2 (-12)) go hw dX3_settle_57 (And.intro q468 (And.intro q1 q471)) q470 qs12 kyX3_lose ⟨Nat.le_of_ble_eq_true rfl, Nat.le_of_ble_eq_true rfl⟩ rc_X hl.1 rfl (Nat.le_of_ble_eq_true rfl) ⟨rfl, rfl⟩ ⟨Nat.le_of_ble_eq_true rfl, Nat.le_of_ble_eq_true rfl⟩ (fun H locs hw => ?_)
          refine W.widen (k := 3) (n := 24) (by omega) (by omega) ?_
          refine ret_i (wf := cw G g) go hw dX3_settle_60 ?_
          exact ⟨by simp [stC, *], _, by simp [stC, *]; rfl⟩
        · skip
          refine lv_bipush (v := (-11)) hx hb dX3_settle_50 (by decide) ?_
          refine lv_goto (tgt := 57) hx hb dX3_settle_52 (by decide) ?_
          refine cal_Vi' (kX3_lose l G g x ((saI x 0).toNatClampNeg) (inB_cl (n := 6) h10 rfl (by decide)).2 (-11)) go hw dX3_settle_57 (And.intro q468 (And.intro q1 q471)) q470 qs12 kyX3_lose ⟨Nat.le_of_ble_eq_true rfl, Nat.le_of_ble_eq_true rfl⟩ rc_X hl.1 rfl (Nat.le_of_ble_eq_true rfl) ⟨rfl, rfl⟩ ⟨Nat.le_of_ble_eq_true rfl, Nat.le_of_ble_eq_true rfl⟩ (fun H locs hw => ?_)
          refine W.widen (k := 3) (n := 24) (by omega) (by omega) ?_
          refine ret_i (wf := cw G g) go hw dX3_settle_60 ?_
          exact ⟨by simp [stC, *], _, by simp [stC, *]; rfl⟩
    · skip
      have h27 := bI_0 h27
      refine lv_bipush (v := (-4)) hx hb dX3_settle_30 (by decide) ?_
      refine W.widen (k := 3) (n := 24) (by omega) (by omega) ?_
      refine ret_i (wf := cw G g) go hw dX3_settle_32 ?_
      exact ⟨by simp [stC, *], x.1, by simp [stC, *]; rfl⟩
  · skip
    have h10 := bI_0 h10
    refine lv_bipush (v := (-4)) hx hb dX3_settle_13 (by decide) ?_
    refine W.widen (k := 3) (n := 24) (by omega) (by omega) ?_
    refine ret_i (wf := cw G g) go hw dX3_settle_15 ?_
    exact ⟨by simp [stC, *], x.1, by simp [stC, *]; rfl⟩
