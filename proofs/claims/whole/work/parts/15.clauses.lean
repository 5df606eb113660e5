/-! ===== clauses ===== -/
theorem loop_upX {N : Nat} {P : Nat → Heap → List Loc → Array Slot → Prop} {X : Nat → Heap → List Loc → Array Slot → Prop} (hs : ∀ i, i ≤ N → (∀ H locs ls, i + 1 ≤ N → P (i + 1) H locs ls → X (i + 1) H locs ls) → ∀ H locs ls, P i H locs ls → X i H locs ls) (i : Nat) (hi : i ≤ N) : ∀ H locs ls, P i H locs ls → X i H locs ls := by
  have key : ∀ k i, i ≤ N → N - i = k → ∀ H locs ls, P i H locs ls → X i H locs ls := by
    intro k
    induction k with
    | zero => intro i hi hk; exact hs i hi (fun _ _ _ h => absurd h (by omega))
    | succ k ih => intro i hi hk; exact hs i hi (fun H locs ls h1 h2 => ih (i + 1) h1 (by omega) H locs ls h2)
  exact key _ i hi rfl
theorem stT_A (x : Sg) (t s o k : Nat) : sA (stT x t s) o k = sA x o k := rfl
theorem stT_5 (x : Sg) (t s : Nat) : sI (stT x t s) 1 5 = nI s := rfl
theorem stT_6 (x : Sg) (t s : Nat) : sI (stT x t s) 1 6 = nI (tkE (sA x 1 0) t s) := rfl
theorem stT_I (x : Sg) (t s o k : Nat) (h : ¬ (o = 1 ∧ (k = 5 ∨ k = 6))) : sI (stT x t s) o k = sI x o k := by
  unfold stT
  rw [sI_ne (by omega), sI_ne (by omega)]
def tcS (x : Sg) (t cl z k : Nat) : Nat → Nat × Sg
  | 0 => (nxK (sA x 1 0) t z, stT (pA x 1 2 (upd (sA x 1 2) cl (nI k))) t (nxK (sA x 1 0) t z))
  | n + 1 => (nxK (sA x 1 0) t (tcS x t cl z k n).1, stT (pA (tcS x t cl z k n).2 1 3 (upd (sA (tcS x t cl z k n).2 1 3) (cl * 3 + n) (nuV (sA x 1 0) t (tcS x t cl z k n).1))) t (nxK (sA x 1 0) t (tcS x t cl z k n).1))
theorem tcS_L (x : Sg) (t cl z k : Nat) : ∀ n, sA (tcS x t cl z k n).2 1 0 = sA x 1 0
  | 0 => (stT_A _ _ _ _ _).trans (sA_ne (by decide))
  | n + 1 => ((stT_A _ _ _ _ _).trans (sA_ne (by decide))).trans (tcS_L x t cl z k n)
theorem tcS_I (x : Sg) (t cl z k o j : Nat) (h : ¬ (o = 1 ∧ (j = 5 ∨ j = 6))) : ∀ n, sI (tcS x t cl z k n).2 o j = sI x o j
  | 0 => (stT_I _ _ _ _ _ h).trans (sI_pA _ _ _ _ _ _)
  | n + 1 => ((stT_I _ _ _ _ _ h).trans (sI_pA _ _ _ _ _ _)).trans (tcS_I x t cl z k o j h n)
theorem tcS_N (x : Sg) (t cl z k : Nat) : ∀ n, sN (tcS x t cl z k n).2 = sN x
  | 0 => rfl
  | n + 1 => tcS_N x t cl z k n
theorem tcS_5 (x : Sg) (t cl z k : Nat) : ∀ n, sI (tcS x t cl z k n).2 1 5 = nI (tcS x t cl z k n).1
  | 0 => stT_5 _ _ _
  | _ + 1 => stT_5 _ _ _
theorem stT_6b {x : Sg} {L : Nat → Int32} {t s : Nat} (h : sA x 1 0 = L) : sI (stT x t s) 1 6 = nI (tkE L t s) := by subst h; exact stT_6 x t s
theorem tcS_6x (x : Sg) (t cl z k : Nat) : ∀ n, sI (tcS x t cl z k n).2 1 6 = nI (tkE (sA x 1 0) t (tcS x t cl z k n).1)
  | 0 => stT_6b (x := pA x 1 2 (upd (sA x 1 2) cl (nI k))) (s := nxK (sA x 1 0) t z) (sA_ne (by decide))
  | n + 1 => stT_6b (x := pA (tcS x t cl z k n).2 1 3 (upd (sA (tcS x t cl z k n).2 1 3) (cl * 3 + n) (nuV (sA x 1 0) t (tcS x t cl z k n).1))) (s := nxK (sA x 1 0) t (tcS x t cl z k n).1) ((sA_ne (by decide)).trans (tcS_L x t cl z k n))
theorem tcS_6 (x : Sg) (t cl z k n : Nat) : sI (tcS x t cl z k n).2 1 6 = nI (tkE (sA (tcS x t cl z k n).2 1 0) t (tcS x t cl z k n).1) := by rw [tcS_6x, tcS_L]
theorem tcS_t {x : Sg} {t cl z k : Nat} (h : z ≤ t) : ∀ n, (tcS x t cl z k n).1 ≤ t
  | 0 => (nxK_b h).2
  | n + 1 => (nxK_b (tcS_t h n)).2
def bdB (L : Nat → Int32) (t s k i : Nat) : Bool := decide (nuV L t s < lsI (chB (fmJ k) i)) || !decide (nuV L t s ≤ moI (chB (fmJ k) i))
def tcN (x : Sg) (t cl z k : Nat) : Nat := fstN (fun i => bdB (sA x 1 0) t (tcS x t cl z k i).1 k i) (lenJ.getD (fmJ k) 0)
def tcC (x : Sg) (t cl z : Nat) : Bool × Sg := if kdI (sA x 1 0) t z = -1 then (false, x) else (decide (tcN x t cl z (kdI (sA x 1 0) t z).toNatClampNeg = lenJ.getD (fmJ (kdI (sA x 1 0) t z).toNatClampNeg) 0), (tcS x t cl z (kdI (sA x 1 0) t z).toNatClampNeg (tcN x t cl z (kdI (sA x 1 0) t z).toNatClampNeg)).2)
def tcT (x : Sg) (t cl z : Nat) : Nat := if kdI (sA x 1 0) t z = -1 then z else (tcS x t cl z (kdI (sA x 1 0) t z).toNatClampNeg (tcN x t cl z (kdI (sA x 1 0) t z).toNatClampNeg)).1
theorem tcC_L (x : Sg) (t cl z : Nat) : sA (tcC x t cl z).2 1 0 = sA x 1 0 := by
  by_cases q : kdI (sA x 1 0) t z = -1
  · rw [tcC, if_pos q]
  · rw [tcC, if_neg q]; exact tcS_L _ _ _ _ _ _
theorem tcC_I (x : Sg) (t cl z o j : Nat) (h : ¬ (o = 1 ∧ (j = 5 ∨ j = 6))) : sI (tcC x t cl z).2 o j = sI x o j := by
  by_cases q : kdI (sA x 1 0) t z = -1
  · rw [tcC, if_pos q]
  · rw [tcC, if_neg q]; exact tcS_I _ _ _ _ _ _ _ h _
theorem tcC_5 {x : Sg} {t cl z : Nat} (h : sI x 1 5 = nI z) : sI (tcC x t cl z).2 1 5 = nI (tcT x t cl z) := by
  by_cases q : kdI (sA x 1 0) t z = -1
  · rw [tcC, tcT, if_pos q, if_pos q]; exact h
  · rw [tcC, tcT, if_neg q, if_neg q]; exact tcS_5 _ _ _ _ _ _
theorem tcC_6 {x : Sg} {t cl z : Nat} (h : sI x 1 6 = nI (tkE (sA x 1 0) t z)) : sI (tcC x t cl z).2 1 6 = nI (tkE (sA x 1 0) t (tcT x t cl z)) := by
  by_cases q : kdI (sA x 1 0) t z = -1
  · rw [tcC, tcT, if_pos q, if_pos q]; exact h
  · rw [tcC, tcT, if_neg q, if_neg q]; exact tcS_6x _ _ _ _ _ _
theorem tcT_t {x : Sg} {t cl z : Nat} (h : z ≤ t) : tcT x t cl z ≤ t := by
  by_cases q : kdI (sA x 1 0) t z = -1
  · rw [tcT, if_pos q]; exact h
  · rw [tcT, if_neg q]; exact tcS_t h _
def paS (x : Sg) (t : Nat) : Nat → Nat × Sg
  | 0 => (tkS (sA x 1 0) t 0, stT (pI (pI x 1 4 0) 1 6 0) t (tkS (sA x 1 0) t 0))
  | n + 1 => (nxK (sA x 1 0) t (tcT (paS x t n).2 t n (paS x t n).1), stT (pI (tcC (paS x t n).2 t n (paS x t n).1).2 1 4 (nI (n + 1))) t (nxK (sA x 1 0) t (tcT (paS x t n).2 t n (paS x t n).1)))
theorem paS_L (x : Sg) (t : Nat) : ∀ n, sA (paS x t n).2 1 0 = sA x 1 0
  | 0 => stT_A _ _ _ _ _
  | n + 1 => (show sA (paS x t (n + 1)).2 1 0 = sA (tcC (paS x t n).2 t n (paS x t n).1).2 1 0 from rfl).trans ((tcC_L _ _ _ _).trans (paS_L x t n))
theorem paS_I (x : Sg) (t o j : Nat) (h : ¬ (o = 1 ∧ (j = 4 ∨ j = 5 ∨ j = 6))) : ∀ n, sI (paS x t n).2 o j = sI x o j
  | 0 => (stT_I _ _ _ _ _ (by omega)).trans ((sI_ne (by omega)).trans (sI_ne (by omega)))
  | n + 1 => ((stT_I _ _ _ _ _ (by omega)).trans ((sI_ne (by omega)).trans (tcC_I _ _ _ _ _ _ (by omega)))).trans (paS_I x t o j h n)
theorem paS_5 (x : Sg) (t : Nat) : ∀ n, sI (paS x t n).2 1 5 = nI (paS x t n).1
  | 0 => stT_5 _ _ _
  | _ + 1 => stT_5 _ _ _
theorem paS_6x (x : Sg) (t : Nat) : ∀ n, sI (paS x t n).2 1 6 = nI (tkE (sA x 1 0) t (paS x t n).1)
  | 0 => stT_6b (x := pI (pI x 1 4 0) 1 6 0) (s := tkS (sA x 1 0) t 0) rfl
  | n + 1 => stT_6b (x := pI (tcC (paS x t n).2 t n (paS x t n).1).2 1 4 (nI (n + 1))) (s := nxK (sA x 1 0) t (tcT (paS x t n).2 t n (paS x t n).1)) (((sA_pI _ _ _ _ _ _).trans (tcC_L _ _ _ _)).trans (paS_L x t n))
theorem paS_6 (x : Sg) (t n : Nat) : sI (paS x t n).2 1 6 = nI (tkE (sA (paS x t n).2 1 0) t (paS x t n).1) := by rw [paS_6x, paS_L]
theorem paS_t (x : Sg) (t : Nat) : ∀ n, (paS x t n).1 ≤ t
  | 0 => (tkS_b (Nat.zero_le _)).2
  | n + 1 => (nxK_b (tcT_t (paS_t x t n))).2
def paR (L : Nat → Int32) (t : Nat) : Nat → Nat → Nat → Sg → Int32 × Sg
  | 0, _, z, y => (nI z, y)
  | m + 1, n, z, y =>
    if (tcC y t n z).1 = true then
      if t ≤ tcT y t n z then (-1, pI (tcC y t n z).2 1 4 (nI (n + 1)))
      else if L (tcT y t n z) = 59 ∧ ¬ n + 1 = 24 then paR L t m (n + 1) (nxK L t (tcT y t n z)) (stT (pI (tcC y t n z).2 1 4 (nI (n + 1))) t (nxK L t (tcT y t n z)))
      else (nI (tcT y t n z), pI (tcC y t n z).2 1 4 (nI (n + 1)))
    else (nI (tcT y t n z), (tcC y t n z).2)
def paC (x : Sg) (t : Nat) : Int32 × Sg := paR (sA x 1 0) t 24 0 (paS x t 0).1 (paS x t 0).2
/-- a clause is done -/
def doS (x : Sg) (c0 cl : Nat) : Sg :=
  if sA x 1 2 cl = 0 then anS x else if sA x 1 2 cl = 1 then (puC x c0 (sA x 1 3 (cl * 3 + 0)) (sA x 1 3 (cl * 3 + 1))).2
  else if sA x 1 2 cl = 2 then (liC x (sA x 1 3 (cl * 3 + 0))).2 else if sA x 1 2 cl = 3 then (beC x (sA x 1 3 (cl * 3 + 0))).2
  else if sA x 1 2 cl = 4 then (rdC x (sA x 1 3 (cl * 3 + 0)) (sA x 1 3 (cl * 3 + 1))).2 else if sA x 1 2 cl = 5 then (laC x (sA x 1 3 (cl * 3 + 0)) (sA x 1 3 (cl * 3 + 1)) (sA x 1 3 (cl * 3 + 2))).2
  else if sA x 1 2 cl = 6 then (snC x (sA x 1 3 (cl * 3 + 0))).2 else x
theorem wA_self (y : Sg) : wA y.1 y = y := rfl
def teS (y : Sg) : Nat → Sg
  | 0 => y
  | n + 1 => doS (teS y n) (sI (teS y n) 0 5).toNatClampNeg n

set_option maxHeartbeats 4000000 in
set_option maxRecDepth 100000 in
theorem kX2_takeClause (l : Launch) (G : Cx) (g : Nat → Nat → Nat) (x : Sg) (t : Nat) (ht : sI x 1 1 = nI t) (ht2 : t ≤ 200) (z : Nat) (hs : z ≤ t) (hz5 : sI x 1 5 = nI z) (hz6 : sI x 1 6 = nI (tkE (sA x 1 0) t z)) (cl : Nat) (hc24 : cl < 24) : Ci l G yX2_takeClause cX2_takeClause 6 .boolean (Rm 6 128) (cw G g) [.ref (g 1 0), .int (nI cl)] x (fun r u => r = bI (tcC x t cl z).1 ∧ u = (tcC x t cl z).2) := by
  refine Ci.mk (by decide) (Nat.le_of_ble_eq_true rfl) ?_
  intro p e s m below meth c A ls go hw hl
  generalize s.heap = H at hw ⊢
  generalize ([] : List Loc) = locs at hw ⊢
  have hx := go.1
  have hb := go.2.1
  have hl : lv_has ls 6 [(0, .ref (g 1 0)), (1, .int (nI cl))] := hl
  refine lv_aload_n hx hb dX2_takeClause_0 rfl (lv_at hl 0 rfl) ?_
  refine cal_Vi' (kX2_kindOfToken l G g x t ht ht2 z hs hz5 hz6) go hw dX2_takeClause_1 (And.intro q205 (And.intro q2 q208)) q206 q207 kyX2_kindOfToken ⟨Nat.le_of_ble_eq_true rfl, Nat.le_of_ble_eq_true rfl⟩ rc_T hl.1 rfl (Nat.le_of_ble_eq_true rfl) ⟨rfl, rfl⟩ ⟨Nat.le_of_ble_eq_true rfl, Nat.le_of_ble_eq_true rfl⟩ (fun H locs hw => ?_)
  refine lv_istore_n (lv' := [(2, .int (kdI (sA x 1 0) t z)), (0, .ref (g 1 0)), (1, .int (nI cl))]) hx hb dX2_takeClause_4 rfl hl (by decide) rfl (fun ls hl => ?_)
  refine lv_iload_n hx hb dX2_takeClause_5 rfl (lv_at hl 0 rfl) ?_
  refine lv_iconst (v := (-1)) hx hb dX2_takeClause_6 (by decide) ?_
  refine lv_icmp_eq (tgt := 20) hx hb dX2_takeClause_7 (by decide) (fun h7 => ?_) (fun h7 => ?_)
  · skip
    refine lv_iconst (v := 0) hx hb dX2_takeClause_20 (by decide) ?_
    refine ret_z (wf := cw G g) go hw dX2_takeClause_21 rfl ?_
    exact ⟨by rw [tcC, if_pos h7]; rfl, by rw [tcC, if_pos h7]⟩
  · skip
    refine lv_iload_n hx hb dX2_takeClause_10 rfl (lv_at hl 2 rfl) ?_
    refine lv_if_lt (tgt := 20) hx hb dX2_takeClause_11 (by decide) (fun h11 => absurd h11 (by exact nI_pos (by omega))) (fun h11 => ?_)
    refine lv_iload_n hx hb dX2_takeClause_14 rfl (lv_at hl 2 rfl) ?_
    refine lv_bipush (v := 24) hx hb dX2_takeClause_15 (by decide) ?_
    refine lv_icmp_lt (tgt := 22) hx hb dX2_takeClause_17 (by decide) (fun h17 => ?_) (fun h17 => absurd h17 (by exact fun q => q (nI_lt hc24 (by decide))))
    obtain ⟨k, hk7, hkd⟩ := fstI_of (show ¬ fstI (wdB (sA x 1 0) t z) 7 = -1 from by rw [← kdI_eq]; exact h7)
    rw [← kdI_eq] at hkd
    have hkc : (kdI (sA x 1 0) t z).toNatClampNeg = k := by rw [hkd]; exact nI_clamp (by omega)
    rw [hkd] at hl
    have h3 := fmJ_3 hk7
    refine lv_aload_n hx hb dX2_takeClause_22 rfl (lv_at hl 1 rfl) ?_
    refine gT (k := 2) (v := .ref (g 1 3)) rfl (by decide) rfl go hw dX2_takeClause_23 q28 ?_
    refine lv_iload_n hx hb dX2_takeClause_26 rfl (lv_at hl 2 rfl) ?_
    refine lv_iload_n hx hb dX2_takeClause_27 rfl (lv_at hl 0 rfl) ?_
    refine sT (k := 2) (j := cl) (by decide) (by exact hc24) go hw dX2_takeClause_28 (fun H locs hw => ?_)
    refine lv_aload_n hx hb dX2_takeClause_29 rfl (lv_at hl 1 rfl) ?_
    refine cal_Vv' (kX2_nextToken l G g (pA x 1 2 (upd (sA x 1 2) cl (nI k))) t ht ht2 (tkE (sA x 1 0) t z) (tkE_b hs).2 hz6) go hw dX2_takeClause_30 (And.intro q184 (And.intro q2 q187)) q185 q186 kyX2_nextToken ⟨Nat.le_of_ble_eq_true rfl, Nat.le_of_ble_eq_true rfl⟩ rc_T hl.1 rfl (Nat.le_of_ble_eq_true rfl) ⟨rfl, rfl⟩ ⟨Nat.le_of_ble_eq_true rfl, Nat.le_of_ble_eq_true rfl⟩ (fun H locs hw => ?_)
    refine lv_iload_n hx hb dX2_takeClause_33 rfl (lv_at hl 0 rfl) ?_
    refine cal_Sq (kX2_formOf l G k (by omega)) go hw.2.2.1 hw.2.2.2.1 dX2_takeClause_34 (And.intro q271 (And.intro q2 q273)) q272 kyX2_formOf ⟨rfl, rfl⟩ ⟨Nat.le_of_ble_eq_true rfl, Nat.le_of_ble_eq_true rfl⟩ hl.1 rfl (Nat.le_of_ble_eq_true rfl) ⟨Nat.le_of_ble_eq_true rfl, Nat.le_of_ble_eq_true rfl⟩ ?_
    refine lv_astore_n (lv' := [(3, .ref (G.2.2.1 (fmJ k))), (2, .int (nI k)), (0, .ref (g 1 0)), (1, .int (nI cl))]) hx hb dX2_takeClause_37 rfl hl (by decide) rfl (fun ls hl => ?_)
    refine lv_iconst (v := 0) hx hb dX2_takeClause_38 (by decide) ?_
    refine lv_istore (lv' := [(4, .int 0), (3, .ref (G.2.2.1 (fmJ k))), (2, .int (nI k)), (0, .ref (g 1 0)), (1, .int (nI cl))]) hx hb dX2_takeClause_39 hl (by decide) rfl (fun ls hl => ?_)
    rw [show stT (pA x 1 2 (upd (sA x 1 2) cl (nI k))) t (tkS (sA (pA x 1 2 (upd (sA x 1 2) cl (nI k))) 1 0) t (tkE (sA x 1 0) t z)) = (tcS x t cl z k 0).2 from by rfl] at hw
    have hl0 : lv_has ls 6 [(0, .ref (g 1 0)), (1, .int (nI cl)), (3, .ref (G.2.2.1 (fmJ k))), (4, .int (nI 0))] := lv_to (lv_sub (l' := [(0, .ref (g 1 0)), (1, .int (nI cl)), (3, .ref (G.2.2.1 (fmJ k))), (4, .int 0)]) hl [3, 4, 1, 0] rfl) (lr (lr (lr (lc (show (0 : Int32) = nI 0 from rfl) rfl))))
    refine loop_up (N := (lenJ.getD (fmJ k) 0)) (P := fun i H locs ls => Wd G A s H locs (cw G g ((tcS x t cl z k i).2)) ∧ lv_has ls 6 [(0, .ref (g 1 0)), (1, .int (nI cl)), (3, .ref (G.2.2.1 (fmJ k))), (4, .int (nI i))] ∧ (∀ j, j < i → (fun i => bdB (sA x 1 0) t (tcS x t cl z k i).1 k i) j = false)) (X := fun H locs ls => W p l e (Rm 6 128) s m ([.ref (g 1 0), .int (nI cl)] : List Value).toArray below meth c H locs 0 0 (MQ below (va_Qi (fun r u => r = bI (tcC x t cl z).1 ∧ u = (tcC x t cl z).2) (PostW G (cw G g) A) A) ([.ref (g 1 0), .int (nI cl)] : List Value).toArray s (Rm 6 128).cells (Rm 6 128).slots A) (F0 m 41 ls [])) ?_ 0 (Nat.zero_le _) H locs ls ⟨hw, hl0, (fun j hj => absurd hj (by omega))⟩
    clear hl0 hl hw
    intro i hi ih H locs ls hP
    obtain ⟨hw, hl, hE0⟩ := hP
    refine lv_iload hx hb dX2_takeClause_41 (lv_at hl 3 rfl) ?_
    refine lv_aload_n hx hb dX2_takeClause_43 rfl (lv_at hl 2 rfl) ?_
    refine cal_VS (kJ0_length_8abf5 l G (fmJ k) (fmJ_13 _)) go hw.2.2.1 hw.2.2.2.1 dX2_takeClause_44 (And.intro q223 (And.intro q5 q226)) q224 q225 kyJ0_length_8abf5 ⟨rfl, rfl⟩ ⟨Nat.le_of_ble_eq_true rfl, Nat.le_of_ble_eq_true rfl⟩ (vk_recv hw.2.2.2.1.2.2.2.1 (fmJ_13 _) hw.2.2.1) hl.1 rfl (Nat.le_of_ble_eq_true rfl) ⟨Nat.le_of_ble_eq_true rfl, Nat.le_of_ble_eq_true rfl⟩ ?_
    refine lv_icmp_ge (tgt := 115) hx hb dX2_takeClause_47 (by decide) (fun h47 => ?_) (fun h47 => ?_)
    · skip
      have hE : i = (lenJ.getD (fmJ k) 0) := lp_end h47 rfl rfl hi (by omega)
      refine lv_iconst (v := 1) hx hb dX2_takeClause_115 (by decide) ?_
      refine ret_z (wf := cw G g) go hw dX2_takeClause_116 rfl ?_
      have hn : tcN x t cl z k = lenJ.getD (fmJ k) 0 := fstN_no (p := (fun i => bdB (sA x 1 0) t (tcS x t cl z k i).1 k i)) (by rw [← hE]; exact hE0)
      exact ⟨by simp only [tcC, if_neg h7, hkc, hn, decide_true]; rfl, by simp only [tcC, if_neg h7, hkc, hn, ← hE]⟩
    · skip
      have hlt : i < (lenJ.getD (fmJ k) 0) := lp_in h47 rfl rfl hi (by omega)
      refine lv_iload hx hb dX2_takeClause_50 (lv_at hl 3 rfl) ?_
      refine lv_iconst (v := 3) hx hb dX2_takeClause_52 (by decide) ?_
      refine lv_icmp_ge (tgt := 115) hx hb dX2_takeClause_53 (by decide) (fun h53 => absurd h53 (by exact nI_ge (b := 3) (by omega) (by decide))) (fun h53 => ?_)
      refine lv_aload_n hx hb dX2_takeClause_56 rfl (lv_at hl 0 rfl) ?_
      refine cal_Vi' (kX2_numberOfToken l G g ((tcS x t cl z k i).2) t ((tcS_I x t cl z k 1 1 (by omega) i).trans ht) ht2 (tcS x t cl z k i).1 (tcS_t hs i) (tcS_5 x t cl z k i) (tcS_6 x t cl z k i)) go hw dX2_takeClause_57 (And.intro q280 (And.intro q2 q283)) q281 q282 kyX2_numberOfToken ⟨Nat.le_of_ble_eq_true rfl, Nat.le_of_ble_eq_true rfl⟩ rc_T hl.1 rfl (Nat.le_of_ble_eq_true rfl) ⟨rfl, rfl⟩ ⟨Nat.le_of_ble_eq_true rfl, Nat.le_of_ble_eq_true rfl⟩ (fun H locs hw => ?_)
      refine toI (show nuV (sA ((tcS x t cl z k i).2) 1 0) t ((tcS x t cl z k i).1) = nuV (sA x 1 0) t (tcS x t cl z k i).1 from by rw [tcS_L]) ?_
      refine lv_istore (lv' := [(5, .int (nuV (sA x 1 0) t (tcS x t cl z k i).1)), (0, .ref (g 1 0)), (1, .int (nI cl)), (3, .ref (G.2.2.1 (fmJ k))), (4, .int (nI i))]) hx hb dX2_takeClause_60 hl (by decide) rfl (fun ls hl => ?_)
      refine lv_iload hx hb dX2_takeClause_62 (lv_at hl 0 rfl) ?_
      refine lv_aload_n hx hb dX2_takeClause_64 rfl (lv_at hl 3 rfl) ?_
      refine lv_iload hx hb dX2_takeClause_65 (lv_at hl 4 rfl) ?_
      refine cal_VS (kJ0_charAt_5068e l G (fmJ k) (fmJ_13 _) i hlt) go hw.2.2.1 hw.2.2.2.1 dX2_takeClause_67 (And.intro q233 (And.intro q5 q236)) q234 q235 kyJ0_charAt_5068e ⟨rfl, rfl⟩ ⟨Nat.le_of_ble_eq_true rfl, Nat.le_of_ble_eq_true rfl⟩ (vk_recv hw.2.2.2.1.2.2.2.1 (fmJ_13 _) hw.2.2.1) hl.1 rfl (Nat.le_of_ble_eq_true rfl) ⟨Nat.le_of_ble_eq_true rfl, Nat.le_of_ble_eq_true rfl⟩ ?_
      refine cal_S (kX2_leastOf l G (chB (fmJ k) i)) go hw.2.2.1 hw.2.2.2.1 dX2_takeClause_70 (And.intro q284 (And.intro q2 q286)) q285 kyX2_leastOf ⟨rfl, rfl⟩ ⟨Nat.le_of_ble_eq_true rfl, Nat.le_of_ble_eq_true rfl⟩ hl.1 rfl (Nat.le_of_ble_eq_true rfl) ⟨Nat.le_of_ble_eq_true rfl, Nat.le_of_ble_eq_true rfl⟩ ?_
      refine lv_icmp_lt (tgt := 90) hx hb dX2_takeClause_73 (by decide) (fun h73 => ?_) (fun h73 => ?_)
      · skip
        refine lv_iconst (v := 0) hx hb dX2_takeClause_90 (by decide) ?_
        refine ret_z (wf := cw G g) go hw dX2_takeClause_91 rfl ?_
        have hn : tcN x t cl z k = i := fstN_at (p := (fun i => bdB (sA x 1 0) t (tcS x t cl z k i).1 k i)) (by simp only [bdB, decide_eq_true h73, Bool.true_or]) hE0 hlt
        exact ⟨by simp only [tcC, if_neg h7, hkc, hn, decide_eq_false (Nat.ne_of_lt hlt)]; rfl, by simp only [tcC, if_neg h7, hkc, hn]⟩
      · skip
        refine lv_iload hx hb dX2_takeClause_76 (lv_at hl 0 rfl) ?_
        refine lv_aload_n hx hb dX2_takeClause_78 rfl (lv_at hl 3 rfl) ?_
        refine lv_iload hx hb dX2_takeClause_79 (lv_at hl 4 rfl) ?_
        refine cal_VS (kJ0_charAt_5068e l G (fmJ k) (fmJ_13 _) i hlt) go hw.2.2.1 hw.2.2.2.1 dX2_takeClause_81 (And.intro q233 (And.intro q5 q236)) q234 q235 kyJ0_charAt_5068e ⟨rfl, rfl⟩ ⟨Nat.le_of_ble_eq_true rfl, Nat.le_of_ble_eq_true rfl⟩ (vk_recv hw.2.2.2.1.2.2.2.1 (fmJ_13 _) hw.2.2.1) hl.1 rfl (Nat.le_of_ble_eq_true rfl) ⟨Nat.le_of_ble_eq_true rfl, Nat.le_of_ble_eq_true rfl⟩ ?_
        refine cal_S (kX2_mostOf l G (chB (fmJ k) i)) go hw.2.2.1 hw.2.2.2.1 dX2_takeClause_84 (And.intro q287 (And.intro q2 q289)) q288 kyX2_mostOf ⟨rfl, rfl⟩ ⟨Nat.le_of_ble_eq_true rfl, Nat.le_of_ble_eq_true rfl⟩ hl.1 rfl (Nat.le_of_ble_eq_true rfl) ⟨Nat.le_of_ble_eq_true rfl, Nat.le_of_ble_eq_true rfl⟩ ?_
        refine lv_icmp_le (tgt := 92) hx hb dX2_takeClause_87 (by decide) (fun h87 => ?_) (fun h87 => ?_)
        · skip
          refine lv_aload_n hx hb dX2_takeClause_92 rfl (lv_at hl 1 rfl) ?_
          refine gT (k := 3) (v := .ref (g 1 4)) rfl (by decide) rfl go hw dX2_takeClause_93 q29 ?_
          refine lv_iload_n hx hb dX2_takeClause_96 rfl (lv_at hl 2 rfl) ?_
          refine lv_iconst (v := 3) hx hb dX2_takeClause_97 (by decide) ?_
          refine lv_imul hx hb dX2_takeClause_98 ?_
          refine lv_iload hx hb dX2_takeClause_99 (lv_at hl 4 rfl) ?_
          refine lv_iadd hx hb dX2_takeClause_101 ?_
          refine lv_iload hx hb dX2_takeClause_102 (lv_at hl 0 rfl) ?_
          refine toI2 (show (((nI cl) * 3) + (nI i) : Int32) = nI (cl * 3 + i) from by rw [show (3 : Int32) = nI 3 from rfl, pk_mul, nI_add]) ?_
          refine sT (k := 3) (j := (cl * 3 + i)) (by decide) (by show cl * 3 + i < 72; omega) go hw dX2_takeClause_104 (fun H locs hw => ?_)
          refine lv_aload_n hx hb dX2_takeClause_105 rfl (lv_at hl 1 rfl) ?_
          refine cal_Vv' (kX2_nextToken l G g (pA ((tcS x t cl z k i).2) 1 3 (upd (sA ((tcS x t cl z k i).2) 1 3) (cl * 3 + i) (nuV (sA x 1 0) t (tcS x t cl z k i).1))) t ((tcS_I x t cl z k 1 1 (by omega) i).trans ht) ht2 (tkE (sA x 1 0) t (tcS x t cl z k i).1) (tkE_b (tcS_t hs i)).2 (tcS_6x x t cl z k i)) go hw dX2_takeClause_106 (And.intro q184 (And.intro q2 q187)) q185 q186 kyX2_nextToken ⟨Nat.le_of_ble_eq_true rfl, Nat.le_of_ble_eq_true rfl⟩ rc_T hl.1 rfl (Nat.le_of_ble_eq_true rfl) ⟨rfl, rfl⟩ ⟨Nat.le_of_ble_eq_true rfl, Nat.le_of_ble_eq_true rfl⟩ (fun H locs hw => ?_)
          refine lv_iinc (v := nI (i + 1)) (lv' := [(4, .int (nI (i + 1))), (5, .int (nuV (sA x 1 0) t (tcS x t cl z k i).1)), (0, .ref (g 1 0)), (1, .int (nI cl)), (3, .ref (G.2.2.1 (fmJ k)))]) hx hb dX2_takeClause_109 hl (k := 4) rfl (nI_1 _) (by decide) rfl (fun ls hl => ?_)
          refine lv_goto (tgt := 41) hx hb dX2_takeClause_112 (by decide) ?_
          have hl9 : lv_has ls 6 [(0, .ref (g 1 0)), (1, .int (nI cl)), (3, .ref (G.2.2.1 (fmJ k))), (4, .int (nI (i + 1)))] := lv_sub hl [2, 3, 4, 0] rfl
          rw [show stT (pA ((tcS x t cl z k i).2) 1 3 (upd (sA ((tcS x t cl z k i).2) 1 3) (cl * 3 + i) (nuV (sA x 1 0) t (tcS x t cl z k i).1))) t (tkS (sA (pA ((tcS x t cl z k i).2) 1 3 (upd (sA ((tcS x t cl z k i).2) 1 3) (cl * 3 + i) (nuV (sA x 1 0) t (tcS x t cl z k i).1))) 1 0) t (tkE (sA x 1 0) t (tcS x t cl z k i).1)) = (tcS x t cl z k (i + 1)).2 from by show stT _ t (tkS (sA (tcS x t cl z k i).2 1 0) t _) = _; rw [tcS_L]; rfl] at hw
          exact ih _ _ _ (by omega) ⟨hw, hl9, (lt_s hE0 (by simp only [bdB, decide_eq_false h73, decide_eq_true h87, Bool.not_true, Bool.or_self]))⟩
        · skip
          refine lv_iconst (v := 0) hx hb dX2_takeClause_90 (by decide) ?_
          refine ret_z (wf := cw G g) go hw dX2_takeClause_91 rfl ?_
          have hn : tcN x t cl z k = i := fstN_at (p := (fun i => bdB (sA x 1 0) t (tcS x t cl z k i).1 k i)) (by simp only [bdB, decide_eq_false h87, Bool.not_false, Bool.or_true]) hE0 hlt
          exact ⟨by simp only [tcC, if_neg h7, hkc, hn, decide_eq_false (Nat.ne_of_lt hlt)]; rfl, by simp only [tcC, if_neg h7, hkc, hn]⟩

