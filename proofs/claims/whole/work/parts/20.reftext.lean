/-! ===== the reference: the text ===== -/
theorem nI_sb {a b : Nat} (h : b ≤ a) : nI a - nI b = nI (a - b) := by
  have e := nI_add (a - b) b
  rw [Nat.sub_add_cancel h] at e
  rw [← e, Int32.add_sub_cancel]
theorem qI_over (x : Rg) (k : Nat) (v w : Int32) : qI (qI x k v) k w = qI x k w := by
  refine Prod.ext (funext fun j => ?_) rfl
  show (if j = k then w else if j = k then v else x.1 j) = if j = k then w else x.1 j
  split
  · rfl
  · rfl
theorem qI_self {x : Rg} {k : Nat} {v : Int32} (h : rI x k = v) : qI x k v = x := by
  refine Prod.ext (funext fun j => ?_) rfl
  show (if j = k then v else x.1 j) = x.1 j
  split
  · next e => rw [e, ← h]; rfl
  · rfl
def wdT : Nat → Int32 := fun j => ([97, 108, 108, 0, 0, 105, 116, 101, 109, 0, 108, 105, 109, 105, 116, 98, 101, 103, 105, 110, 114, 101, 97, 100, 0, 119, 114, 105, 116, 101, 115, 101, 110, 100, 0] : List Int32).getD j 0
def nxR (x : Rg) (L : Nat → Int32) (t s : Nat) : Rg := qI (qI x 24 (nI s)) 25 (nI (tkE L t s))
def Tk (x : Rg) (L : Nat → Int32) (t z : Nat) (b : Bool) : Prop := rI x 23 = nI t ∧ rI x 24 = nI z ∧ rI x 25 = nI (tkE L t z) ∧ rI x 27 = bI b ∧ rA x 22 = L ∧ rA x 29 = wdT
def T0 (x : Rg) (L : Nat → Int32) (t : Nat) (b : Bool) : Prop := rI x 23 = nI t ∧ rI x 27 = bI b ∧ rA x 22 = L ∧ rA x 29 = wdT
theorem Tk.zero {x : Rg} {L : Nat → Int32} {t z : Nat} {b : Bool} (h : Tk x L t z b) : T0 x L t b := ⟨h.1, h.2.2.2.1, h.2.2.2.2.1, h.2.2.2.2.2⟩
theorem T0.nx {x : Rg} {L : Nat → Int32} {t s : Nat} {b : Bool} (h : T0 x L t b) : Tk (nxR x L t s) L t s b := ⟨h.1, rfl, rfl, h.2.1, h.2.2.1, h.2.2.2⟩
theorem exB_iff {p : Nat → Bool} {n : Nat} : exB p n = false ↔ ∀ j, j < n → p j = false :=
  ⟨fun h j hj => (by
    cases q : p j
    · rfl
    · rw [exB_t q hj] at h; exact absurd h (by decide)), exB_f⟩
def whB (W L : Nat → Int32) (z e w k : Nat) : Bool := (decide (z < e) && decide (e - z < 6)) && !exB (fun j => !decide (W (5 * w + j) = (if z + j < e then L (z + j) else 0))) k
theorem whB_m {W L : Nat → Int32} {z e w k : Nat} (h : whB W L z e w k = false) (hk : k ≤ 5) : whB W L z e w 5 = false := by
  unfold whB at h ⊢
  cases q : (decide (z < e) && decide (e - z < 6))
  · rfl
  · rw [q] at h
    have h1 : exB (fun j => !decide (W (5 * w + j) = (if z + j < e then L (z + j) else 0))) k = true := by simpa using h
    cases q2 : exB (fun j => !decide (W (5 * w + j) = (if z + j < e then L (z + j) else 0))) 5
    · rw [exB_f (fun j hj => exB_iff.mp q2 j (by omega))] at h1; cases h1
    · rfl
theorem whB_s {W L : Nat → Int32} {z e w k : Nat} (h : whB W L z e w k = true) : whB W L z e w (k + 1) = decide (W (5 * w + k) = (if z + k < e then L (z + k) else 0)) := by
  unfold whB at h ⊢
  simp only [Bool.and_eq_true, Bool.not_eq_true'] at h
  rw [exB, h.2, h.1.1, h.1.2]
  simp
theorem run_in {p : Nat → Bool} : ∀ (k b a : Nat), b ≤ a → a < runN p k b → p a = true
  | 0, b, a, h1, h2 => by rw [runN] at h2; omega
  | k + 1, b, a, h1, h2 => by
    rw [runN] at h2
    split at h2
    · next q =>
      by_cases e : a = b
      · rw [e]; exact q
      · exact run_in k (b + 1) a (by omega) h2
    · omega
theorem dg_nz {a : Int32} (h : dgB a = true) : ¬ a = 0 := fun q => by rw [q] at h; exact absurd h (by decide)
theorem sm_nz {a : Int32} (h : smB a = true) : ¬ a = 0 := fun q => by rw [q] at h; exact absurd h (by decide)
theorem tk_nz {L : Nat → Int32} {t z a : Nat} (h1 : z < a) (h2 : a < tkE L t z) : ¬ L a = 0 := by
  unfold tkE at h2
  split at h2
  · have h := run_in _ _ a (by omega) h2
    simp only [oneB, Bool.or_eq_true, Bool.and_eq_true] at h
    rcases h with h | h
    · exact dg_nz h.2
    · exact sm_nz h.2
  · omega
theorem tab1 : ∀ w, w < 7 → ∀ k, k < 5 → k < lenJ.getD w 0 → wdT (5 * w + k) = chB w k ∧ ¬ chB w k = 0 := by decide +kernel
theorem tab2 : ∀ w, w < 7 → ∀ k, k < 5 → lenJ.getD w 0 ≤ k → wdT (5 * w + k) = 0 := by decide +kernel
theorem tab3 : ∀ w, w < 7 → 3 ≤ lenJ.getD w 0 ∧ lenJ.getD w 0 ≤ 5 := by decide +kernel
theorem wh_wd (L : Nat → Int32) {t z w : Nat} (ht : t ≤ 200) (hz : z ≤ t) (hw : w < 7) : whB wdT L z (tkE L t z) w 5 = wdB L t z w := by
  have hb := tkE_b (L := L) hz
  have h3 := tab3 w hw
  rw [Bool.eq_iff_iff]
  unfold whB wdB
  rw [nI_sb hb.1]
  simp only [Bool.and_eq_true, Bool.not_eq_true', decide_eq_true_eq, exB_iff, Bool.not_eq_false']
  constructor
  · rintro ⟨⟨h1, h2⟩, h⟩
    have hn : tkE L t z - z = lenJ.getD w 0 := by
      rcases Nat.lt_trichotomy (tkE L t z - z) (lenJ.getD w 0) with q | q | q
      · have a := h (tkE L t z - z) (by omega)
        have b := tab1 w hw (tkE L t z - z) (by omega) q
        rw [if_neg (by omega), b.1] at a
        exact absurd a b.2
      · exact q
      · have a := h (lenJ.getD w 0) (by omega)
        rw [if_pos (by omega), tab2 w hw _ (by omega) (Nat.le_refl _)] at a
        exact absurd a.symm (tk_nz (t := t) (z := z) (by omega) (by omega))
    refine ⟨by rw [hn], fun j hj => ?_⟩
    have a := h j (by omega)
    rw [if_pos (by omega), (tab1 w hw j (by omega) hj).1] at a
    rw [ltA, if_pos (by omega), a]
  · rintro ⟨h1, h⟩
    have hn : tkE L t z - z = lenJ.getD w 0 := (nI_eq (by omega) (by omega)).mp h1
    refine ⟨⟨by omega, by omega⟩, fun j hj => ?_⟩
    by_cases q : j < lenJ.getD w 0
    · have a := h j q
      rw [ltA, if_pos (by omega)] at a
      rw [if_pos (by omega), a, (tab1 w hw j hj q).1]
    · rw [if_neg (by omega), tab2 w hw j hj (by omega)]
/-- a number is read -/
def okN (L : Nat → Int32) (t z : Nat) (lo hi : Int32) : Bool := !decide (nuV L t z < lo) && !decide (hi < nuV L t z)
def rdY' (x : Rg) (L : Nat → Int32) (t z k : Nat) : Rg := nxR (qA x 28 (upd (rA x 28) k (nuV L t z))) L t (nxK L t z)
def rdN (x : Rg) (L : Nat → Int32) (t z k : Nat) (lo hi : Int32) : Bool × Rg := if okN L t z lo hi = true then (true, rdY' x L t z k) else (false, x)
theorem rdN_t {x : Rg} {L : Nat → Int32} {t z k : Nat} {lo hi : Int32} (h : (rdN x L t z k lo hi).1 = true) : (rdN x L t z k lo hi).2 = rdY' x L t z k ∧ okN L t z lo hi = true := by
  unfold rdN at h ⊢
  split at h
  · next q => rw [if_pos q]; exact ⟨rfl, q⟩
  · cases h
theorem Tk.rd {x : Rg} {L : Nat → Int32} {t z k : Nat} {b : Bool} (h : Tk x L t z b) : Tk (rdY' x L t z k) L t (nxK L t z) b := (show T0 (qA x 28 (upd (rA x 28) k (nuV L t z))) L t b from ⟨h.1, h.2.2.2.1, h.2.2.2.2.1, h.2.2.2.2.2⟩).nx
theorem okN_no {L : Nat → Int32} {t z : Nat} {lo hi : Int32} (h : nuV L t z = -1) (hlo : ¬ lo ≤ -1) : okN L t z lo hi = false := by
  have : (-1 : Int32) < lo := Int32.not_le.mp hlo
  rw [okN, h, decide_eq_true this]; rfl
def rc2 (x : Rg) (L : Nat → Int32) (t z : Nat) (a b a' b' : Int32) : Bool × Rg := if (rdN x L t z 0 a b).1 = true then rdN (rdY' x L t z 0) L t (nxK L t z) 1 a' b' else (false, x)
def rc3 (x : Rg) (L : Nat → Int32) (t z : Nat) : Bool × Rg := if (rc2 x L t z 0 5 0 7).1 = true then rdN (rdY' (rdY' x L t z 0) L t (nxK L t z) 1) L t (nxK L t (nxK L t z)) 2 0 9999 else rc2 x L t z 0 5 0 7
def rrC (x : Rg) (L : Nat → Int32) (t z k : Nat) : Bool × Rg :=
  if k = 0 then (true, x) else if k = 1 then rc2 x L t z 0 7 0 9999 else if k = 2 then rdN x L t z 0 1 9 else if k = 4 then rc2 x L t z 0 5 0 7 else if k = 5 then rc3 x L t z else rdN x L t z 0 0 5
def dsR (x : Rg) (c0 k : Nat) : Rg :=
  if k = 0 then anR x else if k = 1 then (ptR x c0 (rA x 28 0) (rA x 28 1)).2 else if k = 2 then (liR x (rA x 28 0)).2 else if k = 3 then (beR x (rA x 28 0)).2 else if k = 4 then (rdR x (rA x 28 0) (rA x 28 1)).2 else if k = 5 then (laR x (rA x 28 0) (rA x 28 1) (rA x 28 2)).2 else (snR x (rA x 28 0)).2
/-! the rest of the reference leaves the text alone -/
def Tx (x y : Rg) : Prop := (∀ k, 22 ≤ k → rI y k = rI x k) ∧ (∀ k, 16 ≤ k → rA y k = rA x k)
theorem Tx.rf {x : Rg} : Tx x x := ⟨fun _ _ => rfl, fun _ _ => rfl⟩
theorem Tx.qI {x y : Rg} {k : Nat} {v : Int32} (h : Tx x y) (hk : k < 22) : Tx x (qI y k v) := ⟨fun j hj => (rI_ne (by omega)).trans (h.1 j hj), fun j hj => h.2 j hj⟩
theorem Tx.qA {x y : Rg} {k : Nat} {f : Nat → Int32} (h : Tx x y) (hk : k < 16) : Tx x (qA y k f) := ⟨fun j hj => h.1 j hj, fun j hj => (rA_ne (by omega)).trans (h.2 j hj)⟩
theorem Tx.fr {x y : Rg} (h : Tx x y) (d : Nat) (b : Bool) : Tx x (frR y d b) := by
  cases b
  · exact (((((((h.qA (by decide)).qA (by decide)).qA (by decide)).qA (by decide)).qA (by decide)).qA (by decide)).qA (by decide))
  · exact (((((h.qA (by decide)).qA (by decide)).qA (by decide)).qA (by decide)).qA (by decide))
theorem Tx.op {x y : Rg} (h : Tx x y) (d : Nat) : Tx x (opR y d) := ((((h.qA (by decide)).qA (by decide)).qA (by decide)).qA (by decide)).qA (by decide)
theorem Tx.fo {x y : Rg} {f : Rg → Nat → Rg} (h : Tx x y) (hf : ∀ z d, Tx x z → Tx x (f z d)) : ∀ n, Tx x (foR f y n)
  | 0 => h
  | n + 1 => hf _ _ (Tx.fo h hf n)
theorem Tx.an {x y : Rg} (h : Tx x y) : Tx x (anR y) := (((((((Tx.fo ((h.qA (by decide)).qA (by decide)) (fun z d hz => Tx.fr hz d false) 6).qI (by decide)).qI (by decide)).qI (by decide)).qI (by decide)).qI (by decide)).qI (by decide)).qI (by decide)
theorem Tx.pt {x : Rg} {c0 : Nat} {a v : Int32} : Tx x (ptR x c0 a v).2 := by
  unfold ptR
  split
  · split
    · split
      · exact ((((((((((((Tx.rf.qI (by decide)).qA (by decide)).qA (by decide)).qA (by decide)).qA (by decide)).qA (by decide)).qA (by decide)).qA (by decide)).qA (by decide)).qA (by decide)).qA (by decide)).qA (by decide))
      · exact Tx.rf
    · exact Tx.rf
  · exact Tx.rf
theorem Tx.li {x : Rg} {n : Int32} : Tx x (liR x n).2 := by
  unfold liR
  split
  · exact Tx.rf.qI (by decide)
  · exact Tx.rf
theorem Tx.be {x : Rg} {a : Int32} : Tx x (beR x a).2 := by
  unfold beR
  split
  · split
    · exact (((Tx.rf.op _).qI (by decide)).qA (by decide)).qA (by decide)
    · exact Tx.rf
  · exact Tx.rf
theorem Tx.rd {x : Rg} {a b : Int32} : Tx x (rdR x a b).2 := by
  unfold rdR
  split
  · split
    · split
      · exact Tx.rf
      · split
        · exact Tx.rf
        · exact ((Tx.rf.qA (by decide)).qA (by decide)).qA (by decide)
    · exact Tx.rf
  · exact Tx.rf
theorem Tx.la {x : Rg} {a b v : Int32} : Tx x (laR x a b v).2 := by
  unfold laR
  split
  · split
    · split
      · exact (Tx.rf.qA (by decide)).qA (by decide)
      · exact Tx.rf
    · exact Tx.rf
  · exact Tx.rf
theorem Tx.sn {x : Rg} {a : Int32} : Tx x (snR x a).2 := by
  unfold snR
  split
  · split
    · exact ((((Tx.rf.qA (by decide)).qI (by decide)).qA (by decide)).qA (by decide)).qA (by decide)
    · exact Tx.rf
  · exact Tx.rf
theorem Tx.ds (x : Rg) (c0 k : Nat) : Tx x (dsR x c0 k) := by
  unfold dsR
  split
  · exact Tx.rf.an
  · split
    · exact Tx.pt
    · split
      · exact Tx.li
      · split
        · exact Tx.be
        · split
          · exact Tx.rd
          · split
            · exact Tx.la
            · exact Tx.sn
theorem Tx.tk {x y : Rg} {L : Nat → Int32} {t z : Nat} {b : Bool} (h : Tx x y) (hT : Tk x L t z b) : Tk y L t z b := ⟨(h.1 23 (by decide)).trans hT.1, (h.1 24 (by decide)).trans hT.2.1, (h.1 25 (by decide)).trans hT.2.2.1, (h.1 27 (by decide)).trans hT.2.2.2.1, (h.2 22 (by decide)).trans hT.2.2.2.2.1, (h.2 29 (by decide)).trans hT.2.2.2.2.2⟩
/-- where the token begins, once the numbers were read -/
def n1T (L : Nat → Int32) (t z : Nat) (a b : Int32) : Nat := if okN L t z a b = true then nxK L t z else z
def n2T (L : Nat → Int32) (t z : Nat) (a b a' b' : Int32) : Nat := if okN L t z a b = true then (if okN L t (nxK L t z) a' b' = true then nxK L t (nxK L t z) else nxK L t z) else z
def rrT (L : Nat → Int32) (t z k : Nat) : Nat :=
  if k = 0 then z else if k = 1 then n2T L t z 0 7 0 9999 else if k = 2 then n1T L t z 1 9 else if k = 4 then n2T L t z 0 5 0 7
  else if k = 5 then (if okN L t z 0 5 = true ∧ okN L t (nxK L t z) 0 7 = true then (if okN L t (nxK L t (nxK L t z)) 0 9999 = true then nxK L t (nxK L t (nxK L t z)) else nxK L t (nxK L t z)) else n2T L t z 0 5 0 7) else n1T L t z 0 5
theorem rdN_tk {x : Rg} {L : Nat → Int32} {t z k : Nat} {b : Bool} (h : Tk x L t z b) (lo hi : Int32) : Tk (rdN x L t z k lo hi).2 L t (if okN L t z lo hi = true then nxK L t z else z) b := by
  unfold rdN
  split
  · exact h.rd
  · exact h
theorem rc2_tk {x : Rg} {L : Nat → Int32} {t z : Nat} {b : Bool} (h : Tk x L t z b) (p q p' q' : Int32) : Tk (rc2 x L t z p q p' q').2 L t (if okN L t z p q = true then (if okN L t (nxK L t z) p' q' = true then nxK L t (nxK L t z) else nxK L t z) else z) b := by
  unfold rc2
  by_cases e : okN L t z p q = true
  · rw [if_pos (by rw [rdN, if_pos e]), if_pos e]
    exact rdN_tk h.rd _ _
  · rw [if_neg (by rw [rdN, if_neg e]; exact Bool.false_ne_true), if_neg e]
    exact h
theorem rc2_1 {x : Rg} {L : Nat → Int32} {t z : Nat} (p q p' q' : Int32) : (rc2 x L t z p q p' q').1 = true ↔ okN L t z p q = true ∧ okN L t (nxK L t z) p' q' = true := by
  unfold rc2
  by_cases e : okN L t z p q = true
  · rw [if_pos (by rw [rdN, if_pos e]), rdN]
    by_cases f : okN L t (nxK L t z) p' q' = true
    · rw [if_pos f]; exact ⟨fun _ => ⟨e, f⟩, fun _ => rfl⟩
    · rw [if_neg f]; exact ⟨fun g => (by cases g), fun g => absurd g.2 f⟩
  · rw [if_neg (by rw [rdN, if_neg e]; exact Bool.false_ne_true)]; exact ⟨fun g => (by cases g), fun g => absurd g.1 e⟩
theorem rrC_tk {x : Rg} {L : Nat → Int32} {t z : Nat} {b : Bool} (h : Tk x L t z b) (k : Nat) : Tk (rrC x L t z k).2 L t (rrT L t z k) b := by
  unfold rrC rrT
  by_cases k0 : k = 0
  · rw [if_pos k0]; simp only [if_pos k0]; exact h
  · rw [if_neg k0]; simp only [if_neg k0]
    by_cases k1 : k = 1
    · simp only [if_pos k1]; exact rc2_tk h _ _ _ _
    · simp only [if_neg k1]
      by_cases k2 : k = 2
      · simp only [if_pos k2]; exact rdN_tk h _ _
      · simp only [if_neg k2]
        by_cases k4 : k = 4
        · simp only [if_pos k4]; exact rc2_tk h _ _ _ _
        · simp only [if_neg k4]
          by_cases k5 : k = 5
          · simp only [if_pos k5]
            unfold rc3
            by_cases e : (rc2 x L t z 0 5 0 7).1 = true
            · rw [if_pos e, if_pos ((rc2_1 _ _ _ _).mp e)]; exact rdN_tk h.rd.rd _ _
            · rw [if_neg e, if_neg (fun g => e ((rc2_1 _ _ _ _).mpr g))]; exact rc2_tk h _ _ _ _
          · simp only [if_neg k5]; exact rdN_tk h _ _
theorem nxK_t' {L : Nat → Int32} {t z : Nat} (h : z ≤ t) : nxK L t z ≤ t := (nxK_b h).2
theorem rrT_t {L : Nat → Int32} {t z k : Nat} (h : z ≤ t) : rrT L t z k ≤ t := by
  have h1 := nxK_t' (L := L) h
  have h2 := nxK_t' (L := L) h1
  have h3 := nxK_t' (L := L) h2
  unfold rrT n1T n2T
  repeat' split
  all_goals first | exact h | exact h1 | exact h2 | exact h3
/-- a clause -/
def kdN (L : Nat → Int32) (t z : Nat) : Nat := (kdI L t z).toNatClampNeg
def clY (x : Rg) (L : Nat → Int32) (t z : Nat) : Bool × Rg := rrC (nxR x L t (nxK L t z)) L t (nxK L t z) (kdN L t z)
def clR (x : Rg) (L : Nat → Int32) (t z c0 : Nat) (b : Bool) : Bool × Rg :=
  if kdI L t z = -1 then (false, x) else if (clY x L t z).1 = true then (true, if b = true then dsR (clY x L t z).2 c0 (kdN L t z) else (clY x L t z).2) else (false, (clY x L t z).2)
def clT (L : Nat → Int32) (t z : Nat) : Nat := if kdI L t z = -1 then z else rrT L t (nxK L t z) (kdN L t z)
theorem clT_t {L : Nat → Int32} {t z : Nat} (h : z ≤ t) : clT L t z ≤ t := by
  unfold clT
  split
  · exact h
  · exact rrT_t (nxK_t' h)
theorem clY_tk {x : Rg} {L : Nat → Int32} {t z : Nat} {b : Bool} (h : Tk x L t z b) : Tk (clY x L t z).2 L t (rrT L t (nxK L t z) (kdN L t z)) b := rrC_tk h.zero.nx _
theorem clR_tk {x : Rg} {L : Nat → Int32} {t z : Nat} {b : Bool} (h : Tk x L t z b) (c0 : Nat) : Tk (clR x L t z c0 b).2 L t (clT L t z) b := by
  unfold clR clT
  by_cases q : kdI L t z = -1
  · rw [if_pos q, if_pos q]; exact h
  · rw [if_neg q, if_neg q]
    by_cases e : (clY x L t z).1 = true
    · rw [if_pos e]
      cases b
      · exact clY_tk h
      · exact (Tx.ds _ _ _).tk (clY_tk h)
    · rw [if_neg e]; exact clY_tk h
theorem rdN_f {x : Rg} {L : Nat → Int32} {t z k : Nat} {lo hi : Int32} (h : (rdN x L t z k lo hi).1 = false) : (rdN x L t z k lo hi).2 = x := by
  unfold rdN at h ⊢
  split at h
  · cases h
  · next q => rw [if_neg q]
theorem rc2_f1 {x : Rg} {L : Nat → Int32} {t z : Nat} {p q p' q' : Int32} (h : (rdN x L t z 0 p q).1 = false) : rc2 x L t z p q p' q' = (false, x) := if_neg (by rw [h]; exact Bool.false_ne_true)
theorem rc2_t1 {x : Rg} {L : Nat → Int32} {t z : Nat} {p q p' q' : Int32} (h : (rdN x L t z 0 p q).1 = true) : rc2 x L t z p q p' q' = rdN (rdY' x L t z 0) L t (nxK L t z) 1 p' q' := if_pos h
theorem rc3_f {x : Rg} {L : Nat → Int32} {t z : Nat} (h : (rc2 x L t z 0 5 0 7).1 = false) : rc3 x L t z = rc2 x L t z 0 5 0 7 := if_neg (by rw [h]; exact Bool.false_ne_true)
theorem rc3_t {x : Rg} {L : Nat → Int32} {t z : Nat} (h : (rc2 x L t z 0 5 0 7).1 = true) : rc3 x L t z = rdN (rdY' (rdY' x L t z 0) L t (nxK L t z) 1) L t (nxK L t (nxK L t z)) 2 0 9999 := if_pos h
/-! reading changes the token and the numbers alone -/
def Tn (x y : Rg) : Prop := (∀ k, ¬ (k = 24 ∨ k = 25) → rI y k = rI x k) ∧ (∀ k, ¬ k = 28 → rA y k = rA x k)
theorem Tn.rf {x : Rg} : Tn x x := ⟨fun _ _ => rfl, fun _ _ => rfl⟩
theorem Tn.tr {x y z : Rg} (h : Tn x y) (g : Tn y z) : Tn x z := ⟨fun k hk => (g.1 k hk).trans (h.1 k hk), fun k hk => (g.2 k hk).trans (h.2 k hk)⟩
theorem Tn.nx {x : Rg} {L : Nat → Int32} {t s : Nat} : Tn x (nxR x L t s) := ⟨fun k hk => (rI_ne (by omega)).trans (rI_ne (by omega)), fun _ _ => rfl⟩
theorem Tn.rd {x : Rg} {L : Nat → Int32} {t z k : Nat} : Tn x (rdY' x L t z k) := Tn.tr (y := qA x 28 (upd (rA x 28) k (nuV L t z))) ⟨fun _ _ => rfl, fun j hj => rA_ne hj⟩ Tn.nx
theorem Tn.rn {x : Rg} {L : Nat → Int32} {t z k : Nat} {lo hi : Int32} : Tn x (rdN x L t z k lo hi).2 := by
  unfold rdN
  split
  · exact Tn.rd
  · exact Tn.rf
theorem Tn.r2 {x : Rg} {L : Nat → Int32} {t z : Nat} {p q p' q' : Int32} : Tn x (rc2 x L t z p q p' q').2 := by
  unfold rc2
  split
  · exact Tn.tr Tn.rd Tn.rn
  · exact Tn.rf
theorem Tn.r3 {x : Rg} {L : Nat → Int32} {t z : Nat} : Tn x (rc3 x L t z).2 := by
  unfold rc3
  split
  · exact Tn.tr Tn.rd (Tn.tr Tn.rd Tn.rn)
  · exact Tn.r2
theorem Tn.rr (x : Rg) (L : Nat → Int32) (t z k : Nat) : Tn x (rrC x L t z k).2 := by
  unfold rrC
  split
  · exact Tn.rf
  · split
    · exact Tn.r2
    · split
      · exact Tn.rn
      · split
        · exact Tn.r2
        · split
          · exact Tn.r3
          · exact Tn.rn
theorem Tn.cy {x : Rg} {L : Nat → Int32} {t z : Nat} : Tn x (clY x L t z).2 := Tn.tr Tn.nx (Tn.rr _ _ _ _ _)
theorem clR_26 (x : Rg) (L : Nat → Int32) (t z c0 : Nat) (b : Bool) : rI (clR x L t z c0 b).2 26 = rI x 26 := by
  unfold clR
  split
  · rfl
  · split
    · cases b
      · exact Tn.cy.1 26 (by decide)
      · exact ((Tx.ds _ _ _).1 26 (by decide)).trans (Tn.cy.1 26 (by decide))
    · exact Tn.cy.1 26 (by decide)
def cR (x : Rg) : Nat := (rI x 2).toNatClampNeg
/-- the state and the token as clause n begins -/
def rsS (x : Rg) (L : Nat → Int32) (t : Nat) (b : Bool) : Nat → Nat × Rg
  | 0 => (tkS L t 0, nxR (qI (qI (qI x 27 (bI b)) 25 0) 26 1) L t (tkS L t 0))
  | n + 1 => (nxK L t (clT L t (rsS x L t b n).1), nxR (qI (clR (rsS x L t b n).2 L t (rsS x L t b n).1 (cR (rsS x L t b n).2) b).2 26 (nI (n + 1))) L t (nxK L t (clT L t (rsS x L t b n).1)))
def TB (x : Rg) (L : Nat → Int32) (t : Nat) : Prop := rI x 23 = nI t ∧ rA x 22 = L ∧ rA x 29 = wdT
theorem rsS_tk {x : Rg} {L : Nat → Int32} {t : Nat} (h : TB x L t) (b : Bool) : ∀ n, Tk (rsS x L t b n).2 L t (rsS x L t b n).1 b
  | 0 => (show T0 (qI (qI (qI x 27 (bI b)) 25 0) 26 1) L t b from ⟨h.1, rfl, h.2.1, h.2.2⟩).nx
  | n + 1 => by
    have q := clR_tk (rsS_tk h b n) (cR (rsS x L t b n).2)
    exact (show T0 (qI (clR (rsS x L t b n).2 L t (rsS x L t b n).1 (cR (rsS x L t b n).2) b).2 26 (nI (n + 1))) L t b from ⟨q.1, q.2.2.2.1, q.2.2.2.2.1, q.2.2.2.2.2⟩).nx
theorem rsS_t (x : Rg) (L : Nat → Int32) (t : Nat) (b : Bool) : ∀ n, (rsS x L t b n).1 ≤ t
  | 0 => (tkS_b (Nat.zero_le _)).2
  | n + 1 => nxK_t' (clT_t (rsS_t x L t b n))
def raR (L : Nat → Int32) (t : Nat) (b : Bool) : Nat → Nat → Nat → Rg → Bool × Rg
  | 0, _, _, y => (false, y)
  | m + 1, n, z, y =>
    if (clR y L t z (cR y) b).1 = true then
      if t ≤ clT L t z then (true, qI (clR y L t z (cR y) b).2 26 (nI (n + 1)))
      else if L (clT L t z) = 59 ∧ n + 1 < 24 then raR L t b m (n + 1) (nxK L t (clT L t z)) (nxR (qI (clR y L t z (cR y) b).2 26 (nI (n + 1))) L t (nxK L t (clT L t z)))
      else (false, qI (clR y L t z (cR y) b).2 26 (nI (n + 1)))
    else (false, qI (clR y L t z (cR y) b).2 26 (nI (n + 1)))
def raC (x : Rg) (L : Nat → Int32) (t : Nat) (b : Bool) : Bool × Rg := raR L t b 24 0 (rsS x L t b 0).1 (rsS x L t b 0).2

set_option maxHeartbeats 4000000 in
set_option maxRecDepth 100000 in
theorem kX4_next (l : Launch) (G : Cx) (h : Nat → Nat) (x : Rg) (L : Nat → Int32) (t : Nat) (ht2 : t ≤ 200) (b : Nat) (hbt : b ≤ t) (h23 : rI x 23 = nI t) (h25 : rI x 25 = nI b) (hL : rA x 22 = L) : Cv l G yX4_next cX4_next 3 (Rm 2 45) (rw' G h) [.ref (h 0)] x (fun u => u = nxR x L t (tkS L t b)) := by
  refine Cv.mk (by decide) (Nat.le_of_ble_eq_true rfl) ?_
  intro p e s m below meth c A ls go hw hl
  generalize s.heap = H at hw ⊢
  generalize ([] : List Loc) = locs at hw ⊢
  have hx := go.1
  have hb := go.2.1
  have hl : lv_has ls 3 [(0, .ref (h 0))] := hl
  refine lv_aload_n hx hb dX4_next_0 rfl (lv_at hl 0 rfl) ?_
  refine lv_aload_n hx hb dX4_next_1 rfl (lv_at hl 0 rfl) ?_
  refine gMi (k := 25) (v := nI b) (by decide) h25 go hw dX4_next_2 q615 ?_
  refine pM (k := 24) rfl go hw dX4_next_5 q614 (fun H locs hw => ?_)
  have hl0 : lv_has ls 3 [(0, .ref (h 0))] := lv_sub hl [0] rfl
  refine loop_up (N := t) (P := fun i H locs ls => Wd G A s H locs (rw' G h (qI x 24 (nI i))) ∧ lv_has ls 3 [(0, .ref (h 0))] ∧ runN (fun a => decide (L a = 32)) (t - i) i = tkS L t b) (X := fun H locs ls => W p l e (Rm 2 45) s m ([.ref (h 0)] : List Value).toArray below meth c H locs 0 0 (MQ below (va_Qv (fun u => u = nxR x L t (tkS L t b)) (PostW G (rw' G h) A) A) ([.ref (h 0)] : List Value).toArray s (Rm 2 45).cells (Rm 2 45).slots A) (F0 m 8 ls [])) ?_ b (by omega) H locs ls ⟨hw, hl0, rfl⟩
  clear hl0 hl hw
  intro i hi ih H locs ls hP
  obtain ⟨hw, hl, hE0⟩ := hP
  refine lv_aload_n hx hb dX4_next_8 rfl (lv_at hl 0 rfl) ?_
  refine gMi (k := 24) (v := nI i) (by decide) rI_eq go hw dX4_next_9 q614 ?_
  refine lv_aload_n hx hb dX4_next_12 rfl (lv_at hl 0 rfl) ?_
  refine gMi (k := 23) (v := nI t) (by decide) ((rI_ne (by decide)).trans h23) go hw dX4_next_13 q613 ?_
  refine lv_icmp_ge (tgt := 46) hx hb dX4_next_16 (by decide) (fun h16 => ?_) (fun h16 => ?_)
  · skip
    have hE : i = t := lp_end h16 rfl rfl hi (by omega)
    have hs : i = tkS L t b := (runN_end hE).symm.trans hE0
    have hiE := hE
    clear hE hE0
    refine lv_aload_n hx hb dX4_next_46 rfl (lv_at hl 0 rfl) ?_
    refine lv_aload_n hx hb dX4_next_47 rfl (lv_at hl 0 rfl) ?_
    refine gMi (k := 24) (v := nI i) (by decide) rI_eq go hw dX4_next_48 q614 ?_
    refine lv_aload_n hx hb dX4_next_51 rfl (lv_at hl 0 rfl) ?_
    refine gMi (k := 23) (v := nI t) (by decide) ((rI_ne (by decide)).trans h23) go hw dX4_next_52 q613 ?_
    refine lv_icmp_ge (tgt := 67) hx hb dX4_next_55 (by decide) (fun _ => ?_) (fun q => absurd h16 q)
    refine lv_aload_n hx hb dX4_next_67 rfl (lv_at hl 0 rfl) ?_
    refine gMi (k := 24) (v := nI i) (by decide) rI_eq go hw dX4_next_68 q614 ?_
    refine pM (k := 25) rfl go hw dX4_next_71 q615 (fun H locs hw => ?_)
    refine lv_aload_n hx hb dX4_next_74 rfl (lv_at hl 0 rfl) ?_
    refine gMi (k := 24) (v := nI i) (by decide) ((rI_ne (by decide)).trans rI_eq) go hw dX4_next_75 q614 ?_
    refine lv_aload_n hx hb dX4_next_78 rfl (lv_at hl 0 rfl) ?_
    refine gMi (k := 23) (v := nI t) (by decide) ((rI_ne (by decide)).trans ((rI_ne (by decide)).trans h23)) go hw dX4_next_79 q613 ?_
    refine lv_icmp_ge (tgt := 104) hx hb dX4_next_82 (by decide) (fun _ => ?_) (fun q => absurd h16 q)
    refine lv_iconst (v := 0) hx hb dX4_next_104 (by decide) ?_
    refine lv_istore_n (lv' := [(1, .int 0), (0, .ref (h 0))]) hx hb dX4_next_105 rfl hl (by decide) rfl (fun ls hl => ?_)
    refine lv_aload_n hx hb dX4_next_106 rfl (lv_at hl 1 rfl) ?_
    refine gMi (k := 24) (v := nI i) (by decide) ((rI_ne (by decide)).trans rI_eq) go hw dX4_next_107 q614 ?_
    refine lv_aload_n hx hb dX4_next_110 rfl (lv_at hl 1 rfl) ?_
    refine gMi (k := 23) (v := nI t) (by decide) ((rI_ne (by decide)).trans ((rI_ne (by decide)).trans h23)) go hw dX4_next_111 q613 ?_
    refine lv_icmp_ge (tgt := 136) hx hb dX4_next_114 (by decide) (fun _ => ?_) (fun q => absurd h16 q)
    refine lv_iconst (v := 0) hx hb dX4_next_136 (by decide) ?_
    refine lv_istore_n (lv' := [(2, .int 0), (1, .int 0), (0, .ref (h 0))]) hx hb dX4_next_137 rfl hl (by decide) rfl (fun ls hl => ?_)
    have hl0 : lv_has ls 3 [(0, .ref (h 0)), (1, .int 0), (2, .int 0)] := lv_sub hl [2, 1, 0] rfl
    refine loop_up (N := t) (P := fun j H locs ls => Wd G A s H locs (rw' G h (qI (qI x 24 (nI i)) 25 (nI j))) ∧ lv_has ls 3 [(0, .ref (h 0)), (1, .int 0), (2, .int 0)] ∧ runN (fun a => oneB (L i) (L a)) (t - j) j = runN (fun a => oneB (L i) (L a)) (t - (i)) (i) ∧ i ≤ j) (X := fun H locs ls => W p l e (Rm 2 45) s m ([.ref (h 0)] : List Value).toArray below meth c H locs 0 0 (MQ below (va_Qv (fun u => u = nxR x L t (tkS L t b)) (PostW G (rw' G h) A) A) ([.ref (h 0)] : List Value).toArray s (Rm 2 45).cells (Rm 2 45).slots A) (F0 m 138 ls [])) ?_ i (by omega) H locs ls ⟨hw, hl0, rfl, (Nat.le_refl _)⟩
    clear hl0 hl hw
    intro j hi ih H locs ls hP
    obtain ⟨hw, hl, hE0, hE1⟩ := hP
    refine lv_aload_n hx hb dX4_next_138 rfl (lv_at hl 0 rfl) ?_
    refine gMi (k := 25) (v := nI j) (by decide) rI_eq go hw dX4_next_139 q615 ?_
    refine lv_aload_n hx hb dX4_next_142 rfl (lv_at hl 0 rfl) ?_
    refine gMi (k := 23) (v := nI t) (by decide) ((rI_ne (by decide)).trans ((rI_ne (by decide)).trans h23)) go hw dX4_next_143 q613 ?_
    refine lv_icmp_ge (tgt := 200) hx hb dX4_next_146 (by decide) (fun h146 => ?_) (fun h146 => ?_)
    · skip
      have hE : j = t := lp_end h146 rfl rfl hi (by omega)
      have jr := (runN_end hE).symm.trans hE0
      refine ret_v (wf := rw' G h) go hw dX4_next_200 ?_
      have he : j = tkE L t i := by rw [tkE, if_neg (by omega), jr]; exact runN_end (by omega)
      show _ = nxR x L t (tkS L t b)
      rw [nxR, ← hs, ← he]
    · skip
      have hlt : j < t := lp_in h146 rfl rfl hi (by omega)
      refine lv_iload_n hx hb dX4_next_149 rfl (lv_at hl 1 rfl) ?_
      refine lv_if_eq (tgt := 168) hx hb dX4_next_150 (by decide) (fun _ => ?_) (fun q => absurd q (by decide))
      refine lv_iload_n hx hb dX4_next_168 rfl (lv_at hl 2 rfl) ?_
      have jr := (runN_f (p := (fun a => oneB (L i) (L a))) (by first | (simp [oneB, *, -hs]; done) | (exfalso; omega))).symm.trans hE0
      refine lv_if_eq (tgt := 200) hx hb dX4_next_169 (by decide) (fun _ => ?_) (fun q => absurd q (by decide))
      refine ret_v (wf := rw' G h) go hw dX4_next_200 ?_
      have he : j = tkE L t i := by rw [tkE, if_neg (by omega), jr]; exact runN_end (by omega)
      show _ = nxR x L t (tkS L t b)
      rw [nxR, ← hs, ← he]
  · skip
    have hlt : i < t := lp_in h16 rfl rfl hi (by omega)
    refine lv_aload_n hx hb dX4_next_19 rfl (lv_at hl 0 rfl) ?_
    refine gM (k := 22) (v := .ref (h 23)) rfl (by decide) rfl go hw dX4_next_20 q612 ?_
    refine lv_aload_n hx hb dX4_next_23 rfl (lv_at hl 0 rfl) ?_
    refine gMi (k := 24) (v := nI i) (by decide) rI_eq go hw dX4_next_24 q614 ?_
    refine aM (k := 22) (j := i) rfl (by decide) (by show i < 200; omega) go hw dX4_next_27 ?_
    refine toI (show rA (qI x 24 (nI i)) 22 i = rA x 22 i from congrFun ((rA_qI _ _ _ _).trans rfl) i) ?_
    refine toI (show rA x 22 i = L i from by exact congrFun hL _) ?_
    refine lv_bipush (v := 32) hx hb dX4_next_28 (by decide) ?_
    refine lv_icmp_ne (tgt := 46) hx hb dX4_next_30 (by decide) (fun h30 => ?_) (fun h30 => ?_)
    · skip
      have hs : i = tkS L t b := (runN_f (p := (fun a => decide (L a = 32))) (decide_eq_false h30)).symm.trans hE0
      clear hE0
      refine lv_aload_n hx hb dX4_next_46 rfl (lv_at hl 0 rfl) ?_
      refine lv_aload_n hx hb dX4_next_47 rfl (lv_at hl 0 rfl) ?_
      refine gMi (k := 24) (v := nI i) (by decide) rI_eq go hw dX4_next_48 q614 ?_
      refine lv_aload_n hx hb dX4_next_51 rfl (lv_at hl 0 rfl) ?_
      refine gMi (k := 23) (v := nI t) (by decide) ((rI_ne (by decide)).trans h23) go hw dX4_next_52 q613 ?_
      refine lv_icmp_ge (tgt := 67) hx hb dX4_next_55 (by decide) (fun q => absurd q h16) (fun _ => ?_)
      refine lv_aload_n hx hb dX4_next_58 rfl (lv_at hl 0 rfl) ?_
      refine gMi (k := 24) (v := nI i) (by decide) rI_eq go hw dX4_next_59 q614 ?_
      refine lv_iconst (v := 1) hx hb dX4_next_62 (by decide) ?_
      refine lv_iadd hx hb dX4_next_63 ?_
      refine toI (show (nI i) + 1 = nI (i + 1) from by exact nI_1 i) ?_
      refine lv_goto (tgt := 71) hx hb dX4_next_64 (by decide) ?_
      refine pM (k := 25) rfl go hw dX4_next_71 q615 (fun H locs hw => ?_)
      refine lv_aload_n hx hb dX4_next_74 rfl (lv_at hl 0 rfl) ?_
      refine gMi (k := 24) (v := nI i) (by decide) ((rI_ne (by decide)).trans rI_eq) go hw dX4_next_75 q614 ?_
      refine lv_aload_n hx hb dX4_next_78 rfl (lv_at hl 0 rfl) ?_
      refine gMi (k := 23) (v := nI t) (by decide) ((rI_ne (by decide)).trans ((rI_ne (by decide)).trans h23)) go hw dX4_next_79 q613 ?_
      refine lv_icmp_ge (tgt := 104) hx hb dX4_next_82 (by decide) (fun q => absurd q h16) (fun _ => ?_)
      refine lv_aload_n hx hb dX4_next_85 rfl (lv_at hl 0 rfl) ?_
      refine gM (k := 22) (v := .ref (h 23)) rfl (by decide) rfl go hw dX4_next_86 q612 ?_
      refine lv_aload_n hx hb dX4_next_89 rfl (lv_at hl 0 rfl) ?_
      refine gMi (k := 24) (v := nI i) (by decide) ((rI_ne (by decide)).trans rI_eq) go hw dX4_next_90 q614 ?_
      refine aM (k := 22) (j := i) rfl (by decide) (by show i < 200; omega) go hw dX4_next_93 ?_
      refine toI (show rA (qI (qI x 24 (nI i)) 25 (nI (i + 1))) 22 i = rA x 22 i from congrFun ((rA_qI _ _ _ _).trans ((rA_qI _ _ _ _).trans rfl)) i) ?_
      refine toI (show rA x 22 i = L i from by exact congrFun hL _) ?_
      refine cal_S (kX4_isSmall l G (L i)) go hw.2.2.1 hw.2.2.2.1 dX4_next_94 (And.intro q706 (And.intro q4 q708)) q707 kyX4_isSmall ⟨rfl, rfl⟩ ⟨Nat.le_of_ble_eq_true rfl, Nat.le_of_ble_eq_true rfl⟩ hl.1 rfl (Nat.le_of_ble_eq_true rfl) ⟨Nat.le_of_ble_eq_true rfl, Nat.le_of_ble_eq_true rfl⟩ ?_
      refine lv_if_eq (tgt := 104) hx hb dX4_next_97 (by decide) (fun h97 => ?_) (fun h97 => ?_)
      · skip
        have h97 := bI_0 h97
        refine lv_iconst (v := 0) hx hb dX4_next_104 (by decide) ?_
        refine lv_istore_n (lv' := [(1, .int 0), (0, .ref (h 0))]) hx hb dX4_next_105 rfl hl (by decide) rfl (fun ls hl => ?_)
        refine lv_aload_n hx hb dX4_next_106 rfl (lv_at hl 1 rfl) ?_
        refine gMi (k := 24) (v := nI i) (by decide) ((rI_ne (by decide)).trans rI_eq) go hw dX4_next_107 q614 ?_
        refine lv_aload_n hx hb dX4_next_110 rfl (lv_at hl 1 rfl) ?_
        refine gMi (k := 23) (v := nI t) (by decide) ((rI_ne (by decide)).trans ((rI_ne (by decide)).trans h23)) go hw dX4_next_111 q613 ?_
        refine lv_icmp_ge (tgt := 136) hx hb dX4_next_114 (by decide) (fun q => absurd q h16) (fun _ => ?_)
        refine lv_aload_n hx hb dX4_next_117 rfl (lv_at hl 1 rfl) ?_
        refine gM (k := 22) (v := .ref (h 23)) rfl (by decide) rfl go hw dX4_next_118 q612 ?_
        refine lv_aload_n hx hb dX4_next_121 rfl (lv_at hl 1 rfl) ?_
        refine gMi (k := 24) (v := nI i) (by decide) ((rI_ne (by decide)).trans rI_eq) go hw dX4_next_122 q614 ?_
        refine aM (k := 22) (j := i) rfl (by decide) (by show i < 200; omega) go hw dX4_next_125 ?_
        refine toI (show rA (qI (qI x 24 (nI i)) 25 (nI (i + 1))) 22 i = rA x 22 i from congrFun ((rA_qI _ _ _ _).trans ((rA_qI _ _ _ _).trans rfl)) i) ?_
        refine toI (show rA x 22 i = L i from by exact congrFun hL _) ?_
        refine cal_S (kX4_isDigit l G (L i)) go hw.2.2.1 hw.2.2.2.1 dX4_next_126 (And.intro q711 (And.intro q4 q713)) q712 kyX4_isDigit ⟨rfl, rfl⟩ ⟨Nat.le_of_ble_eq_true rfl, Nat.le_of_ble_eq_true rfl⟩ hl.1 rfl (Nat.le_of_ble_eq_true rfl) ⟨Nat.le_of_ble_eq_true rfl, Nat.le_of_ble_eq_true rfl⟩ ?_
        refine lv_if_eq (tgt := 136) hx hb dX4_next_129 (by decide) (fun h129 => ?_) (fun h129 => ?_)
        · skip
          have h129 := bI_0 h129
          refine lv_iconst (v := 0) hx hb dX4_next_136 (by decide) ?_
          refine lv_istore_n (lv' := [(2, .int 0), (1, .int 0), (0, .ref (h 0))]) hx hb dX4_next_137 rfl hl (by decide) rfl (fun ls hl => ?_)
          have hl0 : lv_has ls 3 [(0, .ref (h 0)), (1, .int 0), (2, .int 0)] := lv_sub hl [2, 1, 0] rfl
          refine loop_up (N := t) (P := fun j H locs ls => Wd G A s H locs (rw' G h (qI (qI x 24 (nI i)) 25 (nI j))) ∧ lv_has ls 3 [(0, .ref (h 0)), (1, .int 0), (2, .int 0)] ∧ runN (fun a => oneB (L i) (L a)) (t - j) j = runN (fun a => oneB (L i) (L a)) (t - (i + 1)) (i + 1) ∧ (i + 1) ≤ j) (X := fun H locs ls => W p l e (Rm 2 45) s m ([.ref (h 0)] : List Value).toArray below meth c H locs 0 0 (MQ below (va_Qv (fun u => u = nxR x L t (tkS L t b)) (PostW G (rw' G h) A) A) ([.ref (h 0)] : List Value).toArray s (Rm 2 45).cells (Rm 2 45).slots A) (F0 m 138 ls [])) ?_ (i + 1) (by omega) H locs ls ⟨hw, hl0, rfl, (Nat.le_refl _)⟩
          clear hl0 hl hw
          intro j hi ih H locs ls hP
          obtain ⟨hw, hl, hE0, hE1⟩ := hP
          refine lv_aload_n hx hb dX4_next_138 rfl (lv_at hl 0 rfl) ?_
          refine gMi (k := 25) (v := nI j) (by decide) rI_eq go hw dX4_next_139 q615 ?_
          refine lv_aload_n hx hb dX4_next_142 rfl (lv_at hl 0 rfl) ?_
          refine gMi (k := 23) (v := nI t) (by decide) ((rI_ne (by decide)).trans ((rI_ne (by decide)).trans h23)) go hw dX4_next_143 q613 ?_
          refine lv_icmp_ge (tgt := 200) hx hb dX4_next_146 (by decide) (fun h146 => ?_) (fun h146 => ?_)
          · skip
            have hE : j = t := lp_end h146 rfl rfl hi (by omega)
            have jr := (runN_end hE).symm.trans hE0
            refine ret_v (wf := rw' G h) go hw dX4_next_200 ?_
            have he : j = tkE L t i := by rw [tkE, if_pos (by omega), jr]
            show _ = nxR x L t (tkS L t b)
            rw [nxR, ← hs, ← he]
          · skip
            have hlt : j < t := lp_in h146 rfl rfl hi (by omega)
            refine lv_iload_n hx hb dX4_next_149 rfl (lv_at hl 1 rfl) ?_
            refine lv_if_eq (tgt := 168) hx hb dX4_next_150 (by decide) (fun _ => ?_) (fun q => absurd q (by decide))
            refine lv_iload_n hx hb dX4_next_168 rfl (lv_at hl 2 rfl) ?_
            have jr := (runN_f (p := (fun a => oneB (L i) (L a))) (by first | (simp [oneB, *, -hs]; done) | (exfalso; omega))).symm.trans hE0
            refine lv_if_eq (tgt := 200) hx hb dX4_next_169 (by decide) (fun _ => ?_) (fun q => absurd q (by decide))
            refine ret_v (wf := rw' G h) go hw dX4_next_200 ?_
            have he : j = tkE L t i := by rw [tkE, if_pos (by omega), jr]
            show _ = nxR x L t (tkS L t b)
            rw [nxR, ← hs, ← he]
        · skip
          have h129 := bI_1 h129
          refine lv_iconst (v := 1) hx hb dX4_next_132 (by decide) ?_
          refine lv_goto (tgt := 137) hx hb dX4_next_133 (by decide) ?_
          refine lv_istore_n (lv' := [(2, .int 1), (1, .int 0), (0, .ref (h 0))]) hx hb dX4_next_137 rfl hl (by decide) rfl (fun ls hl => ?_)
          have hl0 : lv_has ls 3 [(0, .ref (h 0)), (1, .int 0), (2, .int 1)] := lv_sub hl [2, 1, 0] rfl
          refine loop_up (N := t) (P := fun j H locs ls => Wd G A s H locs (rw' G h (qI (qI x 24 (nI i)) 25 (nI j))) ∧ lv_has ls 3 [(0, .ref (h 0)), (1, .int 0), (2, .int 1)] ∧ runN (fun a => oneB (L i) (L a)) (t - j) j = runN (fun a => oneB (L i) (L a)) (t - (i + 1)) (i + 1) ∧ (i + 1) ≤ j) (X := fun H locs ls => W p l e (Rm 2 45) s m ([.ref (h 0)] : List Value).toArray below meth c H locs 0 0 (MQ below (va_Qv (fun u => u = nxR x L t (tkS L t b)) (PostW G (rw' G h) A) A) ([.ref (h 0)] : List Value).toArray s (Rm 2 45).cells (Rm 2 45).slots A) (F0 m 138 ls [])) ?_ (i + 1) (by omega) H locs ls ⟨hw, hl0, rfl, (Nat.le_refl _)⟩
          clear hl0 hl hw
          intro j hi ih H locs ls hP
          obtain ⟨hw, hl, hE0, hE1⟩ := hP
          refine lv_aload_n hx hb dX4_next_138 rfl (lv_at hl 0 rfl) ?_
          refine gMi (k := 25) (v := nI j) (by decide) rI_eq go hw dX4_next_139 q615 ?_
          refine lv_aload_n hx hb dX4_next_142 rfl (lv_at hl 0 rfl) ?_
          refine gMi (k := 23) (v := nI t) (by decide) ((rI_ne (by decide)).trans ((rI_ne (by decide)).trans h23)) go hw dX4_next_143 q613 ?_
          refine lv_icmp_ge (tgt := 200) hx hb dX4_next_146 (by decide) (fun h146 => ?_) (fun h146 => ?_)
          · skip
            have hE : j = t := lp_end h146 rfl rfl hi (by omega)
            have jr := (runN_end hE).symm.trans hE0
            refine ret_v (wf := rw' G h) go hw dX4_next_200 ?_
            have he : j = tkE L t i := by rw [tkE, if_pos (by omega), jr]
            show _ = nxR x L t (tkS L t b)
            rw [nxR, ← hs, ← he]
          · skip
            have hlt : j < t := lp_in h146 rfl rfl hi (by omega)
            refine lv_iload_n hx hb dX4_next_149 rfl (lv_at hl 1 rfl) ?_
            refine lv_if_eq (tgt := 168) hx hb dX4_next_150 (by decide) (fun _ => ?_) (fun q => absurd q (by decide))
            refine lv_iload_n hx hb dX4_next_168 rfl (lv_at hl 2 rfl) ?_
            refine lv_if_eq (tgt := 200) hx hb dX4_next_169 (by decide) (fun q => absurd q (by decide)) (fun _ => ?_)
            refine lv_aload_n hx hb dX4_next_172 rfl (lv_at hl 0 rfl) ?_
            refine gM (k := 22) (v := .ref (h 23)) rfl (by decide) rfl go hw dX4_next_173 q612 ?_
            refine lv_aload_n hx hb dX4_next_176 rfl (lv_at hl 0 rfl) ?_
            refine gMi (k := 25) (v := nI j) (by decide) rI_eq go hw dX4_next_177 q615 ?_
            refine aM (k := 22) (j := j) rfl (by decide) (by show j < 200; omega) go hw dX4_next_180 ?_
            refine toI (show rA (qI (qI x 24 (nI i)) 25 (nI j)) 22 j = rA x 22 j from congrFun ((rA_qI _ _ _ _).trans ((rA_qI _ _ _ _).trans rfl)) j) ?_
            refine toI (show rA x 22 j = L j from by exact congrFun hL _) ?_
            refine cal_S (kX4_isDigit l G (L j)) go hw.2.2.1 hw.2.2.2.1 dX4_next_181 (And.intro q711 (And.intro q4 q713)) q712 kyX4_isDigit ⟨rfl, rfl⟩ ⟨Nat.le_of_ble_eq_true rfl, Nat.le_of_ble_eq_true rfl⟩ hl.1 rfl (Nat.le_of_ble_eq_true rfl) ⟨Nat.le_of_ble_eq_true rfl, Nat.le_of_ble_eq_true rfl⟩ ?_
            refine lv_if_eq (tgt := 200) hx hb dX4_next_184 (by decide) (fun h184 => ?_) (fun h184 => ?_)
            · skip
              have h184 := bI_0 h184
              have jr := (runN_f (p := (fun a => oneB (L i) (L a))) (by first | (simp [oneB, *, -hs]; done) | (exfalso; omega))).symm.trans hE0
              refine ret_v (wf := rw' G h) go hw dX4_next_200 ?_
              have he : j = tkE L t i := by rw [tkE, if_pos (by omega), jr]
              show _ = nxR x L t (tkS L t b)
              rw [nxR, ← hs, ← he]
            · skip
              have h184 := bI_1 h184
              refine lv_aload_n hx hb dX4_next_187 rfl (lv_at hl 0 rfl) ?_
              refine lv_dup hx hb dX4_next_188 rfl ?_
              refine gMi (k := 25) (v := nI j) (by decide) rI_eq go hw dX4_next_189 q615 ?_
              refine lv_iconst (v := 1) hx hb dX4_next_192 (by decide) ?_
              refine lv_iadd hx hb dX4_next_193 ?_
              refine toI (show (nI j) + 1 = nI (j + 1) from by exact nI_1 j) ?_
              refine pM (k := 25) rfl go hw dX4_next_194 q615 (fun H locs hw => ?_)
              refine lv_goto (tgt := 138) hx hb dX4_next_197 (by decide) ?_
              have hl9 : lv_has ls 3 [(0, .ref (h 0)), (1, .int 0), (2, .int 1)] := lv_sub hl [0, 1, 2] rfl
              rw [show qI (qI (qI x 24 (nI i)) 25 (nI j)) 25 (nI (j + 1)) = qI (qI x 24 (nI i)) 25 (nI (j + 1)) from by rw [qI_over]] at hw
              exact ih _ _ _ (by omega) ⟨hw, hl9, ((runN_t (p := (fun a => oneB (L i) (L a))) hlt (by first | (simp [oneB, *, -hs]; done) | (exfalso; omega))).trans hE0), (by omega)⟩
      · skip
        have h97 := bI_1 h97
        refine lv_iconst (v := 1) hx hb dX4_next_100 (by decide) ?_
        refine lv_goto (tgt := 105) hx hb dX4_next_101 (by decide) ?_
        refine lv_istore_n (lv' := [(1, .int 1), (0, .ref (h 0))]) hx hb dX4_next_105 rfl hl (by decide) rfl (fun ls hl => ?_)
        refine lv_aload_n hx hb dX4_next_106 rfl (lv_at hl 1 rfl) ?_
        refine gMi (k := 24) (v := nI i) (by decide) ((rI_ne (by decide)).trans rI_eq) go hw dX4_next_107 q614 ?_
        refine lv_aload_n hx hb dX4_next_110 rfl (lv_at hl 1 rfl) ?_
        refine gMi (k := 23) (v := nI t) (by decide) ((rI_ne (by decide)).trans ((rI_ne (by decide)).trans h23)) go hw dX4_next_111 q613 ?_
        refine lv_icmp_ge (tgt := 136) hx hb dX4_next_114 (by decide) (fun q => absurd q h16) (fun _ => ?_)
        refine lv_aload_n hx hb dX4_next_117 rfl (lv_at hl 1 rfl) ?_
        refine gM (k := 22) (v := .ref (h 23)) rfl (by decide) rfl go hw dX4_next_118 q612 ?_
        refine lv_aload_n hx hb dX4_next_121 rfl (lv_at hl 1 rfl) ?_
        refine gMi (k := 24) (v := nI i) (by decide) ((rI_ne (by decide)).trans rI_eq) go hw dX4_next_122 q614 ?_
        refine aM (k := 22) (j := i) rfl (by decide) (by show i < 200; omega) go hw dX4_next_125 ?_
        refine toI (show rA (qI (qI x 24 (nI i)) 25 (nI (i + 1))) 22 i = rA x 22 i from congrFun ((rA_qI _ _ _ _).trans ((rA_qI _ _ _ _).trans rfl)) i) ?_
        refine toI (show rA x 22 i = L i from by exact congrFun hL _) ?_
        refine cal_S (kX4_isDigit l G (L i)) go hw.2.2.1 hw.2.2.2.1 dX4_next_126 (And.intro q711 (And.intro q4 q713)) q712 kyX4_isDigit ⟨rfl, rfl⟩ ⟨Nat.le_of_ble_eq_true rfl, Nat.le_of_ble_eq_true rfl⟩ hl.1 rfl (Nat.le_of_ble_eq_true rfl) ⟨Nat.le_of_ble_eq_true rfl, Nat.le_of_ble_eq_true rfl⟩ ?_
        refine lv_if_eq (tgt := 136) hx hb dX4_next_129 (by decide) (fun h129 => ?_) (fun h129 => ?_)
        · skip
          have h129 := bI_0 h129
          refine lv_iconst (v := 0) hx hb dX4_next_136 (by decide) ?_
          refine lv_istore_n (lv' := [(2, .int 0), (1, .int 1), (0, .ref (h 0))]) hx hb dX4_next_137 rfl hl (by decide) rfl (fun ls hl => ?_)
          have hl0 : lv_has ls 3 [(0, .ref (h 0)), (1, .int 1), (2, .int 0)] := lv_sub hl [2, 1, 0] rfl
          refine loop_up (N := t) (P := fun j H locs ls => Wd G A s H locs (rw' G h (qI (qI x 24 (nI i)) 25 (nI j))) ∧ lv_has ls 3 [(0, .ref (h 0)), (1, .int 1), (2, .int 0)] ∧ runN (fun a => oneB (L i) (L a)) (t - j) j = runN (fun a => oneB (L i) (L a)) (t - (i + 1)) (i + 1) ∧ (i + 1) ≤ j) (X := fun H locs ls => W p l e (Rm 2 45) s m ([.ref (h 0)] : List Value).toArray below meth c H locs 0 0 (MQ below (va_Qv (fun u => u = nxR x L t (tkS L t b)) (PostW G (rw' G h) A) A) ([.ref (h 0)] : List Value).toArray s (Rm 2 45).cells (Rm 2 45).slots A) (F0 m 138 ls [])) ?_ (i + 1) (by omega) H locs ls ⟨hw, hl0, rfl, (Nat.le_refl _)⟩
          clear hl0 hl hw
          intro j hi ih H locs ls hP
          obtain ⟨hw, hl, hE0, hE1⟩ := hP
          refine lv_aload_n hx hb dX4_next_138 rfl (lv_at hl 0 rfl) ?_
          refine gMi (k := 25) (v := nI j) (by decide) rI_eq go hw dX4_next_139 q615 ?_
          refine lv_aload_n hx hb dX4_next_142 rfl (lv_at hl 0 rfl) ?_
          refine gMi (k := 23) (v := nI t) (by decide) ((rI_ne (by decide)).trans ((rI_ne (by decide)).trans h23)) go hw dX4_next_143 q613 ?_
          refine lv_icmp_ge (tgt := 200) hx hb dX4_next_146 (by decide) (fun h146 => ?_) (fun h146 => ?_)
          · skip
            have hE : j = t := lp_end h146 rfl rfl hi (by omega)
            have jr := (runN_end hE).symm.trans hE0
            refine ret_v (wf := rw' G h) go hw dX4_next_200 ?_
            have he : j = tkE L t i := by rw [tkE, if_pos (by omega), jr]
            show _ = nxR x L t (tkS L t b)
            rw [nxR, ← hs, ← he]
          · skip
            have hlt : j < t := lp_in h146 rfl rfl hi (by omega)
            refine lv_iload_n hx hb dX4_next_149 rfl (lv_at hl 1 rfl) ?_
            refine lv_if_eq (tgt := 168) hx hb dX4_next_150 (by decide) (fun q => absurd q (by decide)) (fun _ => ?_)
            refine lv_aload_n hx hb dX4_next_153 rfl (lv_at hl 0 rfl) ?_
            refine gM (k := 22) (v := .ref (h 23)) rfl (by decide) rfl go hw dX4_next_154 q612 ?_
            refine lv_aload_n hx hb dX4_next_157 rfl (lv_at hl 0 rfl) ?_
            refine gMi (k := 25) (v := nI j) (by decide) rI_eq go hw dX4_next_158 q615 ?_
            refine aM (k := 22) (j := j) rfl (by decide) (by show j < 200; omega) go hw dX4_next_161 ?_
            refine toI (show rA (qI (qI x 24 (nI i)) 25 (nI j)) 22 j = rA x 22 j from congrFun ((rA_qI _ _ _ _).trans ((rA_qI _ _ _ _).trans rfl)) j) ?_
            refine toI (show rA x 22 j = L j from by exact congrFun hL _) ?_
            refine cal_S (kX4_isSmall l G (L j)) go hw.2.2.1 hw.2.2.2.1 dX4_next_162 (And.intro q706 (And.intro q4 q708)) q707 kyX4_isSmall ⟨rfl, rfl⟩ ⟨Nat.le_of_ble_eq_true rfl, Nat.le_of_ble_eq_true rfl⟩ hl.1 rfl (Nat.le_of_ble_eq_true rfl) ⟨Nat.le_of_ble_eq_true rfl, Nat.le_of_ble_eq_true rfl⟩ ?_
            refine lv_if_ne (tgt := 187) hx hb dX4_next_165 (by decide) (fun h165 => ?_) (fun h165 => ?_)
            · skip
              have h165 := bI_1 h165
              refine lv_aload_n hx hb dX4_next_187 rfl (lv_at hl 0 rfl) ?_
              refine lv_dup hx hb dX4_next_188 rfl ?_
              refine gMi (k := 25) (v := nI j) (by decide) rI_eq go hw dX4_next_189 q615 ?_
              refine lv_iconst (v := 1) hx hb dX4_next_192 (by decide) ?_
              refine lv_iadd hx hb dX4_next_193 ?_
              refine toI (show (nI j) + 1 = nI (j + 1) from by exact nI_1 j) ?_
              refine pM (k := 25) rfl go hw dX4_next_194 q615 (fun H locs hw => ?_)
              refine lv_goto (tgt := 138) hx hb dX4_next_197 (by decide) ?_
              have hl9 : lv_has ls 3 [(0, .ref (h 0)), (1, .int 1), (2, .int 0)] := lv_sub hl [0, 1, 2] rfl
              rw [show qI (qI (qI x 24 (nI i)) 25 (nI j)) 25 (nI (j + 1)) = qI (qI x 24 (nI i)) 25 (nI (j + 1)) from by rw [qI_over]] at hw
              exact ih _ _ _ (by omega) ⟨hw, hl9, ((runN_t (p := (fun a => oneB (L i) (L a))) hlt (by first | (simp [oneB, *, -hs]; done) | (exfalso; omega))).trans hE0), (by omega)⟩
            · skip
              have h165 := bI_0 h165
              refine lv_iload_n hx hb dX4_next_168 rfl (lv_at hl 2 rfl) ?_
              have jr := (runN_f (p := (fun a => oneB (L i) (L a))) (by first | (simp [oneB, *, -hs]; done) | (exfalso; omega))).symm.trans hE0
              refine lv_if_eq (tgt := 200) hx hb dX4_next_169 (by decide) (fun _ => ?_) (fun q => absurd q (by decide))
              refine ret_v (wf := rw' G h) go hw dX4_next_200 ?_
              have he : j = tkE L t i := by rw [tkE, if_pos (by omega), jr]
              show _ = nxR x L t (tkS L t b)
              rw [nxR, ← hs, ← he]
        · skip
          have h129 := bI_1 h129
          refine lv_iconst (v := 1) hx hb dX4_next_132 (by decide) ?_
          refine lv_goto (tgt := 137) hx hb dX4_next_133 (by decide) ?_
          refine lv_istore_n (lv' := [(2, .int 1), (1, .int 1), (0, .ref (h 0))]) hx hb dX4_next_137 rfl hl (by decide) rfl (fun ls hl => ?_)
          have hl0 : lv_has ls 3 [(0, .ref (h 0)), (1, .int 1), (2, .int 1)] := lv_sub hl [2, 1, 0] rfl
          refine loop_up (N := t) (P := fun j H locs ls => Wd G A s H locs (rw' G h (qI (qI x 24 (nI i)) 25 (nI j))) ∧ lv_has ls 3 [(0, .ref (h 0)), (1, .int 1), (2, .int 1)] ∧ runN (fun a => oneB (L i) (L a)) (t - j) j = runN (fun a => oneB (L i) (L a)) (t - (i + 1)) (i + 1) ∧ (i + 1) ≤ j) (X := fun H locs ls => W p l e (Rm 2 45) s m ([.ref (h 0)] : List Value).toArray below meth c H locs 0 0 (MQ below (va_Qv (fun u => u = nxR x L t (tkS L t b)) (PostW G (rw' G h) A) A) ([.ref (h 0)] : List Value).toArray s (Rm 2 45).cells (Rm 2 45).slots A) (F0 m 138 ls [])) ?_ (i + 1) (by omega) H locs ls ⟨hw, hl0, rfl, (Nat.le_refl _)⟩
          clear hl0 hl hw
          intro j hi ih H locs ls hP
          obtain ⟨hw, hl, hE0, hE1⟩ := hP
          refine lv_aload_n hx hb dX4_next_138 rfl (lv_at hl 0 rfl) ?_
          refine gMi (k := 25) (v := nI j) (by decide) rI_eq go hw dX4_next_139 q615 ?_
          refine lv_aload_n hx hb dX4_next_142 rfl (lv_at hl 0 rfl) ?_
          refine gMi (k := 23) (v := nI t) (by decide) ((rI_ne (by decide)).trans ((rI_ne (by decide)).trans h23)) go hw dX4_next_143 q613 ?_
          refine lv_icmp_ge (tgt := 200) hx hb dX4_next_146 (by decide) (fun h146 => ?_) (fun h146 => ?_)
          · skip
            have hE : j = t := lp_end h146 rfl rfl hi (by omega)
            have jr := (runN_end hE).symm.trans hE0
            refine ret_v (wf := rw' G h) go hw dX4_next_200 ?_
            have he : j = tkE L t i := by rw [tkE, if_pos (by omega), jr]
            show _ = nxR x L t (tkS L t b)
            rw [nxR, ← hs, ← he]
          · skip
            have hlt : j < t := lp_in h146 rfl rfl hi (by omega)
            refine lv_iload_n hx hb dX4_next_149 rfl (lv_at hl 1 rfl) ?_
            refine lv_if_eq (tgt := 168) hx hb dX4_next_150 (by decide) (fun q => absurd q (by decide)) (fun _ => ?_)
            refine lv_aload_n hx hb dX4_next_153 rfl (lv_at hl 0 rfl) ?_
            refine gM (k := 22) (v := .ref (h 23)) rfl (by decide) rfl go hw dX4_next_154 q612 ?_
            refine lv_aload_n hx hb dX4_next_157 rfl (lv_at hl 0 rfl) ?_
            refine gMi (k := 25) (v := nI j) (by decide) rI_eq go hw dX4_next_158 q615 ?_
            refine aM (k := 22) (j := j) rfl (by decide) (by show j < 200; omega) go hw dX4_next_161 ?_
            refine toI (show rA (qI (qI x 24 (nI i)) 25 (nI j)) 22 j = rA x 22 j from congrFun ((rA_qI _ _ _ _).trans ((rA_qI _ _ _ _).trans rfl)) j) ?_
            refine toI (show rA x 22 j = L j from by exact congrFun hL _) ?_
            refine cal_S (kX4_isSmall l G (L j)) go hw.2.2.1 hw.2.2.2.1 dX4_next_162 (And.intro q706 (And.intro q4 q708)) q707 kyX4_isSmall ⟨rfl, rfl⟩ ⟨Nat.le_of_ble_eq_true rfl, Nat.le_of_ble_eq_true rfl⟩ hl.1 rfl (Nat.le_of_ble_eq_true rfl) ⟨Nat.le_of_ble_eq_true rfl, Nat.le_of_ble_eq_true rfl⟩ ?_
            refine lv_if_ne (tgt := 187) hx hb dX4_next_165 (by decide) (fun h165 => ?_) (fun h165 => ?_)
            · skip
              have h165 := bI_1 h165
              refine lv_aload_n hx hb dX4_next_187 rfl (lv_at hl 0 rfl) ?_
              refine lv_dup hx hb dX4_next_188 rfl ?_
              refine gMi (k := 25) (v := nI j) (by decide) rI_eq go hw dX4_next_189 q615 ?_
              refine lv_iconst (v := 1) hx hb dX4_next_192 (by decide) ?_
              refine lv_iadd hx hb dX4_next_193 ?_
              refine toI (show (nI j) + 1 = nI (j + 1) from by exact nI_1 j) ?_
              refine pM (k := 25) rfl go hw dX4_next_194 q615 (fun H locs hw => ?_)
              refine lv_goto (tgt := 138) hx hb dX4_next_197 (by decide) ?_
              have hl9 : lv_has ls 3 [(0, .ref (h 0)), (1, .int 1), (2, .int 1)] := lv_sub hl [0, 1, 2] rfl
              rw [show qI (qI (qI x 24 (nI i)) 25 (nI j)) 25 (nI (j + 1)) = qI (qI x 24 (nI i)) 25 (nI (j + 1)) from by rw [qI_over]] at hw
              exact ih _ _ _ (by omega) ⟨hw, hl9, ((runN_t (p := (fun a => oneB (L i) (L a))) hlt (by first | (simp [oneB, *, -hs]; done) | (exfalso; omega))).trans hE0), (by omega)⟩
            · skip
              have h165 := bI_0 h165
              refine lv_iload_n hx hb dX4_next_168 rfl (lv_at hl 2 rfl) ?_
              refine lv_if_eq (tgt := 200) hx hb dX4_next_169 (by decide) (fun q => absurd q (by decide)) (fun _ => ?_)
              refine lv_aload_n hx hb dX4_next_172 rfl (lv_at hl 0 rfl) ?_
              refine gM (k := 22) (v := .ref (h 23)) rfl (by decide) rfl go hw dX4_next_173 q612 ?_
              refine lv_aload_n hx hb dX4_next_176 rfl (lv_at hl 0 rfl) ?_
              refine gMi (k := 25) (v := nI j) (by decide) rI_eq go hw dX4_next_177 q615 ?_
              refine aM (k := 22) (j := j) rfl (by decide) (by show j < 200; omega) go hw dX4_next_180 ?_
              refine toI (show rA (qI (qI x 24 (nI i)) 25 (nI j)) 22 j = rA x 22 j from congrFun ((rA_qI _ _ _ _).trans ((rA_qI _ _ _ _).trans rfl)) j) ?_
              refine toI (show rA x 22 j = L j from by exact congrFun hL _) ?_
              refine cal_S (kX4_isDigit l G (L j)) go hw.2.2.1 hw.2.2.2.1 dX4_next_181 (And.intro q711 (And.intro q4 q713)) q712 kyX4_isDigit ⟨rfl, rfl⟩ ⟨Nat.le_of_ble_eq_true rfl, Nat.le_of_ble_eq_true rfl⟩ hl.1 rfl (Nat.le_of_ble_eq_true rfl) ⟨Nat.le_of_ble_eq_true rfl, Nat.le_of_ble_eq_true rfl⟩ ?_
              refine lv_if_eq (tgt := 200) hx hb dX4_next_184 (by decide) (fun h184 => ?_) (fun h184 => ?_)
              · skip
                have h184 := bI_0 h184
                have jr := (runN_f (p := (fun a => oneB (L i) (L a))) (by first | (simp [oneB, *, -hs]; done) | (exfalso; omega))).symm.trans hE0
                refine ret_v (wf := rw' G h) go hw dX4_next_200 ?_
                have he : j = tkE L t i := by rw [tkE, if_pos (by omega), jr]
                show _ = nxR x L t (tkS L t b)
                rw [nxR, ← hs, ← he]
              · skip
                have h184 := bI_1 h184
                refine lv_aload_n hx hb dX4_next_187 rfl (lv_at hl 0 rfl) ?_
                refine lv_dup hx hb dX4_next_188 rfl ?_
                refine gMi (k := 25) (v := nI j) (by decide) rI_eq go hw dX4_next_189 q615 ?_
                refine lv_iconst (v := 1) hx hb dX4_next_192 (by decide) ?_
                refine lv_iadd hx hb dX4_next_193 ?_
                refine toI (show (nI j) + 1 = nI (j + 1) from by exact nI_1 j) ?_
                refine pM (k := 25) rfl go hw dX4_next_194 q615 (fun H locs hw => ?_)
                refine lv_goto (tgt := 138) hx hb dX4_next_197 (by decide) ?_
                have hl9 : lv_has ls 3 [(0, .ref (h 0)), (1, .int 1), (2, .int 1)] := lv_sub hl [0, 1, 2] rfl
                rw [show qI (qI (qI x 24 (nI i)) 25 (nI j)) 25 (nI (j + 1)) = qI (qI x 24 (nI i)) 25 (nI (j + 1)) from by rw [qI_over]] at hw
                exact ih _ _ _ (by omega) ⟨hw, hl9, ((runN_t (p := (fun a => oneB (L i) (L a))) hlt (by first | (simp [oneB, *, -hs]; done) | (exfalso; omega))).trans hE0), (by omega)⟩
    · skip
      refine lv_aload_n hx hb dX4_next_33 rfl (lv_at hl 0 rfl) ?_
      refine lv_dup hx hb dX4_next_34 rfl ?_
      refine gMi (k := 24) (v := nI i) (by decide) rI_eq go hw dX4_next_35 q614 ?_
      refine lv_iconst (v := 1) hx hb dX4_next_38 (by decide) ?_
      refine lv_iadd hx hb dX4_next_39 ?_
      refine toI (show (nI i) + 1 = nI (i + 1) from by exact nI_1 i) ?_
      refine pM (k := 24) rfl go hw dX4_next_40 q614 (fun H locs hw => ?_)
      refine lv_goto (tgt := 8) hx hb dX4_next_43 (by decide) ?_
      have hl9 : lv_has ls 3 [(0, .ref (h 0))] := lv_sub hl [0] rfl
      rw [show qI (qI x 24 (nI i)) 24 (nI (i + 1)) = qI x 24 (nI (i + 1)) from by rw [qI_over]] at hw
      exact ih _ _ _ (by omega) ⟨hw, hl9, ((runN_t hlt (decide_eq_true h30)).trans hE0)⟩

set_option maxHeartbeats 4000000 in
set_option maxRecDepth 100000 in
theorem kX4_wordHere (l : Launch) (G : Cx) (h : Nat → Nat) (x : Rg) (L : Nat → Int32) (t : Nat) (ht2 : t ≤ 200) (z : Nat) (hz : z ≤ t) (b : Bool) (hT : Tk x L t z b) : Ci l G yX4_wordHere cX4_wordHere 4 .int (Rm 0 0) (rw' G h) [.ref (h 0)] x (fun r u => r = kdI L t z ∧ u = x) := by
  refine Ci.mk (by decide) (Nat.le_of_ble_eq_true rfl) ?_
  intro p e s m below meth c A ls go hw hl
  generalize s.heap = H at hw ⊢
  generalize ([] : List Loc) = locs at hw ⊢
  have hx := go.1
  have hb := go.2.1
  have hl : lv_has ls 4 [(0, .ref (h 0))] := hl
  have hE9 := tkE_b (L := L) hz
  refine lv_iconst (v := 0) hx hb dX4_wordHere_0 (by decide) ?_
  refine lv_istore_n (lv' := [(1, .int 0), (0, .ref (h 0))]) hx hb dX4_wordHere_1 rfl hl (by decide) rfl (fun ls hl => ?_)
  have hl0 : lv_has ls 4 [(0, .ref (h 0)), (1, .int (nI 0))] := lv_to (lv_sub (l' := [(0, .ref (h 0)), (1, .int 0)]) hl [1, 0] rfl) (lr (lc (show (0 : Int32) = nI 0 from rfl) rfl))
  refine loop_up (N := 7) (P := fun i H locs ls => Wd G A s H locs (rw' G h x) ∧ lv_has ls 4 [(0, .ref (h 0)), (1, .int (nI i))] ∧ (∀ j, j < i → wdB L t z j = false)) (X := fun H locs ls => W p l e (Rm 0 0) s m ([.ref (h 0)] : List Value).toArray below meth c H locs 0 0 (MQ below (va_Qi (fun r u => r = kdI L t z ∧ u = x) (PostW G (rw' G h) A) A) ([.ref (h 0)] : List Value).toArray s (Rm 0 0).cells (Rm 0 0).slots A) (F0 m 2 ls [])) ?_ 0 (by omega) H locs ls ⟨hw, hl0, (fun j hj => absurd hj (by omega))⟩
  clear hl0 hl hw
  intro i hi ih0 H locs ls hP
  obtain ⟨hw, hl, hE0⟩ := hP
  refine lv_iload_n hx hb dX4_wordHere_2 rfl (lv_at hl 1 rfl) ?_
  refine lv_bipush (v := 7) hx hb dX4_wordHere_3 (by decide) ?_
  refine lv_icmp_ge (tgt := 115) hx hb dX4_wordHere_5 (by decide) (fun h5 => ?_) (fun h5 => ?_)
  · skip
    have hE : i = 7 := lp_end h5 rfl rfl hi (by decide)
    subst hE
    refine lv_iconst (v := (-1)) hx hb dX4_wordHere_115 (by decide) ?_
    refine ret_i (wf := rw' G h) go hw dX4_wordHere_116 ?_
    exact ⟨((kdI_eq _ _ _).trans (fstI_no hE0)).symm, rfl⟩
  · skip
    have hlt : i < 7 := lp_in h5 rfl rfl hi (by decide)
    refine lv_aload_n hx hb dX4_wordHere_8 rfl (lv_at hl 0 rfl) ?_
    refine gMi (k := 25) (v := nI (tkE L t z)) (by decide) hT.2.2.1 go hw dX4_wordHere_9 q615 ?_
    refine lv_aload_n hx hb dX4_wordHere_12 rfl (lv_at hl 0 rfl) ?_
    refine gMi (k := 24) (v := nI z) (by decide) hT.2.1 go hw dX4_wordHere_13 q614 ?_
    refine lv_icmp_le (tgt := 37) hx hb dX4_wordHere_16 (by decide) (fun h16 => ?_) (fun h16 => ?_)
    · skip
      have h16b : ¬ z < (tkE L t z) := fun q => nI_ge q (by omega) h16
      refine lv_iconst (v := 0) hx hb dX4_wordHere_37 (by decide) ?_
      refine toI (show 0 = bI (whB wdT L z (tkE L t z) i 0) from by simp [whB, exB, bI, *]) ?_
      refine lv_istore_n (lv' := [(2, .int (bI (whB wdT L z (tkE L t z) i 0))), (0, .ref (h 0)), (1, .int (nI i))]) hx hb dX4_wordHere_38 rfl hl (by decide) rfl (fun ls hl => ?_)
      refine lv_iconst (v := 0) hx hb dX4_wordHere_39 (by decide) ?_
      refine lv_istore_n (lv' := [(3, .int 0), (2, .int (bI (whB wdT L z (tkE L t z) i 0))), (0, .ref (h 0)), (1, .int (nI i))]) hx hb dX4_wordHere_40 rfl hl (by decide) rfl (fun ls hl => ?_)
      have hl0 : lv_has ls 4 [(0, .ref (h 0)), (1, .int (nI i)), (2, .int (bI (whB wdT L z (tkE L t z) i 0))), (3, .int (nI 0))] := lv_to (lv_sub (l' := [(0, .ref (h 0)), (1, .int (nI i)), (2, .int (bI (whB wdT L z (tkE L t z) i 0))), (3, .int 0)]) hl [2, 3, 1, 0] rfl) (lr (lr (lr (lc (show (0 : Int32) = nI 0 from rfl) rfl))))
      refine loop_up (N := 5) (P := fun jj H locs ls => Wd G A s H locs (rw' G h x) ∧ lv_has ls 4 [(0, .ref (h 0)), (1, .int (nI i)), (2, .int (bI (whB wdT L z (tkE L t z) i jj))), (3, .int (nI jj))]) (X := fun H locs ls => W p l e (Rm 0 0) s m ([.ref (h 0)] : List Value).toArray below meth c H locs 0 0 (MQ below (va_Qi (fun r u => r = kdI L t z ∧ u = x) (PostW G (rw' G h) A) A) ([.ref (h 0)] : List Value).toArray s (Rm 0 0).cells (Rm 0 0).slots A) (F0 m 41 ls [])) ?_ 0 (by omega) H locs ls ⟨hw, hl0⟩
      clear hl0 hl hw
      intro jj hi ih H locs ls hP
      obtain ⟨hw, hl⟩ := hP
      refine lv_iload_n hx hb dX4_wordHere_41 rfl (lv_at hl 3 rfl) ?_
      refine lv_iconst (v := 5) hx hb dX4_wordHere_42 (by decide) ?_
      refine lv_icmp_ge (tgt := 103) hx hb dX4_wordHere_43 (by decide) (fun h43 => ?_) (fun h43 => ?_)
      · skip
        have hE : jj = 5 := lp_end h43 rfl rfl hi (by decide)
        subst hE
        refine lv_iload_n hx hb dX4_wordHere_103 rfl (lv_at hl 2 rfl) ?_
        refine lv_if_eq (tgt := 109) hx hb dX4_wordHere_104 (by decide) (fun h104 => ?_) (fun h104 => ?_)
        · skip
          have h104 := bI_0 h104
          refine lv_iinc (v := nI (i + 1)) (lv' := [(1, .int (nI (i + 1))), (0, .ref (h 0)), (2, .int (bI (whB wdT L z (tkE L t z) i 5))), (3, .int (nI 5))]) hx hb dX4_wordHere_109 hl (k := 1) rfl (nI_1 _) (by decide) rfl (fun ls hl => ?_)
          refine lv_goto (tgt := 2) hx hb dX4_wordHere_112 (by decide) ?_
          have hW5 : whB wdT L z (tkE L t z) i 5 = false := by first | exact h104 | exact whB_m h47 (by omega)
          have hl9 : lv_has ls 4 [(0, .ref (h 0)), (1, .int (nI (i + 1)))] := lv_sub hl [1, 0] rfl
          exact ih0 _ _ _ (by omega) ⟨hw, hl9, (lt_s hE0 ((wh_wd L ht2 hz (by omega)).symm.trans hW5))⟩
        · skip
          have h104 := bI_1 h104
          refine lv_iload_n hx hb dX4_wordHere_107 rfl (lv_at hl 1 rfl) ?_
          refine ret_i (wf := rw' G h) go hw dX4_wordHere_108 ?_
          first | exact absurd (h47.symm.trans h104) (by decide) | exact ⟨((kdI_eq _ _ _).trans (fstI_at (p := wdB L t z) (i := i) ((wh_wd L ht2 hz (by omega)).symm.trans h104) hE0 (by omega))).symm, rfl⟩
      · skip
        have hlt : jj < 5 := lp_in h43 rfl rfl hi (by decide)
        refine lv_iload_n hx hb dX4_wordHere_46 rfl (lv_at hl 2 rfl) ?_
        refine lv_if_eq (tgt := 103) hx hb dX4_wordHere_47 (by decide) (fun h47 => ?_) (fun h47 => ?_)
        · skip
          have h47 := bI_0 h47
          refine lv_iload_n hx hb dX4_wordHere_103 rfl (lv_at hl 2 rfl) ?_
          refine lv_if_eq (tgt := 109) hx hb dX4_wordHere_104 (by decide) (fun h104 => ?_) (fun h104 => ?_)
          · skip
            have h104 := bI_0 h104
            refine lv_iinc (v := nI (i + 1)) (lv' := [(1, .int (nI (i + 1))), (0, .ref (h 0)), (2, .int (bI (whB wdT L z (tkE L t z) i jj))), (3, .int (nI jj))]) hx hb dX4_wordHere_109 hl (k := 1) rfl (nI_1 _) (by decide) rfl (fun ls hl => ?_)
            refine lv_goto (tgt := 2) hx hb dX4_wordHere_112 (by decide) ?_
            have hW5 : whB wdT L z (tkE L t z) i 5 = false := by first | exact h104 | exact whB_m h47 (by omega)
            have hl9 : lv_has ls 4 [(0, .ref (h 0)), (1, .int (nI (i + 1)))] := lv_sub hl [1, 0] rfl
            exact ih0 _ _ _ (by omega) ⟨hw, hl9, (lt_s hE0 ((wh_wd L ht2 hz (by omega)).symm.trans hW5))⟩
          · skip
            have h104 := bI_1 h104
            refine lv_iload_n hx hb dX4_wordHere_107 rfl (lv_at hl 1 rfl) ?_
            refine ret_i (wf := rw' G h) go hw dX4_wordHere_108 ?_
            first | exact absurd (h47.symm.trans h104) (by decide) | exact ⟨((kdI_eq _ _ _).trans (fstI_at (p := wdB L t z) (i := i) ((wh_wd L ht2 hz (by omega)).symm.trans h104) hE0 (by omega))).symm, rfl⟩
        · skip
          have h47 := bI_1 h47
          refine lv_aload_n hx hb dX4_wordHere_50 rfl (lv_at hl 0 rfl) ?_
          refine gM (k := 29) (v := .ref (h 30)) rfl (by decide) rfl go hw dX4_wordHere_51 q619 ?_
          refine lv_iconst (v := 5) hx hb dX4_wordHere_54 (by decide) ?_
          refine lv_iload_n hx hb dX4_wordHere_55 rfl (lv_at hl 1 rfl) ?_
          refine lv_imul hx hb dX4_wordHere_56 ?_
          refine lv_iload_n hx hb dX4_wordHere_57 rfl (lv_at hl 3 rfl) ?_
          refine lv_iadd hx hb dX4_wordHere_58 ?_
          refine toI (show ((5 * (nI i)) + (nI jj) : Int32) = nI (5 * i + jj) from by rw [show (5 : Int32) = nI 5 from rfl, pk_mul, nI_add]) ?_
          refine aM (k := 29) (j := (5 * i + jj)) rfl (by decide) (by show 5 * i + jj < 35; omega) go hw dX4_wordHere_59 ?_
          refine toI (show rA x 29 (5 * i + jj) = wdT (5 * i + jj) from by exact congrFun hT.2.2.2.2.2 _) ?_
          refine lv_aload_n hx hb dX4_wordHere_60 rfl (lv_at hl 0 rfl) ?_
          refine gMi (k := 24) (v := nI z) (by decide) hT.2.1 go hw dX4_wordHere_61 q614 ?_
          refine lv_iload_n hx hb dX4_wordHere_64 rfl (lv_at hl 3 rfl) ?_
          refine lv_iadd hx hb dX4_wordHere_65 ?_
          refine toI (show (nI z) + (nI jj) = nI (z + jj) from by exact nI_add z jj) ?_
          refine lv_aload_n hx hb dX4_wordHere_66 rfl (lv_at hl 0 rfl) ?_
          refine gMi (k := 25) (v := nI (tkE L t z)) (by decide) hT.2.2.1 go hw dX4_wordHere_67 q615 ?_
          refine lv_icmp_ge (tgt := 87) hx hb dX4_wordHere_70 (by decide) (fun h70 => ?_) (fun h70 => ?_)
          · skip
            have h70b : ¬ z + jj < (tkE L t z) := fun q => nI_ge q (by omega) h70
            refine lv_iconst (v := 0) hx hb dX4_wordHere_87 (by decide) ?_
            refine toI (show 0 = (if z + jj < (tkE L t z) then L (z + jj) else 0) from by first | (rw [if_neg h70b]; done) | (rw [if_pos h70b]; exact congrFun hT.2.2.2.2.1 _)) ?_
            refine lv_icmp_ne (tgt := 95) hx hb dX4_wordHere_88 (by decide) (fun h88 => ?_) (fun h88 => ?_)
            · skip
              refine lv_iconst (v := 0) hx hb dX4_wordHere_95 (by decide) ?_
              refine lv_istore_n (lv' := [(2, .int 0), (0, .ref (h 0)), (1, .int (nI i)), (3, .int (nI jj))]) hx hb dX4_wordHere_96 rfl hl (by decide) rfl (fun ls hl => ?_)
              refine lv_iinc (v := nI (jj + 1)) (lv' := [(3, .int (nI (jj + 1))), (2, .int 0), (0, .ref (h 0)), (1, .int (nI i))]) hx hb dX4_wordHere_97 hl (k := 3) rfl (nI_1 _) (by decide) rfl (fun ls hl => ?_)
              refine lv_goto (tgt := 41) hx hb dX4_wordHere_100 (by decide) ?_
              have hl9 : lv_has ls 4 [(0, .ref (h 0)), (1, .int (nI i)), (2, .int (bI (whB wdT L z (tkE L t z) i (jj + 1)))), (3, .int (nI (jj + 1)))] := lv_to (lv_sub (l' := [(0, .ref (h 0)), (1, .int (nI i)), (2, .int 0), (3, .int (nI (jj + 1)))]) hl [2, 3, 1, 0] rfl) (lr (lr (lc (show (0 : Int32) = bI (whB wdT L z (tkE L t z) i (jj + 1)) from by rw [whB_s h47]; first | (rw [decide_eq_true h88]; rfl) | (rw [decide_eq_false h88]; rfl)) (lr rfl))))
              exact ih _ _ _ (by omega) ⟨hw, hl9⟩
            · skip
              refine lv_iconst (v := 1) hx hb dX4_wordHere_91 (by decide) ?_
              refine lv_goto (tgt := 96) hx hb dX4_wordHere_92 (by decide) ?_
              refine lv_istore_n (lv' := [(2, .int 1), (0, .ref (h 0)), (1, .int (nI i)), (3, .int (nI jj))]) hx hb dX4_wordHere_96 rfl hl (by decide) rfl (fun ls hl => ?_)
              refine lv_iinc (v := nI (jj + 1)) (lv' := [(3, .int (nI (jj + 1))), (2, .int 1), (0, .ref (h 0)), (1, .int (nI i))]) hx hb dX4_wordHere_97 hl (k := 3) rfl (nI_1 _) (by decide) rfl (fun ls hl => ?_)
              refine lv_goto (tgt := 41) hx hb dX4_wordHere_100 (by decide) ?_
              have hl9 : lv_has ls 4 [(0, .ref (h 0)), (1, .int (nI i)), (2, .int (bI (whB wdT L z (tkE L t z) i (jj + 1)))), (3, .int (nI (jj + 1)))] := lv_to (lv_sub (l' := [(0, .ref (h 0)), (1, .int (nI i)), (2, .int 1), (3, .int (nI (jj + 1)))]) hl [2, 3, 1, 0] rfl) (lr (lr (lc (show (1 : Int32) = bI (whB wdT L z (tkE L t z) i (jj + 1)) from by rw [whB_s h47]; first | (rw [decide_eq_true h88]; rfl) | (rw [decide_eq_false h88]; rfl)) (lr rfl))))
              exact ih _ _ _ (by omega) ⟨hw, hl9⟩
          · skip
            have h70b : z + jj < (tkE L t z) := by
              rcases Nat.lt_or_ge (z + jj) (tkE L t z) with q | q
              · exact q
              · exact absurd (nI_le q (by omega)) h70
            refine lv_aload_n hx hb dX4_wordHere_73 rfl (lv_at hl 0 rfl) ?_
            refine gM (k := 22) (v := .ref (h 23)) rfl (by decide) rfl go hw dX4_wordHere_74 q612 ?_
            refine lv_aload_n hx hb dX4_wordHere_77 rfl (lv_at hl 0 rfl) ?_
            refine gMi (k := 24) (v := nI z) (by decide) hT.2.1 go hw dX4_wordHere_78 q614 ?_
            refine lv_iload_n hx hb dX4_wordHere_81 rfl (lv_at hl 3 rfl) ?_
            refine lv_iadd hx hb dX4_wordHere_82 ?_
            refine toI (show ((nI z) + (nI jj) : Int32) = nI (z + jj) from by exact nI_add z jj) ?_
            refine aM (k := 22) (j := (z + jj)) rfl (by decide) (by show z + jj < 200; omega) go hw dX4_wordHere_83 ?_
            refine lv_goto (tgt := 88) hx hb dX4_wordHere_84 (by decide) ?_
            refine toI (show rA x 22 (z + jj) = (if z + jj < (tkE L t z) then L (z + jj) else 0) from by first | (rw [if_neg h70b]; done) | (rw [if_pos h70b]; exact congrFun hT.2.2.2.2.1 _)) ?_
            refine lv_icmp_ne (tgt := 95) hx hb dX4_wordHere_88 (by decide) (fun h88 => ?_) (fun h88 => ?_)
            · skip
              refine lv_iconst (v := 0) hx hb dX4_wordHere_95 (by decide) ?_
              refine lv_istore_n (lv' := [(2, .int 0), (0, .ref (h 0)), (1, .int (nI i)), (3, .int (nI jj))]) hx hb dX4_wordHere_96 rfl hl (by decide) rfl (fun ls hl => ?_)
              refine lv_iinc (v := nI (jj + 1)) (lv' := [(3, .int (nI (jj + 1))), (2, .int 0), (0, .ref (h 0)), (1, .int (nI i))]) hx hb dX4_wordHere_97 hl (k := 3) rfl (nI_1 _) (by decide) rfl (fun ls hl => ?_)
              refine lv_goto (tgt := 41) hx hb dX4_wordHere_100 (by decide) ?_
              have hl9 : lv_has ls 4 [(0, .ref (h 0)), (1, .int (nI i)), (2, .int (bI (whB wdT L z (tkE L t z) i (jj + 1)))), (3, .int (nI (jj + 1)))] := lv_to (lv_sub (l' := [(0, .ref (h 0)), (1, .int (nI i)), (2, .int 0), (3, .int (nI (jj + 1)))]) hl [2, 3, 1, 0] rfl) (lr (lr (lc (show (0 : Int32) = bI (whB wdT L z (tkE L t z) i (jj + 1)) from by rw [whB_s h47]; first | (rw [decide_eq_true h88]; rfl) | (rw [decide_eq_false h88]; rfl)) (lr rfl))))
              exact ih _ _ _ (by omega) ⟨hw, hl9⟩
            · skip
              refine lv_iconst (v := 1) hx hb dX4_wordHere_91 (by decide) ?_
              refine lv_goto (tgt := 96) hx hb dX4_wordHere_92 (by decide) ?_
              refine lv_istore_n (lv' := [(2, .int 1), (0, .ref (h 0)), (1, .int (nI i)), (3, .int (nI jj))]) hx hb dX4_wordHere_96 rfl hl (by decide) rfl (fun ls hl => ?_)
              refine lv_iinc (v := nI (jj + 1)) (lv' := [(3, .int (nI (jj + 1))), (2, .int 1), (0, .ref (h 0)), (1, .int (nI i))]) hx hb dX4_wordHere_97 hl (k := 3) rfl (nI_1 _) (by decide) rfl (fun ls hl => ?_)
              refine lv_goto (tgt := 41) hx hb dX4_wordHere_100 (by decide) ?_
              have hl9 : lv_has ls 4 [(0, .ref (h 0)), (1, .int (nI i)), (2, .int (bI (whB wdT L z (tkE L t z) i (jj + 1)))), (3, .int (nI (jj + 1)))] := lv_to (lv_sub (l' := [(0, .ref (h 0)), (1, .int (nI i)), (2, .int 1), (3, .int (nI (jj + 1)))]) hl [2, 3, 1, 0] rfl) (lr (lr (lc (show (1 : Int32) = bI (whB wdT L z (tkE L t z) i (jj + 1)) from by rw [whB_s h47]; first | (rw [decide_eq_true h88]; rfl) | (rw [decide_eq_false h88]; rfl)) (lr rfl))))
              exact ih _ _ _ (by omega) ⟨hw, hl9⟩
    · skip
      have h16b : z < (tkE L t z) := by
        rcases Nat.lt_or_ge z (tkE L t z) with q | q
        · exact q
        · exact absurd (nI_le q (by omega)) h16
      refine lv_aload_n hx hb dX4_wordHere_19 rfl (lv_at hl 0 rfl) ?_
      refine gMi (k := 25) (v := nI (tkE L t z)) (by decide) hT.2.2.1 go hw dX4_wordHere_20 q615 ?_
      refine lv_aload_n hx hb dX4_wordHere_23 rfl (lv_at hl 0 rfl) ?_
      refine gMi (k := 24) (v := nI z) (by decide) hT.2.1 go hw dX4_wordHere_24 q614 ?_
      refine lv_isub hx hb dX4_wordHere_27 ?_
      refine toI (show (nI (tkE L t z)) - (nI z) = nI ((tkE L t z) - z) from by exact nI_sb hE9.1) ?_
      refine lv_bipush (v := 6) hx hb dX4_wordHere_28 (by decide) ?_
      refine lv_icmp_ge (tgt := 37) hx hb dX4_wordHere_30 (by decide) (fun h30 => ?_) (fun h30 => ?_)
      · skip
        have h30b : ¬ (tkE L t z) - z < 6 := fun q => nI_ge (b := 6) q (by decide) h30
        refine lv_iconst (v := 0) hx hb dX4_wordHere_37 (by decide) ?_
        refine toI (show 0 = bI (whB wdT L z (tkE L t z) i 0) from by simp [whB, exB, bI, *]) ?_
        refine lv_istore_n (lv' := [(2, .int (bI (whB wdT L z (tkE L t z) i 0))), (0, .ref (h 0)), (1, .int (nI i))]) hx hb dX4_wordHere_38 rfl hl (by decide) rfl (fun ls hl => ?_)
        refine lv_iconst (v := 0) hx hb dX4_wordHere_39 (by decide) ?_
        refine lv_istore_n (lv' := [(3, .int 0), (2, .int (bI (whB wdT L z (tkE L t z) i 0))), (0, .ref (h 0)), (1, .int (nI i))]) hx hb dX4_wordHere_40 rfl hl (by decide) rfl (fun ls hl => ?_)
        have hl0 : lv_has ls 4 [(0, .ref (h 0)), (1, .int (nI i)), (2, .int (bI (whB wdT L z (tkE L t z) i 0))), (3, .int (nI 0))] := lv_to (lv_sub (l' := [(0, .ref (h 0)), (1, .int (nI i)), (2, .int (bI (whB wdT L z (tkE L t z) i 0))), (3, .int 0)]) hl [2, 3, 1, 0] rfl) (lr (lr (lr (lc (show (0 : Int32) = nI 0 from rfl) rfl))))
        refine loop_up (N := 5) (P := fun jj H locs ls => Wd G A s H locs (rw' G h x) ∧ lv_has ls 4 [(0, .ref (h 0)), (1, .int (nI i)), (2, .int (bI (whB wdT L z (tkE L t z) i jj))), (3, .int (nI jj))]) (X := fun H locs ls => W p l e (Rm 0 0) s m ([.ref (h 0)] : List Value).toArray below meth c H locs 0 0 (MQ below (va_Qi (fun r u => r = kdI L t z ∧ u = x) (PostW G (rw' G h) A) A) ([.ref (h 0)] : List Value).toArray s (Rm 0 0).cells (Rm 0 0).slots A) (F0 m 41 ls [])) ?_ 0 (by omega) H locs ls ⟨hw, hl0⟩
        clear hl0 hl hw
        intro jj hi ih H locs ls hP
        obtain ⟨hw, hl⟩ := hP
        refine lv_iload_n hx hb dX4_wordHere_41 rfl (lv_at hl 3 rfl) ?_
        refine lv_iconst (v := 5) hx hb dX4_wordHere_42 (by decide) ?_
        refine lv_icmp_ge (tgt := 103) hx hb dX4_wordHere_43 (by decide) (fun h43 => ?_) (fun h43 => ?_)
        · skip
          have hE : jj = 5 := lp_end h43 rfl rfl hi (by decide)
          subst hE
          refine lv_iload_n hx hb dX4_wordHere_103 rfl (lv_at hl 2 rfl) ?_
          refine lv_if_eq (tgt := 109) hx hb dX4_wordHere_104 (by decide) (fun h104 => ?_) (fun h104 => ?_)
          · skip
            have h104 := bI_0 h104
            refine lv_iinc (v := nI (i + 1)) (lv' := [(1, .int (nI (i + 1))), (0, .ref (h 0)), (2, .int (bI (whB wdT L z (tkE L t z) i 5))), (3, .int (nI 5))]) hx hb dX4_wordHere_109 hl (k := 1) rfl (nI_1 _) (by decide) rfl (fun ls hl => ?_)
            refine lv_goto (tgt := 2) hx hb dX4_wordHere_112 (by decide) ?_
            have hW5 : whB wdT L z (tkE L t z) i 5 = false := by first | exact h104 | exact whB_m h47 (by omega)
            have hl9 : lv_has ls 4 [(0, .ref (h 0)), (1, .int (nI (i + 1)))] := lv_sub hl [1, 0] rfl
            exact ih0 _ _ _ (by omega) ⟨hw, hl9, (lt_s hE0 ((wh_wd L ht2 hz (by omega)).symm.trans hW5))⟩
          · skip
            have h104 := bI_1 h104
            refine lv_iload_n hx hb dX4_wordHere_107 rfl (lv_at hl 1 rfl) ?_
            refine ret_i (wf := rw' G h) go hw dX4_wordHere_108 ?_
            first | exact absurd (h47.symm.trans h104) (by decide) | exact ⟨((kdI_eq _ _ _).trans (fstI_at (p := wdB L t z) (i := i) ((wh_wd L ht2 hz (by omega)).symm.trans h104) hE0 (by omega))).symm, rfl⟩
        · skip
          have hlt : jj < 5 := lp_in h43 rfl rfl hi (by decide)
          refine lv_iload_n hx hb dX4_wordHere_46 rfl (lv_at hl 2 rfl) ?_
          refine lv_if_eq (tgt := 103) hx hb dX4_wordHere_47 (by decide) (fun h47 => ?_) (fun h47 => ?_)
          · skip
            have h47 := bI_0 h47
            refine lv_iload_n hx hb dX4_wordHere_103 rfl (lv_at hl 2 rfl) ?_
            refine lv_if_eq (tgt := 109) hx hb dX4_wordHere_104 (by decide) (fun h104 => ?_) (fun h104 => ?_)
            · skip
              have h104 := bI_0 h104
              refine lv_iinc (v := nI (i + 1)) (lv' := [(1, .int (nI (i + 1))), (0, .ref (h 0)), (2, .int (bI (whB wdT L z (tkE L t z) i jj))), (3, .int (nI jj))]) hx hb dX4_wordHere_109 hl (k := 1) rfl (nI_1 _) (by decide) rfl (fun ls hl => ?_)
              refine lv_goto (tgt := 2) hx hb dX4_wordHere_112 (by decide) ?_
              have hW5 : whB wdT L z (tkE L t z) i 5 = false := by first | exact h104 | exact whB_m h47 (by omega)
              have hl9 : lv_has ls 4 [(0, .ref (h 0)), (1, .int (nI (i + 1)))] := lv_sub hl [1, 0] rfl
              exact ih0 _ _ _ (by omega) ⟨hw, hl9, (lt_s hE0 ((wh_wd L ht2 hz (by omega)).symm.trans hW5))⟩
            · skip
              have h104 := bI_1 h104
              refine lv_iload_n hx hb dX4_wordHere_107 rfl (lv_at hl 1 rfl) ?_
              refine ret_i (wf := rw' G h) go hw dX4_wordHere_108 ?_
              first | exact absurd (h47.symm.trans h104) (by decide) | exact ⟨((kdI_eq _ _ _).trans (fstI_at (p := wdB L t z) (i := i) ((wh_wd L ht2 hz (by omega)).symm.trans h104) hE0 (by omega))).symm, rfl⟩
          · skip
            have h47 := bI_1 h47
            refine lv_aload_n hx hb dX4_wordHere_50 rfl (lv_at hl 0 rfl) ?_
            refine gM (k := 29) (v := .ref (h 30)) rfl (by decide) rfl go hw dX4_wordHere_51 q619 ?_
            refine lv_iconst (v := 5) hx hb dX4_wordHere_54 (by decide) ?_
            refine lv_iload_n hx hb dX4_wordHere_55 rfl (lv_at hl 1 rfl) ?_
            refine lv_imul hx hb dX4_wordHere_56 ?_
            refine lv_iload_n hx hb dX4_wordHere_57 rfl (lv_at hl 3 rfl) ?_
            refine lv_iadd hx hb dX4_wordHere_58 ?_
            refine toI (show ((5 * (nI i)) + (nI jj) : Int32) = nI (5 * i + jj) from by rw [show (5 : Int32) = nI 5 from rfl, pk_mul, nI_add]) ?_
            refine aM (k := 29) (j := (5 * i + jj)) rfl (by decide) (by show 5 * i + jj < 35; omega) go hw dX4_wordHere_59 ?_
            refine toI (show rA x 29 (5 * i + jj) = wdT (5 * i + jj) from by exact congrFun hT.2.2.2.2.2 _) ?_
            refine lv_aload_n hx hb dX4_wordHere_60 rfl (lv_at hl 0 rfl) ?_
            refine gMi (k := 24) (v := nI z) (by decide) hT.2.1 go hw dX4_wordHere_61 q614 ?_
            refine lv_iload_n hx hb dX4_wordHere_64 rfl (lv_at hl 3 rfl) ?_
            refine lv_iadd hx hb dX4_wordHere_65 ?_
            refine toI (show (nI z) + (nI jj) = nI (z + jj) from by exact nI_add z jj) ?_
            refine lv_aload_n hx hb dX4_wordHere_66 rfl (lv_at hl 0 rfl) ?_
            refine gMi (k := 25) (v := nI (tkE L t z)) (by decide) hT.2.2.1 go hw dX4_wordHere_67 q615 ?_
            refine lv_icmp_ge (tgt := 87) hx hb dX4_wordHere_70 (by decide) (fun h70 => ?_) (fun h70 => ?_)
            · skip
              have h70b : ¬ z + jj < (tkE L t z) := fun q => nI_ge q (by omega) h70
              refine lv_iconst (v := 0) hx hb dX4_wordHere_87 (by decide) ?_
              refine toI (show 0 = (if z + jj < (tkE L t z) then L (z + jj) else 0) from by first | (rw [if_neg h70b]; done) | (rw [if_pos h70b]; exact congrFun hT.2.2.2.2.1 _)) ?_
              refine lv_icmp_ne (tgt := 95) hx hb dX4_wordHere_88 (by decide) (fun h88 => ?_) (fun h88 => ?_)
              · skip
                refine lv_iconst (v := 0) hx hb dX4_wordHere_95 (by decide) ?_
                refine lv_istore_n (lv' := [(2, .int 0), (0, .ref (h 0)), (1, .int (nI i)), (3, .int (nI jj))]) hx hb dX4_wordHere_96 rfl hl (by decide) rfl (fun ls hl => ?_)
                refine lv_iinc (v := nI (jj + 1)) (lv' := [(3, .int (nI (jj + 1))), (2, .int 0), (0, .ref (h 0)), (1, .int (nI i))]) hx hb dX4_wordHere_97 hl (k := 3) rfl (nI_1 _) (by decide) rfl (fun ls hl => ?_)
                refine lv_goto (tgt := 41) hx hb dX4_wordHere_100 (by decide) ?_
                have hl9 : lv_has ls 4 [(0, .ref (h 0)), (1, .int (nI i)), (2, .int (bI (whB wdT L z (tkE L t z) i (jj + 1)))), (3, .int (nI (jj + 1)))] := lv_to (lv_sub (l' := [(0, .ref (h 0)), (1, .int (nI i)), (2, .int 0), (3, .int (nI (jj + 1)))]) hl [2, 3, 1, 0] rfl) (lr (lr (lc (show (0 : Int32) = bI (whB wdT L z (tkE L t z) i (jj + 1)) from by rw [whB_s h47]; first | (rw [decide_eq_true h88]; rfl) | (rw [decide_eq_false h88]; rfl)) (lr rfl))))
                exact ih _ _ _ (by omega) ⟨hw, hl9⟩
              · skip
                refine lv_iconst (v := 1) hx hb dX4_wordHere_91 (by decide) ?_
                refine lv_goto (tgt := 96) hx hb dX4_wordHere_92 (by decide) ?_
                refine lv_istore_n (lv' := [(2, .int 1), (0, .ref (h 0)), (1, .int (nI i)), (3, .int (nI jj))]) hx hb dX4_wordHere_96 rfl hl (by decide) rfl (fun ls hl => ?_)
                refine lv_iinc (v := nI (jj + 1)) (lv' := [(3, .int (nI (jj + 1))), (2, .int 1), (0, .ref (h 0)), (1, .int (nI i))]) hx hb dX4_wordHere_97 hl (k := 3) rfl (nI_1 _) (by decide) rfl (fun ls hl => ?_)
                refine lv_goto (tgt := 41) hx hb dX4_wordHere_100 (by decide) ?_
                have hl9 : lv_has ls 4 [(0, .ref (h 0)), (1, .int (nI i)), (2, .int (bI (whB wdT L z (tkE L t z) i (jj + 1)))), (3, .int (nI (jj + 1)))] := lv_to (lv_sub (l' := [(0, .ref (h 0)), (1, .int (nI i)), (2, .int 1), (3, .int (nI (jj + 1)))]) hl [2, 3, 1, 0] rfl) (lr (lr (lc (show (1 : Int32) = bI (whB wdT L z (tkE L t z) i (jj + 1)) from by rw [whB_s h47]; first | (rw [decide_eq_true h88]; rfl) | (rw [decide_eq_false h88]; rfl)) (lr rfl))))
                exact ih _ _ _ (by omega) ⟨hw, hl9⟩
            · skip
              have h70b : z + jj < (tkE L t z) := by
                rcases Nat.lt_or_ge (z + jj) (tkE L t z) with q | q
                · exact q
                · exact absurd (nI_le q (by omega)) h70
              refine lv_aload_n hx hb dX4_wordHere_73 rfl (lv_at hl 0 rfl) ?_
              refine gM (k := 22) (v := .ref (h 23)) rfl (by decide) rfl go hw dX4_wordHere_74 q612 ?_
              refine lv_aload_n hx hb dX4_wordHere_77 rfl (lv_at hl 0 rfl) ?_
              refine gMi (k := 24) (v := nI z) (by decide) hT.2.1 go hw dX4_wordHere_78 q614 ?_
              refine lv_iload_n hx hb dX4_wordHere_81 rfl (lv_at hl 3 rfl) ?_
              refine lv_iadd hx hb dX4_wordHere_82 ?_
              refine toI (show ((nI z) + (nI jj) : Int32) = nI (z + jj) from by exact nI_add z jj) ?_
              refine aM (k := 22) (j := (z + jj)) rfl (by decide) (by show z + jj < 200; omega) go hw dX4_wordHere_83 ?_
              refine lv_goto (tgt := 88) hx hb dX4_wordHere_84 (by decide) ?_
              refine toI (show rA x 22 (z + jj) = (if z + jj < (tkE L t z) then L (z + jj) else 0) from by first | (rw [if_neg h70b]; done) | (rw [if_pos h70b]; exact congrFun hT.2.2.2.2.1 _)) ?_
              refine lv_icmp_ne (tgt := 95) hx hb dX4_wordHere_88 (by decide) (fun h88 => ?_) (fun h88 => ?_)
              · skip
                refine lv_iconst (v := 0) hx hb dX4_wordHere_95 (by decide) ?_
                refine lv_istore_n (lv' := [(2, .int 0), (0, .ref (h 0)), (1, .int (nI i)), (3, .int (nI jj))]) hx hb dX4_wordHere_96 rfl hl (by decide) rfl (fun ls hl => ?_)
                refine lv_iinc (v := nI (jj + 1)) (lv' := [(3, .int (nI (jj + 1))), (2, .int 0), (0, .ref (h 0)), (1, .int (nI i))]) hx hb dX4_wordHere_97 hl (k := 3) rfl (nI_1 _) (by decide) rfl (fun ls hl => ?_)
                refine lv_goto (tgt := 41) hx hb dX4_wordHere_100 (by decide) ?_
                have hl9 : lv_has ls 4 [(0, .ref (h 0)), (1, .int (nI i)), (2, .int (bI (whB wdT L z (tkE L t z) i (jj + 1)))), (3, .int (nI (jj + 1)))] := lv_to (lv_sub (l' := [(0, .ref (h 0)), (1, .int (nI i)), (2, .int 0), (3, .int (nI (jj + 1)))]) hl [2, 3, 1, 0] rfl) (lr (lr (lc (show (0 : Int32) = bI (whB wdT L z (tkE L t z) i (jj + 1)) from by rw [whB_s h47]; first | (rw [decide_eq_true h88]; rfl) | (rw [decide_eq_false h88]; rfl)) (lr rfl))))
                exact ih _ _ _ (by omega) ⟨hw, hl9⟩
              · skip
                refine lv_iconst (v := 1) hx hb dX4_wordHere_91 (by decide) ?_
                refine lv_goto (tgt := 96) hx hb dX4_wordHere_92 (by decide) ?_
                refine lv_istore_n (lv' := [(2, .int 1), (0, .ref (h 0)), (1, .int (nI i)), (3, .int (nI jj))]) hx hb dX4_wordHere_96 rfl hl (by decide) rfl (fun ls hl => ?_)
                refine lv_iinc (v := nI (jj + 1)) (lv' := [(3, .int (nI (jj + 1))), (2, .int 1), (0, .ref (h 0)), (1, .int (nI i))]) hx hb dX4_wordHere_97 hl (k := 3) rfl (nI_1 _) (by decide) rfl (fun ls hl => ?_)
                refine lv_goto (tgt := 41) hx hb dX4_wordHere_100 (by decide) ?_
                have hl9 : lv_has ls 4 [(0, .ref (h 0)), (1, .int (nI i)), (2, .int (bI (whB wdT L z (tkE L t z) i (jj + 1)))), (3, .int (nI (jj + 1)))] := lv_to (lv_sub (l' := [(0, .ref (h 0)), (1, .int (nI i)), (2, .int 1), (3, .int (nI (jj + 1)))]) hl [2, 3, 1, 0] rfl) (lr (lr (lc (show (1 : Int32) = bI (whB wdT L z (tkE L t z) i (jj + 1)) from by rw [whB_s h47]; first | (rw [decide_eq_true h88]; rfl) | (rw [decide_eq_false h88]; rfl)) (lr rfl))))
                exact ih _ _ _ (by omega) ⟨hw, hl9⟩
      · skip
        have h30b : (tkE L t z) - z < 6 := by
          rcases Nat.lt_or_ge ((tkE L t z) - z) 6 with q | q
          · exact q
          · exact absurd (nI_le (a := 6) q (by omega)) h30
        refine lv_iconst (v := 1) hx hb dX4_wordHere_33 (by decide) ?_
        refine lv_goto (tgt := 38) hx hb dX4_wordHere_34 (by decide) ?_
        refine toI (show 1 = bI (whB wdT L z (tkE L t z) i 0) from by simp [whB, exB, bI, *]) ?_
        refine lv_istore_n (lv' := [(2, .int (bI (whB wdT L z (tkE L t z) i 0))), (0, .ref (h 0)), (1, .int (nI i))]) hx hb dX4_wordHere_38 rfl hl (by decide) rfl (fun ls hl => ?_)
        refine lv_iconst (v := 0) hx hb dX4_wordHere_39 (by decide) ?_
        refine lv_istore_n (lv' := [(3, .int 0), (2, .int (bI (whB wdT L z (tkE L t z) i 0))), (0, .ref (h 0)), (1, .int (nI i))]) hx hb dX4_wordHere_40 rfl hl (by decide) rfl (fun ls hl => ?_)
        have hl0 : lv_has ls 4 [(0, .ref (h 0)), (1, .int (nI i)), (2, .int (bI (whB wdT L z (tkE L t z) i 0))), (3, .int (nI 0))] := lv_to (lv_sub (l' := [(0, .ref (h 0)), (1, .int (nI i)), (2, .int (bI (whB wdT L z (tkE L t z) i 0))), (3, .int 0)]) hl [2, 3, 1, 0] rfl) (lr (lr (lr (lc (show (0 : Int32) = nI 0 from rfl) rfl))))
        refine loop_up (N := 5) (P := fun jj H locs ls => Wd G A s H locs (rw' G h x) ∧ lv_has ls 4 [(0, .ref (h 0)), (1, .int (nI i)), (2, .int (bI (whB wdT L z (tkE L t z) i jj))), (3, .int (nI jj))]) (X := fun H locs ls => W p l e (Rm 0 0) s m ([.ref (h 0)] : List Value).toArray below meth c H locs 0 0 (MQ below (va_Qi (fun r u => r = kdI L t z ∧ u = x) (PostW G (rw' G h) A) A) ([.ref (h 0)] : List Value).toArray s (Rm 0 0).cells (Rm 0 0).slots A) (F0 m 41 ls [])) ?_ 0 (by omega) H locs ls ⟨hw, hl0⟩
        clear hl0 hl hw
        intro jj hi ih H locs ls hP
        obtain ⟨hw, hl⟩ := hP
        refine lv_iload_n hx hb dX4_wordHere_41 rfl (lv_at hl 3 rfl) ?_
        refine lv_iconst (v := 5) hx hb dX4_wordHere_42 (by decide) ?_
        refine lv_icmp_ge (tgt := 103) hx hb dX4_wordHere_43 (by decide) (fun h43 => ?_) (fun h43 => ?_)
        · skip
          have hE : jj = 5 := lp_end h43 rfl rfl hi (by decide)
          subst hE
          refine lv_iload_n hx hb dX4_wordHere_103 rfl (lv_at hl 2 rfl) ?_
          refine lv_if_eq (tgt := 109) hx hb dX4_wordHere_104 (by decide) (fun h104 => ?_) (fun h104 => ?_)
          · skip
            have h104 := bI_0 h104
            refine lv_iinc (v := nI (i + 1)) (lv' := [(1, .int (nI (i + 1))), (0, .ref (h 0)), (2, .int (bI (whB wdT L z (tkE L t z) i 5))), (3, .int (nI 5))]) hx hb dX4_wordHere_109 hl (k := 1) rfl (nI_1 _) (by decide) rfl (fun ls hl => ?_)
            refine lv_goto (tgt := 2) hx hb dX4_wordHere_112 (by decide) ?_
            have hW5 : whB wdT L z (tkE L t z) i 5 = false := by first | exact h104 | exact whB_m h47 (by omega)
            have hl9 : lv_has ls 4 [(0, .ref (h 0)), (1, .int (nI (i + 1)))] := lv_sub hl [1, 0] rfl
            exact ih0 _ _ _ (by omega) ⟨hw, hl9, (lt_s hE0 ((wh_wd L ht2 hz (by omega)).symm.trans hW5))⟩
          · skip
            have h104 := bI_1 h104
            refine lv_iload_n hx hb dX4_wordHere_107 rfl (lv_at hl 1 rfl) ?_
            refine ret_i (wf := rw' G h) go hw dX4_wordHere_108 ?_
            first | exact absurd (h47.symm.trans h104) (by decide) | exact ⟨((kdI_eq _ _ _).trans (fstI_at (p := wdB L t z) (i := i) ((wh_wd L ht2 hz (by omega)).symm.trans h104) hE0 (by omega))).symm, rfl⟩
        · skip
          have hlt : jj < 5 := lp_in h43 rfl rfl hi (by decide)
          refine lv_iload_n hx hb dX4_wordHere_46 rfl (lv_at hl 2 rfl) ?_
          refine lv_if_eq (tgt := 103) hx hb dX4_wordHere_47 (by decide) (fun h47 => ?_) (fun h47 => ?_)
          · skip
            have h47 := bI_0 h47
            refine lv_iload_n hx hb dX4_wordHere_103 rfl (lv_at hl 2 rfl) ?_
            refine lv_if_eq (tgt := 109) hx hb dX4_wordHere_104 (by decide) (fun h104 => ?_) (fun h104 => ?_)
            · skip
              have h104 := bI_0 h104
              refine lv_iinc (v := nI (i + 1)) (lv' := [(1, .int (nI (i + 1))), (0, .ref (h 0)), (2, .int (bI (whB wdT L z (tkE L t z) i jj))), (3, .int (nI jj))]) hx hb dX4_wordHere_109 hl (k := 1) rfl (nI_1 _) (by decide) rfl (fun ls hl => ?_)
              refine lv_goto (tgt := 2) hx hb dX4_wordHere_112 (by decide) ?_
              have hW5 : whB wdT L z (tkE L t z) i 5 = false := by first | exact h104 | exact whB_m h47 (by omega)
              have hl9 : lv_has ls 4 [(0, .ref (h 0)), (1, .int (nI (i + 1)))] := lv_sub hl [1, 0] rfl
              exact ih0 _ _ _ (by omega) ⟨hw, hl9, (lt_s hE0 ((wh_wd L ht2 hz (by omega)).symm.trans hW5))⟩
            · skip
              have h104 := bI_1 h104
              refine lv_iload_n hx hb dX4_wordHere_107 rfl (lv_at hl 1 rfl) ?_
              refine ret_i (wf := rw' G h) go hw dX4_wordHere_108 ?_
              first | exact absurd (h47.symm.trans h104) (by decide) | exact ⟨((kdI_eq _ _ _).trans (fstI_at (p := wdB L t z) (i := i) ((wh_wd L ht2 hz (by omega)).symm.trans h104) hE0 (by omega))).symm, rfl⟩
          · skip
            have h47 := bI_1 h47
            refine lv_aload_n hx hb dX4_wordHere_50 rfl (lv_at hl 0 rfl) ?_
            refine gM (k := 29) (v := .ref (h 30)) rfl (by decide) rfl go hw dX4_wordHere_51 q619 ?_
            refine lv_iconst (v := 5) hx hb dX4_wordHere_54 (by decide) ?_
            refine lv_iload_n hx hb dX4_wordHere_55 rfl (lv_at hl 1 rfl) ?_
            refine lv_imul hx hb dX4_wordHere_56 ?_
            refine lv_iload_n hx hb dX4_wordHere_57 rfl (lv_at hl 3 rfl) ?_
            refine lv_iadd hx hb dX4_wordHere_58 ?_
            refine toI (show ((5 * (nI i)) + (nI jj) : Int32) = nI (5 * i + jj) from by rw [show (5 : Int32) = nI 5 from rfl, pk_mul, nI_add]) ?_
            refine aM (k := 29) (j := (5 * i + jj)) rfl (by decide) (by show 5 * i + jj < 35; omega) go hw dX4_wordHere_59 ?_
            refine toI (show rA x 29 (5 * i + jj) = wdT (5 * i + jj) from by exact congrFun hT.2.2.2.2.2 _) ?_
            refine lv_aload_n hx hb dX4_wordHere_60 rfl (lv_at hl 0 rfl) ?_
            refine gMi (k := 24) (v := nI z) (by decide) hT.2.1 go hw dX4_wordHere_61 q614 ?_
            refine lv_iload_n hx hb dX4_wordHere_64 rfl (lv_at hl 3 rfl) ?_
            refine lv_iadd hx hb dX4_wordHere_65 ?_
            refine toI (show (nI z) + (nI jj) = nI (z + jj) from by exact nI_add z jj) ?_
            refine lv_aload_n hx hb dX4_wordHere_66 rfl (lv_at hl 0 rfl) ?_
            refine gMi (k := 25) (v := nI (tkE L t z)) (by decide) hT.2.2.1 go hw dX4_wordHere_67 q615 ?_
            refine lv_icmp_ge (tgt := 87) hx hb dX4_wordHere_70 (by decide) (fun h70 => ?_) (fun h70 => ?_)
            · skip
              have h70b : ¬ z + jj < (tkE L t z) := fun q => nI_ge q (by omega) h70
              refine lv_iconst (v := 0) hx hb dX4_wordHere_87 (by decide) ?_
              refine toI (show 0 = (if z + jj < (tkE L t z) then L (z + jj) else 0) from by first | (rw [if_neg h70b]; done) | (rw [if_pos h70b]; exact congrFun hT.2.2.2.2.1 _)) ?_
              refine lv_icmp_ne (tgt := 95) hx hb dX4_wordHere_88 (by decide) (fun h88 => ?_) (fun h88 => ?_)
              · skip
                refine lv_iconst (v := 0) hx hb dX4_wordHere_95 (by decide) ?_
                refine lv_istore_n (lv' := [(2, .int 0), (0, .ref (h 0)), (1, .int (nI i)), (3, .int (nI jj))]) hx hb dX4_wordHere_96 rfl hl (by decide) rfl (fun ls hl => ?_)
                refine lv_iinc (v := nI (jj + 1)) (lv' := [(3, .int (nI (jj + 1))), (2, .int 0), (0, .ref (h 0)), (1, .int (nI i))]) hx hb dX4_wordHere_97 hl (k := 3) rfl (nI_1 _) (by decide) rfl (fun ls hl => ?_)
                refine lv_goto (tgt := 41) hx hb dX4_wordHere_100 (by decide) ?_
                have hl9 : lv_has ls 4 [(0, .ref (h 0)), (1, .int (nI i)), (2, .int (bI (whB wdT L z (tkE L t z) i (jj + 1)))), (3, .int (nI (jj + 1)))] := lv_to (lv_sub (l' := [(0, .ref (h 0)), (1, .int (nI i)), (2, .int 0), (3, .int (nI (jj + 1)))]) hl [2, 3, 1, 0] rfl) (lr (lr (lc (show (0 : Int32) = bI (whB wdT L z (tkE L t z) i (jj + 1)) from by rw [whB_s h47]; first | (rw [decide_eq_true h88]; rfl) | (rw [decide_eq_false h88]; rfl)) (lr rfl))))
                exact ih _ _ _ (by omega) ⟨hw, hl9⟩
              · skip
                refine lv_iconst (v := 1) hx hb dX4_wordHere_91 (by decide) ?_
                refine lv_goto (tgt := 96) hx hb dX4_wordHere_92 (by decide) ?_
                refine lv_istore_n (lv' := [(2, .int 1), (0, .ref (h 0)), (1, .int (nI i)), (3, .int (nI jj))]) hx hb dX4_wordHere_96 rfl hl (by decide) rfl (fun ls hl => ?_)
                refine lv_iinc (v := nI (jj + 1)) (lv' := [(3, .int (nI (jj + 1))), (2, .int 1), (0, .ref (h 0)), (1, .int (nI i))]) hx hb dX4_wordHere_97 hl (k := 3) rfl (nI_1 _) (by decide) rfl (fun ls hl => ?_)
                refine lv_goto (tgt := 41) hx hb dX4_wordHere_100 (by decide) ?_
                have hl9 : lv_has ls 4 [(0, .ref (h 0)), (1, .int (nI i)), (2, .int (bI (whB wdT L z (tkE L t z) i (jj + 1)))), (3, .int (nI (jj + 1)))] := lv_to (lv_sub (l' := [(0, .ref (h 0)), (1, .int (nI i)), (2, .int 1), (3, .int (nI (jj + 1)))]) hl [2, 3, 1, 0] rfl) (lr (lr (lc (show (1 : Int32) = bI (whB wdT L z (tkE L t z) i (jj + 1)) from by rw [whB_s h47]; first | (rw [decide_eq_true h88]; rfl) | (rw [decide_eq_false h88]; rfl)) (lr rfl))))
                exact ih _ _ _ (by omega) ⟨hw, hl9⟩
            · skip
              have h70b : z + jj < (tkE L t z) := by
                rcases Nat.lt_or_ge (z + jj) (tkE L t z) with q | q
                · exact q
                · exact absurd (nI_le q (by omega)) h70
              refine lv_aload_n hx hb dX4_wordHere_73 rfl (lv_at hl 0 rfl) ?_
              refine gM (k := 22) (v := .ref (h 23)) rfl (by decide) rfl go hw dX4_wordHere_74 q612 ?_
              refine lv_aload_n hx hb dX4_wordHere_77 rfl (lv_at hl 0 rfl) ?_
              refine gMi (k := 24) (v := nI z) (by decide) hT.2.1 go hw dX4_wordHere_78 q614 ?_
              refine lv_iload_n hx hb dX4_wordHere_81 rfl (lv_at hl 3 rfl) ?_
              refine lv_iadd hx hb dX4_wordHere_82 ?_
              refine toI (show ((nI z) + (nI jj) : Int32) = nI (z + jj) from by exact nI_add z jj) ?_
              refine aM (k := 22) (j := (z + jj)) rfl (by decide) (by show z + jj < 200; omega) go hw dX4_wordHere_83 ?_
              refine lv_goto (tgt := 88) hx hb dX4_wordHere_84 (by decide) ?_
              refine toI (show rA x 22 (z + jj) = (if z + jj < (tkE L t z) then L (z + jj) else 0) from by first | (rw [if_neg h70b]; done) | (rw [if_pos h70b]; exact congrFun hT.2.2.2.2.1 _)) ?_
              refine lv_icmp_ne (tgt := 95) hx hb dX4_wordHere_88 (by decide) (fun h88 => ?_) (fun h88 => ?_)
              · skip
                refine lv_iconst (v := 0) hx hb dX4_wordHere_95 (by decide) ?_
                refine lv_istore_n (lv' := [(2, .int 0), (0, .ref (h 0)), (1, .int (nI i)), (3, .int (nI jj))]) hx hb dX4_wordHere_96 rfl hl (by decide) rfl (fun ls hl => ?_)
                refine lv_iinc (v := nI (jj + 1)) (lv' := [(3, .int (nI (jj + 1))), (2, .int 0), (0, .ref (h 0)), (1, .int (nI i))]) hx hb dX4_wordHere_97 hl (k := 3) rfl (nI_1 _) (by decide) rfl (fun ls hl => ?_)
                refine lv_goto (tgt := 41) hx hb dX4_wordHere_100 (by decide) ?_
                have hl9 : lv_has ls 4 [(0, .ref (h 0)), (1, .int (nI i)), (2, .int (bI (whB wdT L z (tkE L t z) i (jj + 1)))), (3, .int (nI (jj + 1)))] := lv_to (lv_sub (l' := [(0, .ref (h 0)), (1, .int (nI i)), (2, .int 0), (3, .int (nI (jj + 1)))]) hl [2, 3, 1, 0] rfl) (lr (lr (lc (show (0 : Int32) = bI (whB wdT L z (tkE L t z) i (jj + 1)) from by rw [whB_s h47]; first | (rw [decide_eq_true h88]; rfl) | (rw [decide_eq_false h88]; rfl)) (lr rfl))))
                exact ih _ _ _ (by omega) ⟨hw, hl9⟩
              · skip
                refine lv_iconst (v := 1) hx hb dX4_wordHere_91 (by decide) ?_
                refine lv_goto (tgt := 96) hx hb dX4_wordHere_92 (by decide) ?_
                refine lv_istore_n (lv' := [(2, .int 1), (0, .ref (h 0)), (1, .int (nI i)), (3, .int (nI jj))]) hx hb dX4_wordHere_96 rfl hl (by decide) rfl (fun ls hl => ?_)
                refine lv_iinc (v := nI (jj + 1)) (lv' := [(3, .int (nI (jj + 1))), (2, .int 1), (0, .ref (h 0)), (1, .int (nI i))]) hx hb dX4_wordHere_97 hl (k := 3) rfl (nI_1 _) (by decide) rfl (fun ls hl => ?_)
                refine lv_goto (tgt := 41) hx hb dX4_wordHere_100 (by decide) ?_
                have hl9 : lv_has ls 4 [(0, .ref (h 0)), (1, .int (nI i)), (2, .int (bI (whB wdT L z (tkE L t z) i (jj + 1)))), (3, .int (nI (jj + 1)))] := lv_to (lv_sub (l' := [(0, .ref (h 0)), (1, .int (nI i)), (2, .int 1), (3, .int (nI (jj + 1)))]) hl [2, 3, 1, 0] rfl) (lr (lr (lc (show (1 : Int32) = bI (whB wdT L z (tkE L t z) i (jj + 1)) from by rw [whB_s h47]; first | (rw [decide_eq_true h88]; rfl) | (rw [decide_eq_false h88]; rfl)) (lr rfl))))
                exact ih _ _ _ (by omega) ⟨hw, hl9⟩

set_option maxHeartbeats 4000000 in
set_option maxRecDepth 100000 in
theorem kX4_reads (l : Launch) (G : Cx) (h : Nat → Nat) (x : Rg) (L : Nat → Int32) (t : Nat) (ht2 : t ≤ 200) (z : Nat) (hz : z ≤ t) (b : Bool) (hT : Tk x L t z b) (k : Nat) (hk3 : k < 3) (lo hv : Int32) (hlo : ¬ lo ≤ -1) : Ci l G yX4_reads cX4_reads 6 .boolean (Rm 3 67) (rw' G h) [.ref (h 0), .int (nI k), .int lo, .int hv] x (fun r u => r = bI (rdN x L t z k lo hv).1 ∧ u = (rdN x L t z k lo hv).2) := by
  refine Ci.mk (by decide) (Nat.le_of_ble_eq_true rfl) ?_
  intro p e s m below meth c A ls go hw hl
  generalize s.heap = H at hw ⊢
  generalize ([] : List Loc) = locs at hw ⊢
  have hx := go.1
  have hb := go.2.1
  have hl : lv_has ls 6 [(0, .ref (h 0)), (1, .int (nI k)), (2, .int lo), (3, .int hv)] := hl
  have hE9 := tkE_b (L := L) hz
  refine lv_aload_n hx hb dX4_reads_0 rfl (lv_at hl 0 rfl) ?_
  refine gMi (k := 24) (v := nI z) (by decide) hT.2.1 go hw dX4_reads_1 q614 ?_
  refine lv_aload_n hx hb dX4_reads_4 rfl (lv_at hl 0 rfl) ?_
  refine gMi (k := 23) (v := nI t) (by decide) hT.1 go hw dX4_reads_5 q613 ?_
  refine lv_icmp_eq (tgt := 39) hx hb dX4_reads_8 (by decide) (fun h8 => ?_) (fun h8 => ?_)
  · skip
    have h8b : ¬ z < t := fun q => by
      have e := (nI_eq (by omega) (by omega)).mp h8
      omega
    refine lv_iconst (v := 0) hx hb dX4_reads_39 (by decide) ?_
    refine ret_z (wf := rw' G h) go hw dX4_reads_40 rfl ?_
    have hN : nuV L t z = -1 := by
      rw [nuV, if_neg]
      rintro ⟨q1, q2⟩
      first
      | exact h36 q2
      | (rw [ltA, if_neg h8b] at q1; exact absurd q1 (by decide))
      | (rw [ltA, if_pos h8b] at q1; exact absurd (h23.symm.trans q1) (by decide))
    have hO := okN_no (hi := hv) hN hlo
    exact ⟨by rw [rdN, if_neg (by rw [hO]; decide)]; rfl, by rw [rdN, if_neg (by rw [hO]; decide)]⟩
  · skip
    have h8b : z < t := by
      rcases Nat.lt_or_ge z t with q | q
      · exact q
      · exact absurd (by rw [show z = t by omega]) h8
    refine lv_aload_n hx hb dX4_reads_11 rfl (lv_at hl 0 rfl) ?_
    refine gM (k := 22) (v := .ref (h 23)) rfl (by decide) rfl go hw dX4_reads_12 q612 ?_
    refine lv_aload_n hx hb dX4_reads_15 rfl (lv_at hl 0 rfl) ?_
    refine gMi (k := 24) (v := nI z) (by decide) hT.2.1 go hw dX4_reads_16 q614 ?_
    refine aM (k := 22) (j := z) rfl (by decide) (by show z < 200; omega) go hw dX4_reads_19 ?_
    refine toI (show rA x 22 z = L z from by exact congrFun hT.2.2.2.2.1 _) ?_
    refine cal_S (kX4_isDigit l G (L z)) go hw.2.2.1 hw.2.2.2.1 dX4_reads_20 (And.intro q711 (And.intro q4 q713)) q712 kyX4_isDigit ⟨rfl, rfl⟩ ⟨Nat.le_of_ble_eq_true rfl, Nat.le_of_ble_eq_true rfl⟩ hl.1 rfl (Nat.le_of_ble_eq_true rfl) ⟨Nat.le_of_ble_eq_true rfl, Nat.le_of_ble_eq_true rfl⟩ ?_
    refine lv_if_eq (tgt := 39) hx hb dX4_reads_23 (by decide) (fun h23 => ?_) (fun h23 => ?_)
    · skip
      have h23 := bI_0 h23
      refine lv_iconst (v := 0) hx hb dX4_reads_39 (by decide) ?_
      refine ret_z (wf := rw' G h) go hw dX4_reads_40 rfl ?_
      have hN : nuV L t z = -1 := by
        rw [nuV, if_neg]
        rintro ⟨q1, q2⟩
        first
        | exact h36 q2
        | (rw [ltA, if_neg h8b] at q1; exact absurd q1 (by decide))
        | (rw [ltA, if_pos h8b] at q1; exact absurd (h23.symm.trans q1) (by decide))
      have hO := okN_no (hi := hv) hN hlo
      exact ⟨by rw [rdN, if_neg (by rw [hO]; decide)]; rfl, by rw [rdN, if_neg (by rw [hO]; decide)]⟩
    · skip
      have h23 := bI_1 h23
      refine lv_aload_n hx hb dX4_reads_26 rfl (lv_at hl 0 rfl) ?_
      refine gMi (k := 25) (v := nI (tkE L t z)) (by decide) hT.2.2.1 go hw dX4_reads_27 q615 ?_
      refine lv_aload_n hx hb dX4_reads_30 rfl (lv_at hl 0 rfl) ?_
      refine gMi (k := 24) (v := nI z) (by decide) hT.2.1 go hw dX4_reads_31 q614 ?_
      refine lv_isub hx hb dX4_reads_34 ?_
      refine lv_iconst (v := 4) hx hb dX4_reads_35 (by decide) ?_
      refine lv_icmp_le (tgt := 41) hx hb dX4_reads_36 (by decide) (fun h36 => ?_) (fun h36 => ?_)
      · skip
        refine lv_iconst (v := 0) hx hb dX4_reads_41 (by decide) ?_
        refine lv_istore (lv' := [(4, .int 0), (0, .ref (h 0)), (1, .int (nI k)), (2, .int lo), (3, .int hv)]) hx hb dX4_reads_42 hl (by decide) rfl (fun ls hl => ?_)
        refine lv_aload_n hx hb dX4_reads_44 rfl (lv_at hl 1 rfl) ?_
        refine gMi (k := 24) (v := nI z) (by decide) hT.2.1 go hw dX4_reads_45 q614 ?_
        refine lv_istore (lv' := [(5, .int (nI z)), (4, .int 0), (0, .ref (h 0)), (1, .int (nI k)), (2, .int lo), (3, .int hv)]) hx hb dX4_reads_48 hl (by decide) rfl (fun ls hl => ?_)
        have hl0 : lv_has ls 6 [(0, .ref (h 0)), (1, .int (nI k)), (2, .int lo), (3, .int hv), (4, .int (nuA (ltA L t) z (z - z))), (5, .int (nI z))] := lv_to (lv_sub (l' := [(0, .ref (h 0)), (1, .int (nI k)), (2, .int lo), (3, .int hv), (4, .int 0), (5, .int (nI z))]) hl [2, 3, 4, 5, 1, 0] rfl) (lr (lr (lr (lr (lc (show (0 : Int32) = nuA (ltA L t) z (z - z) from by rw [Nat.sub_self]; rfl) (lr rfl))))))
        refine loop_up (N := (tkE L t z)) (P := fun i H locs ls => Wd G A s H locs (rw' G h x) ∧ lv_has ls 6 [(0, .ref (h 0)), (1, .int (nI k)), (2, .int lo), (3, .int hv), (4, .int (nuA (ltA L t) z (i - z))), (5, .int (nI i))] ∧ z ≤ i) (X := fun H locs ls => W p l e (Rm 3 67) s m ([.ref (h 0), .int (nI k), .int lo, .int hv] : List Value).toArray below meth c H locs 0 0 (MQ below (va_Qi (fun r u => r = bI (rdN x L t z k lo hv).1 ∧ u = (rdN x L t z k lo hv).2) (PostW G (rw' G h) A) A) ([.ref (h 0), .int (nI k), .int lo, .int hv] : List Value).toArray s (Rm 3 67).cells (Rm 3 67).slots A) (F0 m 50 ls [])) ?_ z (by omega) H locs ls ⟨hw, hl0, (Nat.le_refl _)⟩
        clear hl0 hl hw
        intro i hi ih H locs ls hP
        obtain ⟨hw, hl, hE0⟩ := hP
        refine lv_iload hx hb dX4_reads_50 (lv_at hl 5 rfl) ?_
        refine lv_aload_n hx hb dX4_reads_52 rfl (lv_at hl 0 rfl) ?_
        refine gMi (k := 25) (v := nI (tkE L t z)) (by decide) hT.2.2.1 go hw dX4_reads_53 q615 ?_
        refine lv_icmp_ge (tgt := 83) hx hb dX4_reads_56 (by decide) (fun h56 => ?_) (fun h56 => ?_)
        · skip
          have hE : i = (tkE L t z) := lp_end h56 rfl rfl hi (by omega)
          have hnu : nuA (ltA L t) z (i - z) = nuV L t z := by rw [nuV, if_pos (And.intro (show dgB (ltA L t z) = true from by rw [ltA, if_pos h8b]; exact h23) h36), hE]
          refine lv_iload hx hb dX4_reads_83 (lv_at hl 4 rfl) ?_
          refine toI (show nuA (ltA L t) z (i - z) = nuV L t z from by exact hnu) ?_
          refine lv_i2l hx hb dX4_reads_85 rfl ?_
          refine lv_iload_n hx hb dX4_reads_86 rfl (lv_at hl 2 rfl) ?_
          refine lv_i2l hx hb dX4_reads_87 rfl ?_
          refine lv_iload_n hx hb dX4_reads_88 rfl (lv_at hl 3 rfl) ?_
          refine lv_i2l hx hb dX4_reads_89 rfl ?_
          refine cal_S (kX4_in l G ((nuV L t z).toInt64) lo.toInt64 hv.toInt64) go hw.2.2.1 hw.2.2.2.1 dX4_reads_90 (And.intro q687 (And.intro q4 q689)) q688 kyX4_in ⟨rfl, rfl⟩ ⟨Nat.le_of_ble_eq_true rfl, Nat.le_of_ble_eq_true rfl⟩ hl.1 rfl (Nat.le_of_ble_eq_true rfl) ⟨Nat.le_of_ble_eq_true rfl, Nat.le_of_ble_eq_true rfl⟩ ?_
          refine lv_if_ne (tgt := 98) hx hb dX4_reads_93 (by decide) (fun h93 => ?_) (fun h93 => ?_)
          · skip
            have h93 := bI_1 h93
            rw [inL_g] at h93
            refine lv_aload_n hx hb dX4_reads_98 rfl (lv_at hl 0 rfl) ?_
            refine gM (k := 28) (v := .ref (h 29)) rfl (by decide) rfl go hw dX4_reads_99 q618 ?_
            refine lv_iload_n hx hb dX4_reads_102 rfl (lv_at hl 1 rfl) ?_
            refine lv_iload hx hb dX4_reads_103 (lv_at hl 4 rfl) ?_
            refine sM (k := 28) (j := k) rfl (by decide) (by exact hk3) go hw dX4_reads_105 (fun H locs hw => ?_)
            refine lv_aload_n hx hb dX4_reads_106 rfl (lv_at hl 0 rfl) ?_
            refine cal_Vv' (kX4_next l G h (qA x 28 (upd (rA x 28) k (nuA (ltA L t) z (i - z)))) L t ht2 (tkE L t z) (tkE_b hz).2 hT.1 hT.2.2.1 hT.2.2.2.2.1) go hw dX4_reads_107 (And.intro q702 (And.intro q4 q705)) q704 qs23 kyX4_next ⟨Nat.le_of_ble_eq_true rfl, Nat.le_of_ble_eq_true rfl⟩ rc_M hl.1 rfl (Nat.le_of_ble_eq_true rfl) ⟨rfl, rfl⟩ ⟨Nat.le_of_ble_eq_true rfl, Nat.le_of_ble_eq_true rfl⟩ (fun H locs hw => ?_)
            refine lv_iconst (v := 1) hx hb dX4_reads_110 (by decide) ?_
            refine ret_z (wf := rw' G h) go hw dX4_reads_111 rfl ?_
            have hO : okN L t z lo hv = true := h93
            exact ⟨by rw [rdN, if_pos hO]; rfl, by rw [rdN, if_pos hO, hnu]; rfl⟩
          · skip
            have h93 := bI_0 h93
            rw [inL_g] at h93
            refine lv_iconst (v := 0) hx hb dX4_reads_96 (by decide) ?_
            refine ret_z (wf := rw' G h) go hw dX4_reads_97 rfl ?_
            have hO : okN L t z lo hv = false := h93
            exact ⟨by rw [rdN, if_neg (by rw [hO]; decide)]; rfl, by rw [rdN, if_neg (by rw [hO]; decide)]⟩
        · skip
          have hlt : i < (tkE L t z) := lp_in h56 rfl rfl hi (by omega)
          refine lv_bipush (v := 10) hx hb dX4_reads_59 (by decide) ?_
          refine lv_iload hx hb dX4_reads_61 (lv_at hl 4 rfl) ?_
          refine lv_imul hx hb dX4_reads_63 ?_
          refine lv_aload_n hx hb dX4_reads_64 rfl (lv_at hl 0 rfl) ?_
          refine gM (k := 22) (v := .ref (h 23)) rfl (by decide) rfl go hw dX4_reads_65 q612 ?_
          refine lv_iload hx hb dX4_reads_68 (lv_at hl 5 rfl) ?_
          refine aM (k := 22) (j := i) rfl (by decide) (by show i < 200; omega) go hw dX4_reads_70 ?_
          refine toI (show rA x 22 i = L i from by exact congrFun hT.2.2.2.2.1 _) ?_
          refine lv_iadd hx hb dX4_reads_71 ?_
          refine lv_bipush (v := 48) hx hb dX4_reads_72 (by decide) ?_
          refine lv_isub hx hb dX4_reads_74 ?_
          refine lv_istore (lv' := [(4, .int (((10 * (nuA (ltA L t) z (i - z))) + (L i)) - 48)), (0, .ref (h 0)), (1, .int (nI k)), (2, .int lo), (3, .int hv), (5, .int (nI i))]) hx hb dX4_reads_75 hl (by decide) rfl (fun ls hl => ?_)
          refine lv_iinc (v := nI (i + 1)) (lv' := [(5, .int (nI (i + 1))), (4, .int (((10 * (nuA (ltA L t) z (i - z))) + (L i)) - 48)), (0, .ref (h 0)), (1, .int (nI k)), (2, .int lo), (3, .int hv)]) hx hb dX4_reads_77 hl (k := 5) rfl (nI_1 _) (by decide) rfl (fun ls hl => ?_)
          refine lv_goto (tgt := 50) hx hb dX4_reads_80 (by decide) ?_
          have hl9 : lv_has ls 6 [(0, .ref (h 0)), (1, .int (nI k)), (2, .int lo), (3, .int hv), (4, .int (nuA (ltA L t) z ((i + 1) - z))), (5, .int (nI (i + 1)))] := lv_to (lv_sub (l' := [(0, .ref (h 0)), (1, .int (nI k)), (2, .int lo), (3, .int hv), (4, .int (((10 * (nuA (ltA L t) z (i - z))) + (L i)) - 48)), (5, .int (nI (i + 1)))]) hl [2, 3, 4, 5, 1, 0] rfl) (lr (lr (lr (lr (lc (show (((10 * (nuA (ltA L t) z (i - z))) + (L i)) - 48 : Int32) = nuA (ltA L t) z ((i + 1) - z) from by rw [show i + 1 - z = (i - z) + 1 by omega, nuA, show z + (i - z) = i by omega, Int32.mul_comm, ltA, if_pos (by omega)]) (lr rfl))))))
          exact ih _ _ _ (by omega) ⟨hw, hl9, (by omega)⟩
      · skip
        refine lv_iconst (v := 0) hx hb dX4_reads_39 (by decide) ?_
        refine ret_z (wf := rw' G h) go hw dX4_reads_40 rfl ?_
        have hN : nuV L t z = -1 := by
          rw [nuV, if_neg]
          rintro ⟨q1, q2⟩
          first
          | exact h36 q2
          | (rw [ltA, if_neg h8b] at q1; exact absurd q1 (by decide))
          | (rw [ltA, if_pos h8b] at q1; exact absurd (h23.symm.trans q1) (by decide))
        have hO := okN_no (hi := hv) hN hlo
        exact ⟨by rw [rdN, if_neg (by rw [hO]; decide)]; rfl, by rw [rdN, if_neg (by rw [hO]; decide)]⟩

set_option maxHeartbeats 4000000 in
set_option maxRecDepth 100000 in
theorem kX4_readsRest (l : Launch) (G : Cx) (h : Nat → Nat) (x : Rg) (L : Nat → Int32) (t : Nat) (ht2 : t ≤ 200) (z : Nat) (hz : z ≤ t) (b : Bool) (hT : Tk x L t z b) (k : Nat) (hk7 : k < 7) : Ci l G yX4_readsRest cX4_readsRest 2 .boolean (Rm 4 92) (rw' G h) [.ref (h 0), .int (nI k)] x (fun r u => r = bI (rrC x L t z k).1 ∧ u = (rrC x L t z k).2) := by
  refine Ci.mk (by decide) (Nat.le_of_ble_eq_true rfl) ?_
  intro p e s m below meth c A ls go hw hl
  generalize s.heap = H at hw ⊢
  generalize ([] : List Loc) = locs at hw ⊢
  have hx := go.1
  have hb := go.2.1
  have hl : lv_has ls 2 [(0, .ref (h 0)), (1, .int (nI k))] := hl
  refine lv_iload_n hx hb dX4_readsRest_0 rfl (lv_at hl 1 rfl) ?_
  by_cases w1_0 : nI k = 0
  · refine toI w1_0 ?_
    refine lv_tableIn (off := 39) (tgt := 40) hx hb dX4_readsRest_1 (by decide) (by decide) (by decide) (by decide) ?_
    refine lv_iconst (v := 1) hx hb dX4_readsRest_40 (by decide) ?_
    refine ret_z (wf := rw' G h) go hw dX4_readsRest_41 rfl ?_
    obtain rfl : k = 0 := (nI_eq (b := 0) (by omega) (by decide)).mp w1_0
    exact ⟨rfl, rfl⟩
  by_cases w1_1 : nI k = 1
  · refine toI w1_1 ?_
    refine lv_tableIn (off := 41) (tgt := 42) hx hb dX4_readsRest_1 (by decide) (by decide) (by decide) (by decide) ?_
    refine lv_aload_n hx hb dX4_readsRest_42 rfl (lv_at hl 0 rfl) ?_
    refine lv_iconst (v := 0) hx hb dX4_readsRest_43 (by decide) ?_
    refine lv_iconst (v := 0) hx hb dX4_readsRest_44 (by decide) ?_
    refine lv_bipush (v := 7) hx hb dX4_readsRest_45 (by decide) ?_
    refine cal_Vi' (kX4_reads l G h x L t ht2 z hz b hT 0 (by decide) 0 7 (by decide)) go hw dX4_readsRest_47 (And.intro q728 (And.intro q4 q731)) q730 qs27 kyX4_reads ⟨Nat.le_of_ble_eq_true rfl, Nat.le_of_ble_eq_true rfl⟩ rc_M hl.1 rfl (Nat.le_of_ble_eq_true rfl) ⟨rfl, rfl⟩ ⟨Nat.le_of_ble_eq_true rfl, Nat.le_of_ble_eq_true rfl⟩ (fun H locs hw => ?_)
    refine lv_if_eq (tgt := 69) hx hb dX4_readsRest_50 (by decide) (fun h50 => ?_) (fun h50 => ?_)
    · skip
      have h50 := bI_0 h50
      rw [rdN_f h50] at hw
      refine lv_iconst (v := 0) hx hb dX4_readsRest_69 (by decide) ?_
      refine ret_z (wf := rw' G h) go hw dX4_readsRest_70 rfl ?_
      obtain rfl : k = 1 := (nI_eq (b := 1) (by omega) (by decide)).mp w1_1
      show _ = bI (rc2 x L t z 0 7 0 9999).1 ∧ _ = (rc2 x L t z 0 7 0 9999).2
      first
      | (rw [rc2_f1 h50]; exact ⟨rfl, rfl⟩)
      | (rw [rc2_t1 h50]; exact ⟨by rw [h62]; rfl, rfl⟩)
    · skip
      have h50 := bI_1 h50
      rw [(rdN_t h50).1] at hw
      refine lv_aload_n hx hb dX4_readsRest_53 rfl (lv_at hl 0 rfl) ?_
      refine lv_iconst (v := 1) hx hb dX4_readsRest_54 (by decide) ?_
      refine lv_iconst (v := 0) hx hb dX4_readsRest_55 (by decide) ?_
      refine lv_sipush (v := 9999) hx hb dX4_readsRest_56 (by decide) ?_
      refine cal_Vi' (kX4_reads l G h (rdY' x L t z 0) L t ht2 (nxK L t z) (nxK_t' hz) b hT.rd 1 (by decide) 0 9999 (by decide)) go hw dX4_readsRest_59 (And.intro q728 (And.intro q4 q731)) q730 qs27 kyX4_reads ⟨Nat.le_of_ble_eq_true rfl, Nat.le_of_ble_eq_true rfl⟩ rc_M hl.1 rfl (Nat.le_of_ble_eq_true rfl) ⟨rfl, rfl⟩ ⟨Nat.le_of_ble_eq_true rfl, Nat.le_of_ble_eq_true rfl⟩ (fun H locs hw => ?_)
      refine lv_if_eq (tgt := 69) hx hb dX4_readsRest_62 (by decide) (fun h62 => ?_) (fun h62 => ?_)
      · skip
        have h62 := bI_0 h62
        refine lv_iconst (v := 0) hx hb dX4_readsRest_69 (by decide) ?_
        refine ret_z (wf := rw' G h) go hw dX4_readsRest_70 rfl ?_
        obtain rfl : k = 1 := (nI_eq (b := 1) (by omega) (by decide)).mp w1_1
        show _ = bI (rc2 x L t z 0 7 0 9999).1 ∧ _ = (rc2 x L t z 0 7 0 9999).2
        first
        | (rw [rc2_f1 h50]; exact ⟨rfl, rfl⟩)
        | (rw [rc2_t1 h50]; exact ⟨by rw [h62]; rfl, rfl⟩)
      · skip
        have h62 := bI_1 h62
        refine lv_iconst (v := 1) hx hb dX4_readsRest_65 (by decide) ?_
        refine lv_goto (tgt := 70) hx hb dX4_readsRest_66 (by decide) ?_
        refine ret_z (wf := rw' G h) go hw dX4_readsRest_70 rfl ?_
        obtain rfl : k = 1 := (nI_eq (b := 1) (by omega) (by decide)).mp w1_1
        show _ = bI (rc2 x L t z 0 7 0 9999).1 ∧ _ = (rc2 x L t z 0 7 0 9999).2
        first
        | (rw [rc2_f1 h50]; exact ⟨rfl, rfl⟩)
        | (rw [rc2_t1 h50]; exact ⟨by rw [h62]; rfl, rfl⟩)
  by_cases w1_2 : nI k = 2
  · refine toI w1_2 ?_
    refine lv_tableIn (off := 70) (tgt := 71) hx hb dX4_readsRest_1 (by decide) (by decide) (by decide) (by decide) ?_
    refine lv_aload_n hx hb dX4_readsRest_71 rfl (lv_at hl 0 rfl) ?_
    refine lv_iconst (v := 0) hx hb dX4_readsRest_72 (by decide) ?_
    refine lv_iconst (v := 1) hx hb dX4_readsRest_73 (by decide) ?_
    refine lv_bipush (v := 9) hx hb dX4_readsRest_74 (by decide) ?_
    refine cal_Vi' (kX4_reads l G h x L t ht2 z hz b hT 0 (by decide) 1 9 (by decide)) go hw dX4_readsRest_76 (And.intro q728 (And.intro q4 q731)) q730 qs27 kyX4_reads ⟨Nat.le_of_ble_eq_true rfl, Nat.le_of_ble_eq_true rfl⟩ rc_M hl.1 rfl (Nat.le_of_ble_eq_true rfl) ⟨rfl, rfl⟩ ⟨Nat.le_of_ble_eq_true rfl, Nat.le_of_ble_eq_true rfl⟩ (fun H locs hw => ?_)
    refine ret_z (wf := rw' G h) go hw dX4_readsRest_79 (bI_z _).1 ?_
    obtain rfl : k = 2 := (nI_eq (b := 2) (by omega) (by decide)).mp w1_2
    exact ⟨rfl, rfl⟩
  by_cases w1_3 : nI k = 3
  · refine toI w1_3 ?_
    refine lv_tableIn (off := 145) (tgt := 146) hx hb dX4_readsRest_1 (by decide) (by decide) (by decide) (by decide) ?_
    refine lv_aload_n hx hb dX4_readsRest_146 rfl (lv_at hl 0 rfl) ?_
    refine lv_iconst (v := 0) hx hb dX4_readsRest_147 (by decide) ?_
    refine lv_iconst (v := 0) hx hb dX4_readsRest_148 (by decide) ?_
    refine lv_iconst (v := 5) hx hb dX4_readsRest_149 (by decide) ?_
    refine cal_Vi' (kX4_reads l G h x L t ht2 z hz b hT 0 (by decide) 0 5 (by decide)) go hw dX4_readsRest_150 (And.intro q728 (And.intro q4 q731)) q730 qs27 kyX4_reads ⟨Nat.le_of_ble_eq_true rfl, Nat.le_of_ble_eq_true rfl⟩ rc_M hl.1 rfl (Nat.le_of_ble_eq_true rfl) ⟨rfl, rfl⟩ ⟨Nat.le_of_ble_eq_true rfl, Nat.le_of_ble_eq_true rfl⟩ (fun H locs hw => ?_)
    refine ret_z (wf := rw' G h) go hw dX4_readsRest_153 (bI_z _).1 ?_
    obtain rfl : k = 3 := (nI_eq (b := 3) (by omega) (by decide)).mp w1_3
    exact ⟨rfl, rfl⟩
  by_cases w1_4 : nI k = 4
  · refine toI w1_4 ?_
    refine lv_tableIn (off := 79) (tgt := 80) hx hb dX4_readsRest_1 (by decide) (by decide) (by decide) (by decide) ?_
    refine lv_aload_n hx hb dX4_readsRest_80 rfl (lv_at hl 0 rfl) ?_
    refine lv_iconst (v := 0) hx hb dX4_readsRest_81 (by decide) ?_
    refine lv_iconst (v := 0) hx hb dX4_readsRest_82 (by decide) ?_
    refine lv_iconst (v := 5) hx hb dX4_readsRest_83 (by decide) ?_
    refine cal_Vi' (kX4_reads l G h x L t ht2 z hz b hT 0 (by decide) 0 5 (by decide)) go hw dX4_readsRest_84 (And.intro q728 (And.intro q4 q731)) q730 qs27 kyX4_reads ⟨Nat.le_of_ble_eq_true rfl, Nat.le_of_ble_eq_true rfl⟩ rc_M hl.1 rfl (Nat.le_of_ble_eq_true rfl) ⟨rfl, rfl⟩ ⟨Nat.le_of_ble_eq_true rfl, Nat.le_of_ble_eq_true rfl⟩ (fun H locs hw => ?_)
    refine lv_if_eq (tgt := 105) hx hb dX4_readsRest_87 (by decide) (fun h87 => ?_) (fun h87 => ?_)
    · skip
      have h87 := bI_0 h87
      rw [rdN_f h87] at hw
      refine lv_iconst (v := 0) hx hb dX4_readsRest_105 (by decide) ?_
      refine ret_z (wf := rw' G h) go hw dX4_readsRest_106 rfl ?_
      obtain rfl : k = 4 := (nI_eq (b := 4) (by omega) (by decide)).mp w1_4
      show _ = bI (rc2 x L t z 0 5 0 7).1 ∧ _ = (rc2 x L t z 0 5 0 7).2
      first
      | (rw [rc2_f1 h87]; exact ⟨rfl, rfl⟩)
      | (rw [rc2_t1 h87]; exact ⟨by rw [h98]; rfl, rfl⟩)
    · skip
      have h87 := bI_1 h87
      rw [(rdN_t h87).1] at hw
      refine lv_aload_n hx hb dX4_readsRest_90 rfl (lv_at hl 0 rfl) ?_
      refine lv_iconst (v := 1) hx hb dX4_readsRest_91 (by decide) ?_
      refine lv_iconst (v := 0) hx hb dX4_readsRest_92 (by decide) ?_
      refine lv_bipush (v := 7) hx hb dX4_readsRest_93 (by decide) ?_
      refine cal_Vi' (kX4_reads l G h (rdY' x L t z 0) L t ht2 (nxK L t z) (nxK_t' hz) b hT.rd 1 (by decide) 0 7 (by decide)) go hw dX4_readsRest_95 (And.intro q728 (And.intro q4 q731)) q730 qs27 kyX4_reads ⟨Nat.le_of_ble_eq_true rfl, Nat.le_of_ble_eq_true rfl⟩ rc_M hl.1 rfl (Nat.le_of_ble_eq_true rfl) ⟨rfl, rfl⟩ ⟨Nat.le_of_ble_eq_true rfl, Nat.le_of_ble_eq_true rfl⟩ (fun H locs hw => ?_)
      refine lv_if_eq (tgt := 105) hx hb dX4_readsRest_98 (by decide) (fun h98 => ?_) (fun h98 => ?_)
      · skip
        have h98 := bI_0 h98
        refine lv_iconst (v := 0) hx hb dX4_readsRest_105 (by decide) ?_
        refine ret_z (wf := rw' G h) go hw dX4_readsRest_106 rfl ?_
        obtain rfl : k = 4 := (nI_eq (b := 4) (by omega) (by decide)).mp w1_4
        show _ = bI (rc2 x L t z 0 5 0 7).1 ∧ _ = (rc2 x L t z 0 5 0 7).2
        first
        | (rw [rc2_f1 h87]; exact ⟨rfl, rfl⟩)
        | (rw [rc2_t1 h87]; exact ⟨by rw [h98]; rfl, rfl⟩)
      · skip
        have h98 := bI_1 h98
        refine lv_iconst (v := 1) hx hb dX4_readsRest_101 (by decide) ?_
        refine lv_goto (tgt := 106) hx hb dX4_readsRest_102 (by decide) ?_
        refine ret_z (wf := rw' G h) go hw dX4_readsRest_106 rfl ?_
        obtain rfl : k = 4 := (nI_eq (b := 4) (by omega) (by decide)).mp w1_4
        show _ = bI (rc2 x L t z 0 5 0 7).1 ∧ _ = (rc2 x L t z 0 5 0 7).2
        first
        | (rw [rc2_f1 h87]; exact ⟨rfl, rfl⟩)
        | (rw [rc2_t1 h87]; exact ⟨by rw [h98]; rfl, rfl⟩)
  by_cases w1_5 : nI k = 5
  · refine toI w1_5 ?_
    refine lv_tableIn (off := 106) (tgt := 107) hx hb dX4_readsRest_1 (by decide) (by decide) (by decide) (by decide) ?_
    refine lv_aload_n hx hb dX4_readsRest_107 rfl (lv_at hl 0 rfl) ?_
    refine lv_iconst (v := 0) hx hb dX4_readsRest_108 (by decide) ?_
    refine lv_iconst (v := 0) hx hb dX4_readsRest_109 (by decide) ?_
    refine lv_iconst (v := 5) hx hb dX4_readsRest_110 (by decide) ?_
    refine cal_Vi' (kX4_reads l G h x L t ht2 z hz b hT 0 (by decide) 0 5 (by decide)) go hw dX4_readsRest_111 (And.intro q728 (And.intro q4 q731)) q730 qs27 kyX4_reads ⟨Nat.le_of_ble_eq_true rfl, Nat.le_of_ble_eq_true rfl⟩ rc_M hl.1 rfl (Nat.le_of_ble_eq_true rfl) ⟨rfl, rfl⟩ ⟨Nat.le_of_ble_eq_true rfl, Nat.le_of_ble_eq_true rfl⟩ (fun H locs hw => ?_)
    refine lv_if_eq (tgt := 144) hx hb dX4_readsRest_114 (by decide) (fun h114 => ?_) (fun h114 => ?_)
    · skip
      have h114 := bI_0 h114
      rw [rdN_f h114] at hw
      refine lv_iconst (v := 0) hx hb dX4_readsRest_144 (by decide) ?_
      refine ret_z (wf := rw' G h) go hw dX4_readsRest_145 rfl ?_
      obtain rfl : k = 5 := (nI_eq (b := 5) (by omega) (by decide)).mp w1_5
      show _ = bI (rc3 x L t z).1 ∧ _ = (rc3 x L t z).2
      first
      | (rw [rc3_f (by rw [rc2_f1 h114]), rc2_f1 h114]; exact ⟨rfl, rfl⟩)
      | (rw [rc3_f (by rw [rc2_t1 h114]; exact h125), rc2_t1 h114]; exact ⟨by rw [h125]; rfl, rfl⟩)
      | (rw [rc3_t (by rw [rc2_t1 h114]; exact h125)]; exact ⟨by rw [h137]; rfl, rfl⟩)
    · skip
      have h114 := bI_1 h114
      rw [(rdN_t h114).1] at hw
      refine lv_aload_n hx hb dX4_readsRest_117 rfl (lv_at hl 0 rfl) ?_
      refine lv_iconst (v := 1) hx hb dX4_readsRest_118 (by decide) ?_
      refine lv_iconst (v := 0) hx hb dX4_readsRest_119 (by decide) ?_
      refine lv_bipush (v := 7) hx hb dX4_readsRest_120 (by decide) ?_
      refine cal_Vi' (kX4_reads l G h (rdY' x L t z 0) L t ht2 (nxK L t z) (nxK_t' hz) b hT.rd 1 (by decide) 0 7 (by decide)) go hw dX4_readsRest_122 (And.intro q728 (And.intro q4 q731)) q730 qs27 kyX4_reads ⟨Nat.le_of_ble_eq_true rfl, Nat.le_of_ble_eq_true rfl⟩ rc_M hl.1 rfl (Nat.le_of_ble_eq_true rfl) ⟨rfl, rfl⟩ ⟨Nat.le_of_ble_eq_true rfl, Nat.le_of_ble_eq_true rfl⟩ (fun H locs hw => ?_)
      refine lv_if_eq (tgt := 144) hx hb dX4_readsRest_125 (by decide) (fun h125 => ?_) (fun h125 => ?_)
      · skip
        have h125 := bI_0 h125
        refine lv_iconst (v := 0) hx hb dX4_readsRest_144 (by decide) ?_
        refine ret_z (wf := rw' G h) go hw dX4_readsRest_145 rfl ?_
        obtain rfl : k = 5 := (nI_eq (b := 5) (by omega) (by decide)).mp w1_5
        show _ = bI (rc3 x L t z).1 ∧ _ = (rc3 x L t z).2
        first
        | (rw [rc3_f (by rw [rc2_f1 h114]), rc2_f1 h114]; exact ⟨rfl, rfl⟩)
        | (rw [rc3_f (by rw [rc2_t1 h114]; exact h125), rc2_t1 h114]; exact ⟨by rw [h125]; rfl, rfl⟩)
        | (rw [rc3_t (by rw [rc2_t1 h114]; exact h125)]; exact ⟨by rw [h137]; rfl, rfl⟩)
      · skip
        have h125 := bI_1 h125
        rw [(rdN_t h125).1] at hw
        refine lv_aload_n hx hb dX4_readsRest_128 rfl (lv_at hl 0 rfl) ?_
        refine lv_iconst (v := 2) hx hb dX4_readsRest_129 (by decide) ?_
        refine lv_iconst (v := 0) hx hb dX4_readsRest_130 (by decide) ?_
        refine lv_sipush (v := 9999) hx hb dX4_readsRest_131 (by decide) ?_
        refine cal_Vi' (kX4_reads l G h (rdY' (rdY' x L t z 0) L t (nxK L t z) 1) L t ht2 (nxK L t (nxK L t z)) (nxK_t' (nxK_t' hz)) b hT.rd.rd 2 (by decide) 0 9999 (by decide)) go hw dX4_readsRest_134 (And.intro q728 (And.intro q4 q731)) q730 qs27 kyX4_reads ⟨Nat.le_of_ble_eq_true rfl, Nat.le_of_ble_eq_true rfl⟩ rc_M hl.1 rfl (Nat.le_of_ble_eq_true rfl) ⟨rfl, rfl⟩ ⟨Nat.le_of_ble_eq_true rfl, Nat.le_of_ble_eq_true rfl⟩ (fun H locs hw => ?_)
        refine lv_if_eq (tgt := 144) hx hb dX4_readsRest_137 (by decide) (fun h137 => ?_) (fun h137 => ?_)
        · skip
          have h137 := bI_0 h137
          refine lv_iconst (v := 0) hx hb dX4_readsRest_144 (by decide) ?_
          refine ret_z (wf := rw' G h) go hw dX4_readsRest_145 rfl ?_
          obtain rfl : k = 5 := (nI_eq (b := 5) (by omega) (by decide)).mp w1_5
          show _ = bI (rc3 x L t z).1 ∧ _ = (rc3 x L t z).2
          first
          | (rw [rc3_f (by rw [rc2_f1 h114]), rc2_f1 h114]; exact ⟨rfl, rfl⟩)
          | (rw [rc3_f (by rw [rc2_t1 h114]; exact h125), rc2_t1 h114]; exact ⟨by rw [h125]; rfl, rfl⟩)
          | (rw [rc3_t (by rw [rc2_t1 h114]; exact h125)]; exact ⟨by rw [h137]; rfl, rfl⟩)
        · skip
          have h137 := bI_1 h137
          refine lv_iconst (v := 1) hx hb dX4_readsRest_140 (by decide) ?_
          refine lv_goto (tgt := 145) hx hb dX4_readsRest_141 (by decide) ?_
          refine ret_z (wf := rw' G h) go hw dX4_readsRest_145 rfl ?_
          obtain rfl : k = 5 := (nI_eq (b := 5) (by omega) (by decide)).mp w1_5
          show _ = bI (rc3 x L t z).1 ∧ _ = (rc3 x L t z).2
          first
          | (rw [rc3_f (by rw [rc2_f1 h114]), rc2_f1 h114]; exact ⟨rfl, rfl⟩)
          | (rw [rc3_f (by rw [rc2_t1 h114]; exact h125), rc2_t1 h114]; exact ⟨by rw [h125]; rfl, rfl⟩)
          | (rw [rc3_t (by rw [rc2_t1 h114]; exact h125)]; exact ⟨by rw [h137]; rfl, rfl⟩)
  refine lv_tableOut (tgt := 146) hx hb dX4_readsRest_1 (by have z0 := lv_neT (a := 0) w1_0 rfl; have z1 := lv_neT (a := 1) w1_1 rfl; have z2 := lv_neT (a := 2) w1_2 rfl; have z3 := lv_neT (a := 3) w1_3 rfl; have z4 := lv_neT (a := 4) w1_4 rfl; have z5 := lv_neT (a := 5) w1_5 rfl; omega) (by decide) ?_
  refine lv_aload_n hx hb dX4_readsRest_146 rfl (lv_at hl 0 rfl) ?_
  refine lv_iconst (v := 0) hx hb dX4_readsRest_147 (by decide) ?_
  refine lv_iconst (v := 0) hx hb dX4_readsRest_148 (by decide) ?_
  refine lv_iconst (v := 5) hx hb dX4_readsRest_149 (by decide) ?_
  refine cal_Vi' (kX4_reads l G h x L t ht2 z hz b hT 0 (by decide) 0 5 (by decide)) go hw dX4_readsRest_150 (And.intro q728 (And.intro q4 q731)) q730 qs27 kyX4_reads ⟨Nat.le_of_ble_eq_true rfl, Nat.le_of_ble_eq_true rfl⟩ rc_M hl.1 rfl (Nat.le_of_ble_eq_true rfl) ⟨rfl, rfl⟩ ⟨Nat.le_of_ble_eq_true rfl, Nat.le_of_ble_eq_true rfl⟩ (fun H locs hw => ?_)
  refine ret_z (wf := rw' G h) go hw dX4_readsRest_153 (bI_z _).1 ?_
  obtain rfl : k = 6 := by
    have z0 : k ≠ 0 := fun q => w1_0 (by rw [q]; rfl)
    have z1 : k ≠ 1 := fun q => w1_1 (by rw [q]; rfl)
    have z2 : k ≠ 2 := fun q => w1_2 (by rw [q]; rfl)
    have z3 : k ≠ 3 := fun q => w1_3 (by rw [q]; rfl)
    have z4 : k ≠ 4 := fun q => w1_4 (by rw [q]; rfl)
    have z5 : k ≠ 5 := fun q => w1_5 (by rw [q]; rfl)
    omega
  exact ⟨rfl, rfl⟩

set_option maxHeartbeats 4000000 in
set_option maxRecDepth 100000 in
theorem kX4_does (l : Launch) (G : Cx) (h : Nat → Nat) (x : Rg) (c0 : Nat) (hc : rI x 2 = nI c0) (hc5 : c0 ≤ 512) (k : Nat) (hk7 : k < 7) : Cv l G yX4_does cX4_does 2 (Rm 3 68) (rw' G h) [.ref (h 0), .int (nI k)] x (fun u => u = dsR x c0 k) := by
  refine Cv.mk (by decide) (Nat.le_of_ble_eq_true rfl) ?_
  intro p e s m below meth c A ls go hw hl
  generalize s.heap = H at hw ⊢
  generalize ([] : List Loc) = locs at hw ⊢
  have hx := go.1
  have hb := go.2.1
  have hl : lv_has ls 2 [(0, .ref (h 0)), (1, .int (nI k))] := hl
  refine lv_iload_n hx hb dX4_does_0 rfl (lv_at hl 1 rfl) ?_
  by_cases w1_0 : nI k = 0
  · refine toI w1_0 ?_
    refine lv_tableIn (off := 39) (tgt := 40) hx hb dX4_does_1 (by decide) (by decide) (by decide) (by decide) ?_
    refine lv_aload_n hx hb dX4_does_40 rfl (lv_at hl 0 rfl) ?_
    refine cal_Vv' (kX4_allAnew l G h x) go hw dX4_does_41 (And.intro q736 (And.intro q4 q739)) q738 qs29 kyX4_allAnew ⟨Nat.le_of_ble_eq_true rfl, Nat.le_of_ble_eq_true rfl⟩ rc_M hl.1 rfl (Nat.le_of_ble_eq_true rfl) ⟨rfl, rfl⟩ ⟨Nat.le_of_ble_eq_true rfl, Nat.le_of_ble_eq_true rfl⟩ (fun H locs hw => ?_)
    refine lv_goto (tgt := 152) hx hb dX4_does_44 (by decide) ?_
    refine ret_v (wf := rw' G h) go hw dX4_does_152 ?_
    obtain rfl : k = 0 := (nI_eq (b := 0) (by omega) (by decide)).mp w1_0
    rfl
  by_cases w1_1 : nI k = 1
  · refine toI w1_1 ?_
    refine lv_tableIn (off := 46) (tgt := 47) hx hb dX4_does_1 (by decide) (by decide) (by decide) (by decide) ?_
    refine lv_aload_n hx hb dX4_does_47 rfl (lv_at hl 0 rfl) ?_
    refine lv_aload_n hx hb dX4_does_48 rfl (lv_at hl 0 rfl) ?_
    refine gM (k := 28) (v := .ref (h 29)) rfl (by decide) rfl go hw dX4_does_49 q618 ?_
    refine lv_iconst (v := 0) hx hb dX4_does_52 (by decide) ?_
    refine toI (show (0 : Int32) = nI 0 from by rfl) ?_
    refine aM (k := 28) (j := 0) rfl (by decide) (by decide) go hw dX4_does_53 ?_
    refine lv_aload_n hx hb dX4_does_54 rfl (lv_at hl 0 rfl) ?_
    refine gM (k := 28) (v := .ref (h 29)) rfl (by decide) rfl go hw dX4_does_55 q618 ?_
    refine lv_iconst (v := 1) hx hb dX4_does_58 (by decide) ?_
    refine toI (show (1 : Int32) = nI 1 from by rfl) ?_
    refine aM (k := 28) (j := 1) rfl (by decide) (by decide) go hw dX4_does_59 ?_
    refine cal_Vi' (kX4_put l G h x c0 hc hc5 (rA x 28 0) (rA x 28 1)) go hw dX4_does_60 (And.intro q744 (And.intro q4 q747)) q745 q746 kyX4_put ⟨Nat.le_of_ble_eq_true rfl, Nat.le_of_ble_eq_true rfl⟩ rc_M hl.1 rfl (Nat.le_of_ble_eq_true rfl) ⟨rfl, rfl⟩ ⟨Nat.le_of_ble_eq_true rfl, Nat.le_of_ble_eq_true rfl⟩ (fun H locs hw => ?_)
    refine lv_pop hx hb dX4_does_63 rfl ?_
    refine lv_goto (tgt := 152) hx hb dX4_does_64 (by decide) ?_
    refine ret_v (wf := rw' G h) go hw dX4_does_152 ?_
    obtain rfl : k = 1 := (nI_eq (b := 1) (by omega) (by decide)).mp w1_1
    rfl
  by_cases w1_2 : nI k = 2
  · refine toI w1_2 ?_
    refine lv_tableIn (off := 66) (tgt := 67) hx hb dX4_does_1 (by decide) (by decide) (by decide) (by decide) ?_
    refine lv_aload_n hx hb dX4_does_67 rfl (lv_at hl 0 rfl) ?_
    refine lv_aload_n hx hb dX4_does_68 rfl (lv_at hl 0 rfl) ?_
    refine gM (k := 28) (v := .ref (h 29)) rfl (by decide) rfl go hw dX4_does_69 q618 ?_
    refine lv_iconst (v := 0) hx hb dX4_does_72 (by decide) ?_
    refine toI (show (0 : Int32) = nI 0 from by rfl) ?_
    refine aM (k := 28) (j := 0) rfl (by decide) (by decide) go hw dX4_does_73 ?_
    refine cal_Vi' (kX4_limit l G h x  (rA x 28 0)) go hw dX4_does_74 (And.intro q768 (And.intro q4 q771)) q769 q770 kyX4_limit ⟨Nat.le_of_ble_eq_true rfl, Nat.le_of_ble_eq_true rfl⟩ rc_M hl.1 rfl (Nat.le_of_ble_eq_true rfl) ⟨rfl, rfl⟩ ⟨Nat.le_of_ble_eq_true rfl, Nat.le_of_ble_eq_true rfl⟩ (fun H locs hw => ?_)
    refine lv_pop hx hb dX4_does_77 rfl ?_
    refine lv_goto (tgt := 152) hx hb dX4_does_78 (by decide) ?_
    refine ret_v (wf := rw' G h) go hw dX4_does_152 ?_
    obtain rfl : k = 2 := (nI_eq (b := 2) (by omega) (by decide)).mp w1_2
    rfl
  by_cases w1_3 : nI k = 3
  · refine toI w1_3 ?_
    refine lv_tableIn (off := 80) (tgt := 81) hx hb dX4_does_1 (by decide) (by decide) (by decide) (by decide) ?_
    refine lv_aload_n hx hb dX4_does_81 rfl (lv_at hl 0 rfl) ?_
    refine lv_aload_n hx hb dX4_does_82 rfl (lv_at hl 0 rfl) ?_
    refine gM (k := 28) (v := .ref (h 29)) rfl (by decide) rfl go hw dX4_does_83 q618 ?_
    refine lv_iconst (v := 0) hx hb dX4_does_86 (by decide) ?_
    refine toI (show (0 : Int32) = nI 0 from by rfl) ?_
    refine aM (k := 28) (j := 0) rfl (by decide) (by decide) go hw dX4_does_87 ?_
    refine cal_Vi' (kX4_begin l G h x  (rA x 28 0)) go hw dX4_does_88 (And.intro q773 (And.intro q4 q776)) q774 q775 kyX4_begin ⟨Nat.le_of_ble_eq_true rfl, Nat.le_of_ble_eq_true rfl⟩ rc_M hl.1 rfl (Nat.le_of_ble_eq_true rfl) ⟨rfl, rfl⟩ ⟨Nat.le_of_ble_eq_true rfl, Nat.le_of_ble_eq_true rfl⟩ (fun H locs hw => ?_)
    refine lv_pop hx hb dX4_does_91 rfl ?_
    refine lv_goto (tgt := 152) hx hb dX4_does_92 (by decide) ?_
    refine ret_v (wf := rw' G h) go hw dX4_does_152 ?_
    obtain rfl : k = 3 := (nI_eq (b := 3) (by omega) (by decide)).mp w1_3
    rfl
  by_cases w1_4 : nI k = 4
  · refine toI w1_4 ?_
    refine lv_tableIn (off := 94) (tgt := 95) hx hb dX4_does_1 (by decide) (by decide) (by decide) (by decide) ?_
    refine lv_aload_n hx hb dX4_does_95 rfl (lv_at hl 0 rfl) ?_
    refine lv_aload_n hx hb dX4_does_96 rfl (lv_at hl 0 rfl) ?_
    refine gM (k := 28) (v := .ref (h 29)) rfl (by decide) rfl go hw dX4_does_97 q618 ?_
    refine lv_iconst (v := 0) hx hb dX4_does_100 (by decide) ?_
    refine toI (show (0 : Int32) = nI 0 from by rfl) ?_
    refine aM (k := 28) (j := 0) rfl (by decide) (by decide) go hw dX4_does_101 ?_
    refine lv_aload_n hx hb dX4_does_102 rfl (lv_at hl 0 rfl) ?_
    refine gM (k := 28) (v := .ref (h 29)) rfl (by decide) rfl go hw dX4_does_103 q618 ?_
    refine lv_iconst (v := 1) hx hb dX4_does_106 (by decide) ?_
    refine toI (show (1 : Int32) = nI 1 from by rfl) ?_
    refine aM (k := 28) (j := 1) rfl (by decide) (by decide) go hw dX4_does_107 ?_
    refine cal_Vi' (kX4_read l G h x  (rA x 28 0) (rA x 28 1)) go hw dX4_does_108 (And.intro q785 (And.intro q4 q788)) q786 q787 kyX4_read ⟨Nat.le_of_ble_eq_true rfl, Nat.le_of_ble_eq_true rfl⟩ rc_M hl.1 rfl (Nat.le_of_ble_eq_true rfl) ⟨rfl, rfl⟩ ⟨Nat.le_of_ble_eq_true rfl, Nat.le_of_ble_eq_true rfl⟩ (fun H locs hw => ?_)
    refine lv_pop hx hb dX4_does_111 rfl ?_
    refine lv_goto (tgt := 152) hx hb dX4_does_112 (by decide) ?_
    refine ret_v (wf := rw' G h) go hw dX4_does_152 ?_
    obtain rfl : k = 4 := (nI_eq (b := 4) (by omega) (by decide)).mp w1_4
    rfl
  by_cases w1_5 : nI k = 5
  · refine toI w1_5 ?_
    refine lv_tableIn (off := 114) (tgt := 115) hx hb dX4_does_1 (by decide) (by decide) (by decide) (by decide) ?_
    refine lv_aload_n hx hb dX4_does_115 rfl (lv_at hl 0 rfl) ?_
    refine lv_aload_n hx hb dX4_does_116 rfl (lv_at hl 0 rfl) ?_
    refine gM (k := 28) (v := .ref (h 29)) rfl (by decide) rfl go hw dX4_does_117 q618 ?_
    refine lv_iconst (v := 0) hx hb dX4_does_120 (by decide) ?_
    refine toI (show (0 : Int32) = nI 0 from by rfl) ?_
    refine aM (k := 28) (j := 0) rfl (by decide) (by decide) go hw dX4_does_121 ?_
    refine lv_aload_n hx hb dX4_does_122 rfl (lv_at hl 0 rfl) ?_
    refine gM (k := 28) (v := .ref (h 29)) rfl (by decide) rfl go hw dX4_does_123 q618 ?_
    refine lv_iconst (v := 1) hx hb dX4_does_126 (by decide) ?_
    refine toI (show (1 : Int32) = nI 1 from by rfl) ?_
    refine aM (k := 28) (j := 1) rfl (by decide) (by decide) go hw dX4_does_127 ?_
    refine lv_aload_n hx hb dX4_does_128 rfl (lv_at hl 0 rfl) ?_
    refine gM (k := 28) (v := .ref (h 29)) rfl (by decide) rfl go hw dX4_does_129 q618 ?_
    refine lv_iconst (v := 2) hx hb dX4_does_132 (by decide) ?_
    refine toI (show (2 : Int32) = nI 2 from by rfl) ?_
    refine aM (k := 28) (j := 2) rfl (by decide) (by decide) go hw dX4_does_133 ?_
    refine cal_Vi' (kX4_lay l G h x  (rA x 28 0) (rA x 28 1) (rA x 28 2)) go hw dX4_does_134 (And.intro q789 (And.intro q4 q792)) q790 q791 kyX4_lay ⟨Nat.le_of_ble_eq_true rfl, Nat.le_of_ble_eq_true rfl⟩ rc_M hl.1 rfl (Nat.le_of_ble_eq_true rfl) ⟨rfl, rfl⟩ ⟨Nat.le_of_ble_eq_true rfl, Nat.le_of_ble_eq_true rfl⟩ (fun H locs hw => ?_)
    refine lv_pop hx hb dX4_does_137 rfl ?_
    refine lv_goto (tgt := 152) hx hb dX4_does_138 (by decide) ?_
    refine ret_v (wf := rw' G h) go hw dX4_does_152 ?_
    obtain rfl : k = 5 := (nI_eq (b := 5) (by omega) (by decide)).mp w1_5
    rfl
  refine lv_tableOut (tgt := 141) hx hb dX4_does_1 (by have z0 := lv_neT (a := 0) w1_0 rfl; have z1 := lv_neT (a := 1) w1_1 rfl; have z2 := lv_neT (a := 2) w1_2 rfl; have z3 := lv_neT (a := 3) w1_3 rfl; have z4 := lv_neT (a := 4) w1_4 rfl; have z5 := lv_neT (a := 5) w1_5 rfl; omega) (by decide) ?_
  refine lv_aload_n hx hb dX4_does_141 rfl (lv_at hl 0 rfl) ?_
  refine lv_aload_n hx hb dX4_does_142 rfl (lv_at hl 0 rfl) ?_
  refine gM (k := 28) (v := .ref (h 29)) rfl (by decide) rfl go hw dX4_does_143 q618 ?_
  refine lv_iconst (v := 0) hx hb dX4_does_146 (by decide) ?_
  refine toI (show (0 : Int32) = nI 0 from by rfl) ?_
  refine aM (k := 28) (j := 0) rfl (by decide) (by decide) go hw dX4_does_147 ?_
  refine cal_Vi' (kX4_send l G h x  (rA x 28 0)) go hw dX4_does_148 (And.intro q796 (And.intro q4 q799)) q797 q798 kyX4_send ⟨Nat.le_of_ble_eq_true rfl, Nat.le_of_ble_eq_true rfl⟩ rc_M hl.1 rfl (Nat.le_of_ble_eq_true rfl) ⟨rfl, rfl⟩ ⟨Nat.le_of_ble_eq_true rfl, Nat.le_of_ble_eq_true rfl⟩ (fun H locs hw => ?_)
  refine lv_pop hx hb dX4_does_151 rfl ?_
  refine ret_v (wf := rw' G h) go hw dX4_does_152 ?_
  obtain rfl : k = 6 := by
    have z0 : k ≠ 0 := fun q => w1_0 (by rw [q]; rfl)
    have z1 : k ≠ 1 := fun q => w1_1 (by rw [q]; rfl)
    have z2 : k ≠ 2 := fun q => w1_2 (by rw [q]; rfl)
    have z3 : k ≠ 3 := fun q => w1_3 (by rw [q]; rfl)
    have z4 : k ≠ 4 := fun q => w1_4 (by rw [q]; rfl)
    have z5 : k ≠ 5 := fun q => w1_5 (by rw [q]; rfl)
    omega
  rfl

set_option maxHeartbeats 4000000 in
set_option maxRecDepth 100000 in
theorem kX4_readsClause (l : Launch) (G : Cx) (h : Nat → Nat) (x : Rg) (L : Nat → Int32) (t : Nat) (ht2 : t ≤ 200) (z : Nat) (hz : z ≤ t) (b : Bool) (hT : Tk x L t z b) (c0 : Nat) (hc : rI x 2 = nI c0) (hc5 : c0 ≤ 512) : Ci l G yX4_readsClause cX4_readsClause 2 .boolean (Rm 5 113) (rw' G h) [.ref (h 0)] x (fun r u => r = bI (clR x L t z c0 b).1 ∧ u = (clR x L t z c0 b).2) := by
  refine Ci.mk (by decide) (Nat.le_of_ble_eq_true rfl) ?_
  intro p e s m below meth c A ls go hw hl
  generalize s.heap = H at hw ⊢
  generalize ([] : List Loc) = locs at hw ⊢
  have hx := go.1
  have hb := go.2.1
  have hl : lv_has ls 2 [(0, .ref (h 0))] := hl
  refine lv_aload_n hx hb dX4_readsClause_0 rfl (lv_at hl 0 rfl) ?_
  refine cal_Vi' (kX4_wordHere l G h x L t ht2 z hz b hT) go hw dX4_readsClause_1 (And.intro q720 (And.intro q4 q723)) q722 qs25 kyX4_wordHere ⟨Nat.le_of_ble_eq_true rfl, Nat.le_of_ble_eq_true rfl⟩ rc_M hl.1 rfl (Nat.le_of_ble_eq_true rfl) ⟨rfl, rfl⟩ ⟨Nat.le_of_ble_eq_true rfl, Nat.le_of_ble_eq_true rfl⟩ (fun H locs hw => ?_)
  refine lv_istore_n (lv' := [(1, .int (kdI L t z)), (0, .ref (h 0))]) hx hb dX4_readsClause_4 rfl hl (by decide) rfl (fun ls hl => ?_)
  refine lv_iload_n hx hb dX4_readsClause_5 rfl (lv_at hl 0 rfl) ?_
  refine lv_iconst (v := (-1)) hx hb dX4_readsClause_6 (by decide) ?_
  refine lv_icmp_ne (tgt := 12) hx hb dX4_readsClause_7 (by decide) (fun h7 => ?_) (fun h7 => ?_)
  · skip
    obtain ⟨k, hk7, hkd⟩ := fstI_of (show ¬ fstI (wdB L t z) 7 = -1 from by rw [← kdI_eq]; exact h7)
    rw [← kdI_eq] at hkd
    have hkc : kdN L t z = k := by rw [kdN, hkd]; exact nI_clamp (by omega)
    rw [hkd] at hl
    have hcl : clY x L t z = (rrC (nxR x L t (nxK L t z)) L t (nxK L t z) k) := by rw [clY, hkc]
    refine lv_aload_n hx hb dX4_readsClause_12 rfl (lv_at hl 1 rfl) ?_
    refine cal_Vv' (kX4_next l G h x L t ht2 (tkE L t z) (tkE_b hz).2 hT.1 hT.2.2.1 hT.2.2.2.2.1) go hw dX4_readsClause_13 (And.intro q702 (And.intro q4 q705)) q704 qs23 kyX4_next ⟨Nat.le_of_ble_eq_true rfl, Nat.le_of_ble_eq_true rfl⟩ rc_M hl.1 rfl (Nat.le_of_ble_eq_true rfl) ⟨rfl, rfl⟩ ⟨Nat.le_of_ble_eq_true rfl, Nat.le_of_ble_eq_true rfl⟩ (fun H locs hw => ?_)
    refine lv_aload_n hx hb dX4_readsClause_16 rfl (lv_at hl 1 rfl) ?_
    refine lv_iload_n hx hb dX4_readsClause_17 rfl (lv_at hl 0 rfl) ?_
    refine cal_Vi' (kX4_readsRest l G h (nxR x L t (nxK L t z)) L t ht2 (nxK L t z) (nxK_t' hz) b hT.zero.nx k hk7) go hw dX4_readsClause_18 (And.intro q724 (And.intro q4 q727)) q726 qs26 kyX4_readsRest ⟨Nat.le_of_ble_eq_true rfl, Nat.le_of_ble_eq_true rfl⟩ rc_M hl.1 rfl (Nat.le_of_ble_eq_true rfl) ⟨rfl, rfl⟩ ⟨Nat.le_of_ble_eq_true rfl, Nat.le_of_ble_eq_true rfl⟩ (fun H locs hw => ?_)
    refine lv_if_ne (tgt := 26) hx hb dX4_readsClause_21 (by decide) (fun h21 => ?_) (fun h21 => ?_)
    · skip
      have h21 := bI_1 h21
      refine lv_aload_n hx hb dX4_readsClause_26 rfl (lv_at hl 1 rfl) ?_
      refine gMi (k := 27) (v := bI b) (by decide) (rrC_tk hT.zero.nx k).2.2.2.1 go hw dX4_readsClause_27 q617 ?_
      refine lv_if_eq (tgt := 38) hx hb dX4_readsClause_30 (by decide) (fun h30 => ?_) (fun h30 => ?_)
      · skip
        have h30 := bI_0 h30
        refine lv_iconst (v := 1) hx hb dX4_readsClause_38 (by decide) ?_
        refine ret_z (wf := rw' G h) go hw dX4_readsClause_39 rfl ?_
        rw [clR, if_neg h7, hcl, if_pos h21, hkc]
        first
        | (rw [if_pos h30]; exact ⟨rfl, rfl⟩)
        | (rw [if_neg (by rw [h30]; exact Bool.false_ne_true)]; exact ⟨rfl, rfl⟩)
      · skip
        have h30 := bI_1 h30
        refine lv_aload_n hx hb dX4_readsClause_33 rfl (lv_at hl 1 rfl) ?_
        refine lv_iload_n hx hb dX4_readsClause_34 rfl (lv_at hl 0 rfl) ?_
        refine cal_Vv' (kX4_does l G h ((rrC (nxR x L t (nxK L t z)) L t (nxK L t z) k).2) c0 ((Tn.rr _ _ _ _ _).1 2 (by decide) |>.trans hc) hc5 k hk7) go hw dX4_readsClause_35 (And.intro q732 (And.intro q4 q735)) q734 qs28 kyX4_does ⟨Nat.le_of_ble_eq_true rfl, Nat.le_of_ble_eq_true rfl⟩ rc_M hl.1 rfl (Nat.le_of_ble_eq_true rfl) ⟨rfl, rfl⟩ ⟨Nat.le_of_ble_eq_true rfl, Nat.le_of_ble_eq_true rfl⟩ (fun H locs hw => ?_)
        refine lv_iconst (v := 1) hx hb dX4_readsClause_38 (by decide) ?_
        refine ret_z (wf := rw' G h) go hw dX4_readsClause_39 rfl ?_
        rw [clR, if_neg h7, hcl, if_pos h21, hkc]
        first
        | (rw [if_pos h30]; exact ⟨rfl, rfl⟩)
        | (rw [if_neg (by rw [h30]; exact Bool.false_ne_true)]; exact ⟨rfl, rfl⟩)
    · skip
      have h21 := bI_0 h21
      refine lv_iconst (v := 0) hx hb dX4_readsClause_24 (by decide) ?_
      refine ret_z (wf := rw' G h) go hw dX4_readsClause_25 rfl ?_
      exact ⟨by rw [clR, if_neg h7, hcl, if_neg (by rw [h21]; exact Bool.false_ne_true)]; rfl, by rw [clR, if_neg h7, hcl, if_neg (by rw [h21]; exact Bool.false_ne_true)]⟩
  · skip
    refine lv_iconst (v := 0) hx hb dX4_readsClause_10 (by decide) ?_
    refine ret_z (wf := rw' G h) go hw dX4_readsClause_11 rfl ?_
    exact ⟨by rw [clR, if_pos h7]; rfl, by rw [clR, if_pos h7]⟩

set_option maxHeartbeats 4000000 in
set_option maxRecDepth 100000 in
theorem kX4_readsAll (l : Launch) (G : Cx) (h : Nat → Nat) (x : Rg) (L : Nat → Int32) (t : Nat) (ht2 : t ≤ 200) (b : Bool) (hB : TB x L t) (hcs : ∀ n, n < 24 → rI (rsS x L t b n).2 2 = nI (cR (rsS x L t b n).2) ∧ cR (rsS x L t b n).2 ≤ 512) : Ci l G yX4_readsAll cX4_readsAll 3 .boolean (Rm 6 134) (rw' G h) [.ref (h 0), .int (bI b)] x (fun r u => r = bI (raC x L t b).1 ∧ u = (raC x L t b).2) := by
  refine Ci.mk (by decide) (Nat.le_of_ble_eq_true rfl) ?_
  intro p e s m below meth c A ls go hw hl
  generalize s.heap = H at hw ⊢
  generalize ([] : List Loc) = locs at hw ⊢
  have hx := go.1
  have hb := go.2.1
  have hl : lv_has ls 3 [(0, .ref (h 0)), (1, .int (bI b))] := hl
  refine lv_aload_n hx hb dX4_readsAll_0 rfl (lv_at hl 0 rfl) ?_
  refine lv_iload_n hx hb dX4_readsAll_1 rfl (lv_at hl 1 rfl) ?_
  refine pMz (bI_z _) go hw dX4_readsAll_2 q617 (fun H locs hw => ?_)
  refine lv_aload_n hx hb dX4_readsAll_5 rfl (lv_at hl 0 rfl) ?_
  refine lv_iconst (v := 0) hx hb dX4_readsAll_6 (by decide) ?_
  refine pM (k := 25) rfl go hw dX4_readsAll_7 q615 (fun H locs hw => ?_)
  refine lv_aload_n hx hb dX4_readsAll_10 rfl (lv_at hl 0 rfl) ?_
  refine lv_iconst (v := 1) hx hb dX4_readsAll_11 (by decide) ?_
  refine pM (k := 26) rfl go hw dX4_readsAll_12 q616 (fun H locs hw => ?_)
  refine lv_aload_n hx hb dX4_readsAll_15 rfl (lv_at hl 0 rfl) ?_
  refine cal_Vv' (kX4_next l G h (qI (qI (qI x 27 (bI b)) 25 0) 26 1) L t ht2 0 (Nat.zero_le _) hB.1 rfl hB.2.1) go hw dX4_readsAll_16 (And.intro q702 (And.intro q4 q705)) q704 qs23 kyX4_next ⟨Nat.le_of_ble_eq_true rfl, Nat.le_of_ble_eq_true rfl⟩ rc_M hl.1 rfl (Nat.le_of_ble_eq_true rfl) ⟨rfl, rfl⟩ ⟨Nat.le_of_ble_eq_true rfl, Nat.le_of_ble_eq_true rfl⟩ (fun H locs hw => ?_)
  have hw : Wd G A s H locs (rw' G h (rsS x L t b 0).2) := hw
  refine lv_aload_n hx hb dX4_readsAll_19 rfl (lv_at hl 0 rfl) ?_
  refine cal_Vi' (kX4_readsClause l G h (rsS x L t b 0).2 L t ht2 (rsS x L t b 0).1 (rsS_t x L t b _) b (rsS_tk hB b _) (cR (rsS x L t b 0).2) (hcs _ (by omega)).1 (hcs _ (by omega)).2) go hw dX4_readsAll_20 (And.intro q716 (And.intro q4 q719)) q718 qs24 kyX4_readsClause ⟨Nat.le_of_ble_eq_true rfl, Nat.le_of_ble_eq_true rfl⟩ rc_M hl.1 rfl (Nat.le_of_ble_eq_true rfl) ⟨rfl, rfl⟩ ⟨Nat.le_of_ble_eq_true rfl, Nat.le_of_ble_eq_true rfl⟩ (fun H locs hw => ?_)
  refine lv_istore_n (lv' := [(2, .int (bI (clR (rsS x L t b 0).2 L t (rsS x L t b 0).1 (cR (rsS x L t b 0).2) b).1)), (0, .ref (h 0)), (1, .int (bI b))]) hx hb dX4_readsAll_23 rfl hl (by decide) rfl (fun ls hl => ?_)
  rw [show (clR (rsS x L t b 0).2 L t (rsS x L t b 0).1 (cR (rsS x L t b 0).2) b).2 = qI (clR (rsS x L t b (0)).2 L t (rsS x L t b (0)).1 (cR (rsS x L t b (0)).2) b).2 26 (nI (0 + 1)) from by exact (qI_self ((clR_26 _ _ _ _ _ _).trans rfl)).symm] at hw
  have hl0 : lv_has ls 3 [(0, .ref (h 0)), (1, .int (bI b)), (2, .int (bI (clR (rsS x L t b (0)).2 L t (rsS x L t b (0)).1 (cR (rsS x L t b (0)).2) b).1))] := lv_to (lv_sub (l' := [(0, .ref (h 0)), (1, .int (bI b)), (2, .int (bI (clR (rsS x L t b 0).2 L t (rsS x L t b 0).1 (cR (rsS x L t b 0).2) b).1))]) hl [1, 2, 0] rfl) (lr (lr (lc (show (bI (clR (rsS x L t b 0).2 L t (rsS x L t b 0).1 (cR (rsS x L t b 0).2) b).1 : Int32) = bI (clR (rsS x L t b (0)).2 L t (rsS x L t b (0)).1 (cR (rsS x L t b (0)).2) b).1 from rfl) rfl)))
  refine loop_up (N := 23) (P := fun i H locs ls => Wd G A s H locs (rw' G h (qI (clR (rsS x L t b (i)).2 L t (rsS x L t b (i)).1 (cR (rsS x L t b (i)).2) b).2 26 (nI (i + 1)))) ∧ lv_has ls 3 [(0, .ref (h 0)), (1, .int (bI b)), (2, .int (bI (clR (rsS x L t b (i)).2 L t (rsS x L t b (i)).1 (cR (rsS x L t b (i)).2) b).1))] ∧ raR L t b (24 - i) i (rsS x L t b (i)).1 (rsS x L t b (i)).2 = raC x L t b) (X := fun H locs ls => W p l e (Rm 6 134) s m ([.ref (h 0), .int (bI b)] : List Value).toArray below meth c H locs 0 0 (MQ below (va_Qi (fun r u => r = bI (raC x L t b).1 ∧ u = (raC x L t b).2) (PostW G (rw' G h) A) A) ([.ref (h 0), .int (bI b)] : List Value).toArray s (Rm 6 134).cells (Rm 6 134).slots A) (F0 m 24 ls [])) ?_ 0 (by omega) H locs ls ⟨hw, hl0, rfl⟩
  clear hl0 hl hw
  intro i hi ih H locs ls hP
  obtain ⟨hw, hl, hE0⟩ := hP
  refine lv_iload_n hx hb dX4_readsAll_24 rfl (lv_at hl 2 rfl) ?_
  refine lv_if_eq (tgt := 94) hx hb dX4_readsAll_25 (by decide) (fun h25 => ?_) (fun h25 => ?_)
  · skip
    have h25 := bI_0 h25
    refine lv_iload_n hx hb dX4_readsAll_94 rfl (lv_at hl 2 rfl) ?_
    refine ret_z (wf := rw' G h) go hw dX4_readsAll_95 (bI_z _).1 ?_
    rw [show 24 - i = (23 - i) + 1 by omega, raR] at hE0
    first
    | (rw [if_neg (by rw [h25]; exact Bool.false_ne_true)] at hE0; exact ⟨by rw [← hE0, h25], by rw [← hE0]⟩)
    | (rw [if_pos h25, if_pos h36b] at hE0; exact ⟨by rw [← hE0, h25], by rw [← hE0]⟩)
  · skip
    have h25 := bI_1 h25
    refine lv_aload_n hx hb dX4_readsAll_28 rfl (lv_at hl 0 rfl) ?_
    refine gMi (k := 24) (v := nI (clT L t (rsS x L t b i).1)) (by decide) ((rI_ne (by decide)).trans (clR_tk (rsS_tk hB b i) _).2.1) go hw dX4_readsAll_29 q614 ?_
    refine lv_aload_n hx hb dX4_readsAll_32 rfl (lv_at hl 0 rfl) ?_
    refine gMi (k := 23) (v := nI t) (by decide) ((rI_ne (by decide)).trans (clR_tk (rsS_tk hB b i) _).1) go hw dX4_readsAll_33 q613 ?_
    refine lv_icmp_ge (tgt := 94) hx hb dX4_readsAll_36 (by decide) (fun h36 => ?_) (fun h36 => ?_)
    · skip
      have h36b : t ≤ (clT L t (rsS x L t b i).1) := by
        rcases Nat.lt_or_ge (clT L t (rsS x L t b i).1) t with q | q
        · exact absurd h36 (nI_ge q (by omega))
        · exact q
      refine lv_iload_n hx hb dX4_readsAll_94 rfl (lv_at hl 2 rfl) ?_
      refine ret_z (wf := rw' G h) go hw dX4_readsAll_95 (bI_z _).1 ?_
      rw [show 24 - i = (23 - i) + 1 by omega, raR] at hE0
      first
      | (rw [if_neg (by rw [h25]; exact Bool.false_ne_true)] at hE0; exact ⟨by rw [← hE0, h25], by rw [← hE0]⟩)
      | (rw [if_pos h25, if_pos h36b] at hE0; exact ⟨by rw [← hE0, h25], by rw [← hE0]⟩)
    · skip
      have h36b : ¬ t ≤ (clT L t (rsS x L t b i).1) := fun q => h36 (nI_le q (by have := clT_t (L := L) (rsS_t x L t b i); omega))
      refine lv_aload_n hx hb dX4_readsAll_39 rfl (lv_at hl 0 rfl) ?_
      refine gMi (k := 26) (v := nI (i + 1)) (by decide) rI_eq go hw dX4_readsAll_40 q616 ?_
      refine lv_bipush (v := 24) hx hb dX4_readsAll_43 (by decide) ?_
      refine lv_icmp_ge (tgt := 66) hx hb dX4_readsAll_45 (by decide) (fun h45 => ?_) (fun h45 => ?_)
      · skip
        have h45b : ¬ i + 1 < 24 := fun q => nI_ge (b := 24) q (by decide) h45
        refine lv_iconst (v := 0) hx hb dX4_readsAll_66 (by decide) ?_
        refine lv_istore_n (lv' := [(2, .int 0), (0, .ref (h 0)), (1, .int (bI b))]) hx hb dX4_readsAll_67 rfl hl (by decide) rfl (fun ls hl => ?_)
        refine lv_iload_n hx hb dX4_readsAll_68 rfl (lv_at hl 0 rfl) ?_
        refine lv_if_eq (tgt := 24) hx hb dX4_readsAll_69 (by decide) (fun _ => ?_) (fun q => absurd q (by decide))
        refine lv_iload_n hx hb dX4_readsAll_24 rfl (lv_at hl 0 rfl) ?_
        refine lv_if_eq (tgt := 94) hx hb dX4_readsAll_25 (by decide) (fun _ => ?_) (fun q => absurd q (by decide))
        refine lv_iload_n hx hb dX4_readsAll_94 rfl (lv_at hl 0 rfl) ?_
        refine ret_z (wf := rw' G h) go hw dX4_readsAll_95 rfl ?_
        rw [show 24 - i = (23 - i) + 1 by omega, raR] at hE0
        rw [if_pos h25, if_neg h36b, if_neg (fun q => by first | exact h59 q.1 | exact h45b q.2)] at hE0
        exact ⟨by rw [← hE0]; rfl, by rw [← hE0]⟩
      · skip
        have h45b : i + 1 < 24 := by
          rcases Nat.lt_or_ge (i + 1) 24 with q | q
          · exact q
          · exact absurd (nI_le (a := 24) q (by omega)) h45
        refine lv_aload_n hx hb dX4_readsAll_48 rfl (lv_at hl 0 rfl) ?_
        refine gM (k := 22) (v := .ref (h 23)) rfl (by decide) rfl go hw dX4_readsAll_49 q612 ?_
        refine lv_aload_n hx hb dX4_readsAll_52 rfl (lv_at hl 0 rfl) ?_
        refine gMi (k := 24) (v := nI (clT L t (rsS x L t b i).1)) (by decide) ((rI_ne (by decide)).trans (clR_tk (rsS_tk hB b i) _).2.1) go hw dX4_readsAll_53 q614 ?_
        refine aM (k := 22) (j := clT L t (rsS x L t b i).1) rfl (by decide) (by show (clT L t (rsS x L t b i).1) < 200; omega) go hw dX4_readsAll_56 ?_
        refine toI (show rA (qI ((clR (rsS x L t b i).2 L t (rsS x L t b i).1 (cR (rsS x L t b i).2) b).2) 26 (nI (i + 1))) 22 (clT L t (rsS x L t b i).1) = rA ((clR (rsS x L t b i).2 L t (rsS x L t b i).1 (cR (rsS x L t b i).2) b).2) 22 (clT L t (rsS x L t b i).1) from congrFun ((rA_qI _ _ _ _).trans rfl) (clT L t (rsS x L t b i).1)) ?_
        refine toI (show rA ((clR (rsS x L t b i).2 L t (rsS x L t b i).1 (cR (rsS x L t b i).2) b).2) 22 (clT L t (rsS x L t b i).1) = L (clT L t (rsS x L t b i).1) from by exact congrFun (clR_tk (rsS_tk hB b i) _).2.2.2.2.1 _) ?_
        refine lv_bipush (v := 59) hx hb dX4_readsAll_57 (by decide) ?_
        refine lv_icmp_ne (tgt := 66) hx hb dX4_readsAll_59 (by decide) (fun h59 => ?_) (fun h59 => ?_)
        · skip
          refine lv_iconst (v := 0) hx hb dX4_readsAll_66 (by decide) ?_
          refine lv_istore_n (lv' := [(2, .int 0), (0, .ref (h 0)), (1, .int (bI b))]) hx hb dX4_readsAll_67 rfl hl (by decide) rfl (fun ls hl => ?_)
          refine lv_iload_n hx hb dX4_readsAll_68 rfl (lv_at hl 0 rfl) ?_
          refine lv_if_eq (tgt := 24) hx hb dX4_readsAll_69 (by decide) (fun _ => ?_) (fun q => absurd q (by decide))
          refine lv_iload_n hx hb dX4_readsAll_24 rfl (lv_at hl 0 rfl) ?_
          refine lv_if_eq (tgt := 94) hx hb dX4_readsAll_25 (by decide) (fun _ => ?_) (fun q => absurd q (by decide))
          refine lv_iload_n hx hb dX4_readsAll_94 rfl (lv_at hl 0 rfl) ?_
          refine ret_z (wf := rw' G h) go hw dX4_readsAll_95 rfl ?_
          rw [show 24 - i = (23 - i) + 1 by omega, raR] at hE0
          rw [if_pos h25, if_neg h36b, if_neg (fun q => by first | exact h59 q.1 | exact h45b q.2)] at hE0
          exact ⟨by rw [← hE0]; rfl, by rw [← hE0]⟩
        · skip
          refine lv_iconst (v := 1) hx hb dX4_readsAll_62 (by decide) ?_
          refine lv_goto (tgt := 67) hx hb dX4_readsAll_63 (by decide) ?_
          refine lv_istore_n (lv' := [(2, .int 1), (0, .ref (h 0)), (1, .int (bI b))]) hx hb dX4_readsAll_67 rfl hl (by decide) rfl (fun ls hl => ?_)
          refine lv_iload_n hx hb dX4_readsAll_68 rfl (lv_at hl 0 rfl) ?_
          refine lv_if_eq (tgt := 24) hx hb dX4_readsAll_69 (by decide) (fun q => absurd q (by decide)) (fun _ => ?_)
          refine lv_aload_n hx hb dX4_readsAll_72 rfl (lv_at hl 1 rfl) ?_
          refine cal_Vv' (kX4_next l G h (qI ((clR (rsS x L t b i).2 L t (rsS x L t b i).1 (cR (rsS x L t b i).2) b).2) 26 (nI (i + 1))) L t ht2 (tkE L t (clT L t (rsS x L t b i).1)) (tkE_b (clT_t (rsS_t x L t b i))).2 (clR_tk (rsS_tk hB b i) _).1 (clR_tk (rsS_tk hB b i) _).2.2.1 (clR_tk (rsS_tk hB b i) _).2.2.2.2.1) go hw dX4_readsAll_73 (And.intro q702 (And.intro q4 q705)) q704 qs23 kyX4_next ⟨Nat.le_of_ble_eq_true rfl, Nat.le_of_ble_eq_true rfl⟩ rc_M hl.1 rfl (Nat.le_of_ble_eq_true rfl) ⟨rfl, rfl⟩ ⟨Nat.le_of_ble_eq_true rfl, Nat.le_of_ble_eq_true rfl⟩ (fun H locs hw => ?_)
          have hw : Wd G A s H locs (rw' G h (rsS x L t b (i + 1)).2) := hw
          refine lv_aload_n hx hb dX4_readsAll_76 rfl (lv_at hl 1 rfl) ?_
          refine cal_Vi' (kX4_readsClause l G h (rsS x L t b (i + 1)).2 L t ht2 (rsS x L t b (i + 1)).1 (rsS_t x L t b _) b (rsS_tk hB b _) (cR (rsS x L t b (i + 1)).2) (hcs _ (by omega)).1 (hcs _ (by omega)).2) go hw dX4_readsAll_77 (And.intro q716 (And.intro q4 q719)) q718 qs24 kyX4_readsClause ⟨Nat.le_of_ble_eq_true rfl, Nat.le_of_ble_eq_true rfl⟩ rc_M hl.1 rfl (Nat.le_of_ble_eq_true rfl) ⟨rfl, rfl⟩ ⟨Nat.le_of_ble_eq_true rfl, Nat.le_of_ble_eq_true rfl⟩ (fun H locs hw => ?_)
          refine lv_istore_n (lv' := [(2, .int (bI (clR (rsS x L t b (i + 1)).2 L t (rsS x L t b (i + 1)).1 (cR (rsS x L t b (i + 1)).2) b).1)), (0, .ref (h 0)), (1, .int (bI b))]) hx hb dX4_readsAll_80 rfl hl (by decide) rfl (fun ls hl => ?_)
          refine lv_aload_n hx hb dX4_readsAll_81 rfl (lv_at hl 1 rfl) ?_
          refine lv_dup hx hb dX4_readsAll_82 rfl ?_
          refine gMi (k := 26) (v := nI (i + 1)) (by decide) ((clR_26 _ _ _ _ _ _).trans rfl) go hw dX4_readsAll_83 q616 ?_
          refine lv_iconst (v := 1) hx hb dX4_readsAll_86 (by decide) ?_
          refine lv_iadd hx hb dX4_readsAll_87 ?_
          refine toI (show (nI (i + 1)) + 1 = nI (i + 1 + 1) from by exact nI_1 (i + 1)) ?_
          refine pM (k := 26) rfl go hw dX4_readsAll_88 q616 (fun H locs hw => ?_)
          refine lv_goto (tgt := 24) hx hb dX4_readsAll_91 (by decide) ?_
          have hE9 : raR L t b (24 - (i + 1)) (i + 1) (rsS x L t b (i + 1)).1 (rsS x L t b (i + 1)).2 = raC x L t b := by
            rw [show 24 - i = (23 - i) + 1 by omega, raR] at hE0
            rw [if_pos h25, if_neg h36b, if_pos (And.intro h59 h45b)] at hE0
            rw [show 24 - (i + 1) = 23 - i by omega]
            exact hE0
          have hl9 : lv_has ls 3 [(0, .ref (h 0)), (1, .int (bI b)), (2, .int (bI (clR (rsS x L t b ((i + 1))).2 L t (rsS x L t b ((i + 1))).1 (cR (rsS x L t b ((i + 1))).2) b).1))] := lv_to (lv_sub (l' := [(0, .ref (h 0)), (1, .int (bI b)), (2, .int (bI (clR (rsS x L t b (i + 1)).2 L t (rsS x L t b (i + 1)).1 (cR (rsS x L t b (i + 1)).2) b).1))]) hl [1, 2, 0] rfl) (lr (lr (lc (show (bI (clR (rsS x L t b (i + 1)).2 L t (rsS x L t b (i + 1)).1 (cR (rsS x L t b (i + 1)).2) b).1 : Int32) = bI (clR (rsS x L t b ((i + 1))).2 L t (rsS x L t b ((i + 1))).1 (cR (rsS x L t b ((i + 1))).2) b).1 from rfl) rfl)))
          rw [show qI ((clR (rsS x L t b (i + 1)).2 L t (rsS x L t b (i + 1)).1 (cR (rsS x L t b (i + 1)).2) b).2) 26 (nI (i + 1 + 1)) = qI (clR (rsS x L t b ((i + 1))).2 L t (rsS x L t b ((i + 1))).1 (cR (rsS x L t b ((i + 1))).2) b).2 26 (nI ((i + 1) + 1)) from by rfl] at hw
          exact ih _ _ _ (by omega) ⟨hw, hl9, hE9⟩

set_option maxHeartbeats 4000000 in
set_option maxRecDepth 100000 in
theorem kX4_fault (l : Launch) (G : Cx) (h : Nat → Nat) (x : Rg) (L : Nat → Int32) (t : Nat) (ht2 : t ≤ 200) (hB : TB x L t) (hcs : ∀ n, n < 24 → rI (rsS x L t false n).2 2 = nI (cR (rsS x L t false n).2) ∧ cR (rsS x L t false n).2 ≤ 512) : Ci l G yX4_fault cX4_fault 1 .int (Rm 7 156) (rw' G h) [.ref (h 0)] x (fun r u => r = (if (raC x L t false).1 = true then -1 else rI (raC x L t false).2 24) ∧ u = (raC x L t false).2) := by
  refine Ci.mk (by decide) (Nat.le_of_ble_eq_true rfl) ?_
  intro p e s m below meth c A ls go hw hl
  generalize s.heap = H at hw ⊢
  generalize ([] : List Loc) = locs at hw ⊢
  have hx := go.1
  have hb := go.2.1
  have hl : lv_has ls 1 [(0, .ref (h 0))] := hl
  refine lv_aload_n hx hb dX4_fault_0 rfl (lv_at hl 0 rfl) ?_
  refine lv_iconst (v := 0) hx hb dX4_fault_1 (by decide) ?_
  refine cal_Vi' (kX4_readsAll l G h x L t ht2 false hB hcs) go hw dX4_fault_2 (And.intro q698 (And.intro q4 q701)) q700 qs22 kyX4_readsAll ⟨Nat.le_of_ble_eq_true rfl, Nat.le_of_ble_eq_true rfl⟩ rc_M hl.1 rfl (Nat.le_of_ble_eq_true rfl) ⟨rfl, rfl⟩ ⟨Nat.le_of_ble_eq_true rfl, Nat.le_of_ble_eq_true rfl⟩ (fun H locs hw => ?_)
  refine lv_if_eq (tgt := 12) hx hb dX4_fault_5 (by decide) (fun h5 => ?_) (fun h5 => ?_)
  · skip
    have h5 := bI_0 h5
    refine lv_aload_n hx hb dX4_fault_12 rfl (lv_at hl 0 rfl) ?_
    refine gMi (k := 24) (v := rI ((raC x L t false).2) 24) (by decide) rfl go hw dX4_fault_13 q614 ?_
    refine ret_i (wf := rw' G h) go hw dX4_fault_16 ?_
    exact ⟨by first | (rw [if_pos h5]; done) | (rw [if_neg (by rw [h5]; exact Bool.false_ne_true)]; done), rfl⟩
  · skip
    have h5 := bI_1 h5
    refine lv_iconst (v := (-1)) hx hb dX4_fault_8 (by decide) ?_
    refine lv_goto (tgt := 16) hx hb dX4_fault_9 (by decide) ?_
    refine ret_i (wf := rw' G h) go hw dX4_fault_16 ?_
    exact ⟨by first | (rw [if_pos h5]; done) | (rw [if_neg (by rw [h5]; exact Bool.false_ne_true)]; done), rfl⟩

set_option maxHeartbeats 4000000 in
set_option maxRecDepth 100000 in
theorem kX4_tell (l : Launch) (G : Cx) (h : Nat → Nat) (x : Rg) (L : Nat → Int32) (t : Nat) (ht2 : t ≤ 200) (hB : TB x L t) (hcs : ∀ n, n < 24 → rI (rsS x L t false n).2 2 = nI (cR (rsS x L t false n).2) ∧ cR (rsS x L t false n).2 ≤ 512) (hB1 : TB (raC x L t false).2 L t) (hcs1 : ∀ n, n < 24 → rI (rsS (raC x L t false).2 L t true n).2 2 = nI (cR (rsS (raC x L t false).2 L t true n).2) ∧ cR (rsS (raC x L t false).2 L t true n).2 ≤ 512) : Ci l G yX4_tell cX4_tell 1 .int (Rm 7 156) (rw' G h) [.ref (h 0)] x (fun r u => r = (if (raC x L t false).1 = true then rI (raC (raC x L t false).2 L t true).2 26 else -4) ∧ u = (if (raC x L t false).1 = true then qI (raC (raC x L t false).2 L t true).2 23 0 else (raC x L t false).2)) := by
  refine Ci.mk (by decide) (Nat.le_of_ble_eq_true rfl) ?_
  intro p e s m below meth c A ls go hw hl
  generalize s.heap = H at hw ⊢
  generalize ([] : List Loc) = locs at hw ⊢
  have hx := go.1
  have hb := go.2.1
  have hl : lv_has ls 1 [(0, .ref (h 0))] := hl
  refine lv_aload_n hx hb dX4_tell_0 rfl (lv_at hl 0 rfl) ?_
  refine lv_iconst (v := 0) hx hb dX4_tell_1 (by decide) ?_
  refine cal_Vi' (kX4_readsAll l G h x L t ht2 false hB hcs) go hw dX4_tell_2 (And.intro q698 (And.intro q4 q701)) q700 qs22 kyX4_readsAll ⟨Nat.le_of_ble_eq_true rfl, Nat.le_of_ble_eq_true rfl⟩ rc_M hl.1 rfl (Nat.le_of_ble_eq_true rfl) ⟨rfl, rfl⟩ ⟨Nat.le_of_ble_eq_true rfl, Nat.le_of_ble_eq_true rfl⟩ (fun H locs hw => ?_)
  refine lv_if_ne (tgt := 11) hx hb dX4_tell_5 (by decide) (fun h5 => ?_) (fun h5 => ?_)
  · skip
    have h5 := bI_1 h5
    refine lv_aload_n hx hb dX4_tell_11 rfl (lv_at hl 0 rfl) ?_
    refine lv_iconst (v := 1) hx hb dX4_tell_12 (by decide) ?_
    refine cal_Vi' (kX4_readsAll l G h ((raC x L t false).2) L t ht2 true hB1 hcs1) go hw dX4_tell_13 (And.intro q698 (And.intro q4 q701)) q700 qs22 kyX4_readsAll ⟨Nat.le_of_ble_eq_true rfl, Nat.le_of_ble_eq_true rfl⟩ rc_M hl.1 rfl (Nat.le_of_ble_eq_true rfl) ⟨rfl, rfl⟩ ⟨Nat.le_of_ble_eq_true rfl, Nat.le_of_ble_eq_true rfl⟩ (fun H locs hw => ?_)
    refine lv_pop hx hb dX4_tell_16 rfl ?_
    refine lv_aload_n hx hb dX4_tell_17 rfl (lv_at hl 0 rfl) ?_
    refine lv_iconst (v := 0) hx hb dX4_tell_18 (by decide) ?_
    refine pM (k := 23) rfl go hw dX4_tell_19 q613 (fun H locs hw => ?_)
    refine lv_aload_n hx hb dX4_tell_22 rfl (lv_at hl 0 rfl) ?_
    refine gMi (k := 26) (v := rI ((raC ((raC x L t false).2) L t true).2) 26) (by decide) ((rI_ne (by decide)).trans rfl) go hw dX4_tell_23 q616 ?_
    refine ret_i (wf := rw' G h) go hw dX4_tell_26 ?_
    first | (rw [if_pos h5, if_pos h5]; exact ⟨rfl, rfl⟩) | (rw [if_neg (by rw [h5]; exact Bool.false_ne_true), if_neg (by rw [h5]; exact Bool.false_ne_true)]; exact ⟨rfl, rfl⟩)
  · skip
    have h5 := bI_0 h5
    refine lv_bipush (v := (-4)) hx hb dX4_tell_8 (by decide) ?_
    refine ret_i (wf := rw' G h) go hw dX4_tell_10 ?_
    first | (rw [if_pos h5, if_pos h5]; exact ⟨rfl, rfl⟩) | (rw [if_neg (by rw [h5]; exact Bool.false_ne_true), if_neg (by rw [h5]; exact Bool.false_ne_true)]; exact ⟨rfl, rfl⟩)
