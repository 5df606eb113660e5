/-! ===== the text is read alike ===== -/
def ar (k : Nat) : Nat := lenJ.getD (fmJ k) 0
def itK (L : Nat → Int32) (t s : Nat) : Nat → Nat
  | 0 => s
  | n + 1 => nxK L t (itK L t s n)
def rrB (L : Nat → Int32) (t z k : Nat) : Bool :=
  if k = 0 then true else if k = 1 then (okN L t z 0 7 && okN L t (nxK L t z) 0 9999) else if k = 2 then okN L t z 1 9 else if k = 4 then (okN L t z 0 5 && okN L t (nxK L t z) 0 7)
  else if k = 5 then ((okN L t z 0 5 && okN L t (nxK L t z) 0 7) && okN L t (nxK L t (nxK L t z)) 0 9999) else okN L t z 0 5
def clG (L : Nat → Int32) (t z : Nat) : Bool := !decide (kdI L t z = -1) && rrB L t (nxK L t z) (kdN L t z)
theorem kd_of {L : Nat → Int32} {t z : Nat} (h : ¬ kdI L t z = -1) : kdN L t z < 7 ∧ kdI L t z = nI (kdN L t z) := by
  rw [kdI_eq] at h
  obtain ⟨k, hk, e⟩ := fstI_of h
  have : kdN L t z = k := by rw [kdN, kdI_eq, e, nI_clamp (by omega)]
  rw [this, kdI_eq]; exact ⟨hk, e⟩
theorem clG_t {L : Nat → Int32} {t z : Nat} (h : clG L t z = true) : ¬ kdI L t z = -1 ∧ rrB L t (nxK L t z) (kdN L t z) = true := by
  simp only [clG, Bool.and_eq_true, Bool.not_eq_true', decide_eq_false_iff_not] at h; exact h
theorem kd_lt {L : Nat → Int32} {t z : Nat} (hz : z ≤ t) (ht : t ≤ 200) (h : ¬ kdI L t z = -1) : z < t := by
  rcases Nat.lt_or_ge z t with q | q
  · exact q
  · exfalso
    have e : z = t := by omega
    subst e
    refine h ?_
    rw [kdI_eq]
    refine fstI_no (fun w hw => ?_)
    have h3 := tab3 w hw
    have e2 : tkE L z z = z := by rw [tkE, if_neg (Nat.lt_irrefl z)]
    rw [wdB, e2, nI_sb (Nat.le_refl z), Nat.sub_self, decide_eq_false (fun q => by have := (nI_eq (by omega) (by omega)).mp q; omega)]
    rfl
theorem itK_le {L : Nat → Int32} {t s : Nat} (h : s ≤ t) : ∀ n, s ≤ itK L t s n ∧ itK L t s n ≤ t
  | 0 => ⟨Nat.le_refl _, h⟩
  | n + 1 => by
    have ih := itK_le h n (L := L)
    have := nxK_b (L := L) ih.2
    exact ⟨by show s ≤ nxK L t (itK L t s n); omega, this.2⟩
theorem rrT_ge {L : Nat → Int32} {t z k : Nat} (h : z ≤ t) : z ≤ rrT L t z k := by
  have h1 := nxK_b (L := L) h
  have h2 := nxK_b (L := L) h1.2
  have h3 := nxK_b (L := L) h2.2
  unfold rrT n1T n2T
  repeat' split
  all_goals omega
/-- a clause moves on -/
theorem clT_ge {L : Nat → Int32} {t z : Nat} (h : z ≤ t) : z ≤ clT L t z := by
  unfold clT
  split
  · exact Nat.le_refl _
  · have := nxK_b (L := L) h
    have := rrT_ge (L := L) (k := kdN L t z) this.2
    omega
theorem clT_gt {L : Nat → Int32} {t z : Nat} (h : z ≤ t) (ht : t ≤ 200) (hk : ¬ kdI L t z = -1) : z < clT L t z := by
  unfold clT
  rw [if_neg hk]
  have h1 := nxK_s (L := L) (kd_lt h ht hk)
  have h2 := nxK_b (L := L) h
  have := rrT_ge (L := L) (k := kdN L t z) h2.2
  omega
/-- the road of reading: whether there is no fault, where it ended, how many clauses -/
def sk (L : Nat → Int32) (t : Nat) : Nat → Nat → Nat → Bool × Nat × Nat
  | 0, n, z => (false, z, n)
  | m + 1, n, z =>
    if clG L t z = true then
      if t ≤ clT L t z then (true, clT L t z, n + 1)
      else if L (clT L t z) = 59 ∧ n + 1 < 24 then sk L t m (n + 1) (nxK L t (clT L t z))
      else (false, clT L t z, n + 1)
    else (false, clT L t z, n)
theorem sk_n {L : Nat → Int32} {t : Nat} (ht : t ≤ 200) : ∀ m n z, z ≤ t → n ≤ (sk L t m n z).2.2 ∧ (sk L t m n z).2.2 ≤ n + (t - z) ∧ (sk L t m n z).2.2 ≤ n + m
  | 0, n, z, _ => by show n ≤ n ∧ n ≤ n + (t - z) ∧ n ≤ n + 0; omega
  | m + 1, n, z, hz => by
    rw [sk]
    by_cases g : clG L t z = true
    · rw [if_pos g]
      have h0 := kd_lt hz ht (clG_t g).1
      have h1 := clT_gt hz ht (clG_t g).1
      have h2 := clT_t (L := L) hz
      by_cases g1 : t ≤ clT L t z
      · rw [if_pos g1]; show n ≤ n + 1 ∧ n + 1 ≤ n + (t - z) ∧ n + 1 ≤ n + (m + 1); omega
      · rw [if_neg g1]
        by_cases g2 : L (clT L t z) = 59 ∧ n + 1 < 24
        · rw [if_pos g2]
          have h3 := nxK_b (L := L) h2
          have ih := sk_n ht m (n + 1) (nxK L t (clT L t z)) h3.2 (L := L)
          omega
        · rw [if_neg g2]; show n ≤ n + 1 ∧ n + 1 ≤ n + (t - z) ∧ n + 1 ≤ n + (m + 1); omega
    · rw [if_neg g]; show n ≤ n ∧ n ≤ n + (t - z) ∧ n ≤ n + (m + 1); omega
/-! the class's clause -/
theorem bd_eq {L : Nat → Int32} {t s k i : Nat} {lo hi : Int32} (h1 : lsI (chB (fmJ k) i) = lo) (h2 : moI (chB (fmJ k) i) = hi) : bdB L t s k i = !okN L t s lo hi := by
  unfold bdB okN
  rw [h1, h2]
  by_cases g : nuV L t s ≤ hi
  · rw [decide_eq_true g, decide_eq_false (fun z => Int32.not_le.mpr z g)]; simp
  · rw [decide_eq_false g, decide_eq_true (Int32.not_le.mp g)]; simp
theorem fst1 (p : Nat → Bool) : fstN p 1 = if p 0 = true then 0 else 1 := by simp [fstN]
theorem fst2 (p : Nat → Bool) : fstN p 2 = if p 0 = true then 0 else if p 1 = true then 1 else 2 := by
  cases h0 : p 0 <;> cases h1 : p 1 <;> simp [fstN, h0, h1]
theorem fst3 (p : Nat → Bool) : fstN p 3 = if p 0 = true then 0 else if p 1 = true then 1 else if p 2 = true then 2 else 3 := by
  cases h0 : p 0 <;> cases h1 : p 1 <;> cases h2 : p 2 <;> simp [fstN, h0, h1, h2]
theorem fstN_le {p : Nat → Bool} : ∀ {n : Nat}, fstN p n ≤ n
  | 0 => Nat.le_refl _
  | n + 1 => by
    have := fstN_le (p := p) (n := n)
    rw [fstN]
    repeat' split
    all_goals omega
section TP
variable (x : Sg) (t cl z : Nat)
theorem tcS_1 (k : Nat) : ∀ n, (tcS x t cl z k n).1 = itK (sA x 1 0) t (nxK (sA x 1 0) t z) n
  | 0 => rfl
  | n + 1 => by
    show nxK (sA x 1 0) t (tcS x t cl z k n).1 = nxK (sA x 1 0) t (itK (sA x 1 0) t (nxK (sA x 1 0) t z) n)
    rw [tcS_1 k n]
theorem tcN1 {k : Nat} {lo hi : Int32} (ha : lenJ.getD (fmJ k) 0 = 1) (h1 : lsI (chB (fmJ k) 0) = lo) (h2 : moI (chB (fmJ k) 0) = hi) : tcN x t cl z k = if okN (sA x 1 0) t (nxK (sA x 1 0) t z) lo hi = true then 1 else 0 := by
  rw [tcN, ha, fst1]
  have p0 : bdB (sA x 1 0) t (tcS x t cl z k 0).1 k 0 = !okN (sA x 1 0) t (nxK (sA x 1 0) t z) lo hi := bd_eq h1 h2
  rw [p0]
  cases okN (sA x 1 0) t (nxK (sA x 1 0) t z) lo hi <;> rfl
theorem tcN2 {k : Nat} {lo hi lo' hi' : Int32} (ha : lenJ.getD (fmJ k) 0 = 2) (h1 : lsI (chB (fmJ k) 0) = lo) (h2 : moI (chB (fmJ k) 0) = hi) (h3 : lsI (chB (fmJ k) 1) = lo') (h4 : moI (chB (fmJ k) 1) = hi') : tcN x t cl z k = if okN (sA x 1 0) t (nxK (sA x 1 0) t z) lo hi = true then (if okN (sA x 1 0) t (nxK (sA x 1 0) t (nxK (sA x 1 0) t z)) lo' hi' = true then 2 else 1) else 0 := by
  rw [tcN, ha, fst2]
  have p0 : bdB (sA x 1 0) t (tcS x t cl z k 0).1 k 0 = !okN (sA x 1 0) t (nxK (sA x 1 0) t z) lo hi := bd_eq h1 h2
  have p1 : bdB (sA x 1 0) t (tcS x t cl z k 1).1 k 1 = !okN (sA x 1 0) t (nxK (sA x 1 0) t (nxK (sA x 1 0) t z)) lo' hi' := bd_eq h3 h4
  rw [p0, p1]
  cases okN (sA x 1 0) t (nxK (sA x 1 0) t z) lo hi <;> cases okN (sA x 1 0) t (nxK (sA x 1 0) t (nxK (sA x 1 0) t z)) lo' hi' <;> rfl
theorem tcN3 : tcN x t cl z 5 = if okN (sA x 1 0) t (nxK (sA x 1 0) t z) 0 5 = true then (if okN (sA x 1 0) t (nxK (sA x 1 0) t (nxK (sA x 1 0) t z)) 0 7 = true then (if okN (sA x 1 0) t (nxK (sA x 1 0) t (nxK (sA x 1 0) t (nxK (sA x 1 0) t z))) 0 9999 = true then 3 else 2) else 1) else 0 := by
  rw [tcN, show lenJ.getD (fmJ 5) 0 = 3 from rfl, fst3]
  have p0 : bdB (sA x 1 0) t (tcS x t cl z 5 0).1 5 0 = !okN (sA x 1 0) t (nxK (sA x 1 0) t z) 0 5 := bd_eq (by decide) (by decide)
  have p1 : bdB (sA x 1 0) t (tcS x t cl z 5 1).1 5 1 = !okN (sA x 1 0) t (nxK (sA x 1 0) t (nxK (sA x 1 0) t z)) 0 7 := bd_eq (by decide) (by decide)
  have p2 : bdB (sA x 1 0) t (tcS x t cl z 5 2).1 5 2 = !okN (sA x 1 0) t (nxK (sA x 1 0) t (nxK (sA x 1 0) t (nxK (sA x 1 0) t z))) 0 9999 := bd_eq (by decide) (by decide)
  rw [p0, p1, p2]
  cases okN (sA x 1 0) t (nxK (sA x 1 0) t z) 0 5 <;> cases okN (sA x 1 0) t (nxK (sA x 1 0) t (nxK (sA x 1 0) t z)) 0 7 <;> cases okN (sA x 1 0) t (nxK (sA x 1 0) t (nxK (sA x 1 0) t (nxK (sA x 1 0) t z))) 0 9999 <;> rfl
theorem tc_k (L : Nat → Int32) (hL : sA x 1 0 = L) {k : Nat} (hk : k < 7) : (decide (tcN x t cl z k = ar k) = rrB L t (nxK L t z) k) ∧ itK L t (nxK L t z) (tcN x t cl z k) = rrT L t (nxK L t z) k := by
  subst hL
  generalize hs : nxK (sA x 1 0) t z = s
  rcases (show k = 0 ∨ k = 1 ∨ k = 2 ∨ k = 3 ∨ k = 4 ∨ k = 5 ∨ k = 6 by omega) with rfl | rfl | rfl | rfl | rfl | rfl | rfl
  · exact ⟨rfl, rfl⟩
  · rw [tcN2 x t cl z (k := 1) rfl rfl rfl rfl rfl, show ar 1 = 2 from rfl, hs]
    simp only [rrB, rrT, n2T]
    cases h0 : okN (sA x 1 0) t s (lsI (chB (fmJ 1) 0)) (moI (chB (fmJ 1) 0)) <;> cases h1 : okN (sA x 1 0) t (nxK (sA x 1 0) t s) (lsI (chB (fmJ 1) 1)) (moI (chB (fmJ 1) 1)) <;>
      (rw [show lsI (chB (fmJ 1) 0) = 0 from by decide, show moI (chB (fmJ 1) 0) = 7 from by decide] at h0; rw [show lsI (chB (fmJ 1) 1) = 0 from by decide, show moI (chB (fmJ 1) 1) = 9999 from by decide] at h1; simp [h0, h1, itK])
  · rw [tcN1 x t cl z (k := 2) (lo := 1) (hi := 9) rfl (by decide) (by decide), show ar 2 = 1 from rfl, hs]
    simp only [rrB, rrT, n1T]
    cases h0 : okN (sA x 1 0) t s 1 9 <;> simp [itK]
  · rw [tcN1 x t cl z (k := 3) (lo := 0) (hi := 5) rfl (by decide) (by decide), show ar 3 = 1 from rfl, hs]
    simp only [rrB, rrT, n1T]
    cases h0 : okN (sA x 1 0) t s 0 5 <;> simp [itK]
  · rw [tcN2 x t cl z (k := 4) (lo := 0) (hi := 5) (lo' := 0) (hi' := 7) rfl (by decide) (by decide) (by decide) (by decide), show ar 4 = 2 from rfl, hs]
    simp only [rrB, rrT, n2T]
    cases h0 : okN (sA x 1 0) t s 0 5 <;> cases h1 : okN (sA x 1 0) t (nxK (sA x 1 0) t s) 0 7 <;> simp [itK]
  · rw [tcN3 x t cl z, show ar 5 = 3 from rfl, hs]
    simp only [rrB, rrT, n2T]
    cases h0 : okN (sA x 1 0) t s 0 5 <;> cases h1 : okN (sA x 1 0) t (nxK (sA x 1 0) t s) 0 7 <;> cases h2 : okN (sA x 1 0) t (nxK (sA x 1 0) t (nxK (sA x 1 0) t s)) 0 9999 <;> simp [itK]
  · rw [tcN1 x t cl z (k := 6) (lo := 0) (hi := 5) rfl (by decide) (by decide), show ar 6 = 1 from rfl, hs]
    simp only [rrB, rrT, n1T]
    cases h0 : okN (sA x 1 0) t s 0 5 <;> simp [itK]
theorem tc_G (L : Nat → Int32) (hL : sA x 1 0 = L) : (tcC x t cl z).1 = clG L t z ∧ tcT x t cl z = clT L t z := by
  subst hL
  unfold tcC tcT clG clT
  by_cases q : kdI (sA x 1 0) t z = -1
  · rw [if_pos q, if_pos q, if_pos q, decide_eq_true q]; exact ⟨rfl, rfl⟩
  · rw [if_neg q, if_neg q, if_neg q, decide_eq_false q]
    have h := tc_k x t cl z (sA x 1 0) rfl (kd_of q).1
    refine ⟨?_, ?_⟩
    · rw [← h.1]; rfl
    · rw [← h.2]; exact tcS_1 x t cl z _ _
theorem tcS_2 (k : Nat) : ∀ n, sA (tcS x t cl z k n).2 1 2 = upd (sA x 1 2) cl (nI k)
  | 0 => (stT_A _ _ _ _ _).trans sA_eq
  | n + 1 => ((stT_A _ _ _ _ _).trans (sA_ne (by decide))).trans (tcS_2 k n)
theorem tcS_3 (k : Nat) : ∀ n j, sA (tcS x t cl z k n).2 1 3 j = if cl * 3 ≤ j ∧ j < cl * 3 + n then nuV (sA x 1 0) t (tcS x t cl z k (j - cl * 3)).1 else sA x 1 3 j
  | 0, j => by
    rw [if_neg (by omega)]
    exact congrFun ((stT_A _ _ _ _ _).trans (sA_ne (by decide))) j
  | n + 1, j => by
    have e : sA (tcS x t cl z k (n + 1)).2 1 3 j = upd (sA (tcS x t cl z k n).2 1 3) (cl * 3 + n) (nuV (sA x 1 0) t (tcS x t cl z k n).1) j := congrFun ((stT_A _ _ _ _ _).trans sA_eq) j
    rw [e]
    by_cases g : j = cl * 3 + n
    · subst g
      rw [pk_us, if_pos (by omega), Nat.add_sub_cancel_left]
    · rw [pk_un g, tcS_3 k n j]
      by_cases q : cl * 3 ≤ j ∧ j < cl * 3 + n
      · rw [if_pos q, if_pos (by omega)]
      · rw [if_neg q, if_neg (by omega)]
theorem tcS_A (k : Nat) (o k' : Nat) (h : ¬ (o = 1 ∧ (k' = 2 ∨ k' = 3))) : ∀ n, sA (tcS x t cl z k n).2 o k' = sA x o k'
  | 0 => (stT_A _ _ _ _ _).trans (sA_ne (by omega))
  | n + 1 => ((stT_A _ _ _ _ _).trans (sA_ne (by omega))).trans (tcS_A k o k' h n)
end TP
/-- what reading from clause n on leaves alone -/
def Px (y u : Sg) (n : Nat) : Prop := (∀ o k, ¬ (o = 1 ∧ (k = 4 ∨ k = 5 ∨ k = 6)) → sI u o k = sI y o k) ∧ (∀ o k, ¬ (o = 1 ∧ (k = 2 ∨ k = 3)) → sA u o k = sA y o k) ∧ (∀ j, j < n → sA u 1 2 j = sA y 1 2 j) ∧ (∀ j, j < n * 3 → sA u 1 3 j = sA y 1 3 j) ∧ sN u = sN y
theorem Px.rf {y : Sg} {n : Nat} : Px y y n := ⟨fun _ _ _ => rfl, fun _ _ _ => rfl, fun _ _ => rfl, fun _ _ => rfl, rfl⟩
theorem Px.tr {y u v : Sg} {n n' : Nat} (h : Px y u n) (g : Px u v n') (hn : n ≤ n') : Px y v n :=
  ⟨fun o k q => (g.1 o k q).trans (h.1 o k q), fun o k q => (g.2.1 o k q).trans (h.2.1 o k q), fun j q => (g.2.2.1 j (by omega)).trans (h.2.2.1 j q), fun j q => (g.2.2.2.1 j (by omega)).trans (h.2.2.2.1 j q), g.2.2.2.2.trans h.2.2.2.2⟩
theorem Px.p4 (y : Sg) (n : Nat) (v : Int32) : Px y (pI y 1 4 v) n := ⟨fun o k q => sI_ne (by omega), fun _ _ _ => rfl, fun _ _ => rfl, fun _ _ => rfl, rfl⟩
theorem Px.st (y : Sg) (n t s : Nat) : Px y (stT y t s) n := ⟨fun o k q => stT_I _ _ _ _ _ (by omega), fun _ _ _ => rfl, fun _ _ => rfl, fun _ _ => rfl, rfl⟩
theorem Px.tc (y : Sg) (t n z : Nat) : Px y (tcC y t n z).2 n := by
  unfold tcC
  by_cases q : kdI (sA y 1 0) t z = -1
  · rw [if_pos q]; exact Px.rf
  · rw [if_neg q]
    refine ⟨fun o k h => tcS_I _ _ _ _ _ _ _ (by omega) _, fun o k h => tcS_A y t n z _ o k h _, fun j h => ?_, fun j h => ?_, tcS_N _ _ _ _ _ _⟩
    · show sA (tcS y t n z _ _).2 1 2 j = _
      rw [tcS_2, pk_un (by omega)]
    · show sA (tcS y t n z _ _).2 1 3 j = _
      rw [tcS_3, if_neg (by omega)]
/-- the row of clause n -/
def Rw (L : Nat → Int32) (t : Nat) (u : Sg) (n z : Nat) : Prop := sA u 1 2 n = nI (kdN L t z) ∧ ∀ i, i < ar (kdN L t z) → sA u 1 3 (n * 3 + i) = nuV L t (itK L t (nxK L t z) i)
def RW (L : Nat → Int32) (t : Nat) (u : Sg) : Nat → Nat → Nat → Prop
  | 0, _, _ => True
  | m + 1, n, z => clG L t z = true → Rw L t u n z ∧ (¬ t ≤ clT L t z → (L (clT L t z) = 59 ∧ n + 1 < 24) → RW L t u m (n + 1) (nxK L t (clT L t z)))
theorem Rw.tc {y : Sg} {L : Nat → Int32} {t n z : Nat} (hL : sA y 1 0 = L) (hg : clG L t z = true) : Rw L t (tcC y t n z).2 n z := by
  have h := clG_t hg
  have hk := kd_of h.1
  have hN := (tc_k y t n z L hL hk.1).1
  rw [h.2] at hN
  have hN := decide_eq_true_eq.mp hN
  subst hL
  unfold tcC
  rw [if_neg h.1]
  refine ⟨?_, fun i hi => ?_⟩
  · show sA (tcS y t n z (kdN (sA y 1 0) t z) _).2 1 2 n = _
    rw [tcS_2, pk_us]
  · show sA (tcS y t n z (kdN (sA y 1 0) t z) (tcN y t n z (kdN (sA y 1 0) t z))).2 1 3 (n * 3 + i) = _
    rw [hN, tcS_3, if_pos (by omega), Nat.add_sub_cancel_left, tcS_1]
theorem ar_3 {k : Nat} (h : k < 7) : ar k ≤ 3 := fmJ_3 h
theorem Rw.px {L : Nat → Int32} {t n z : Nat} {u v : Sg} (h : Rw L t u n z) (hk : kdN L t z < 7) (p : Px u v (n + 1)) : Rw L t v n z :=
  ⟨(p.2.2.1 n (by omega)).trans h.1, fun i hi => (p.2.2.2.1 _ (by have := ar_3 hk; omega)).trans (h.2 i hi)⟩
theorem pa_sim (L : Nat → Int32) (t : Nat) : ∀ m n z y, n + m = 24 → sA y 1 0 = L → sI y 1 4 = nI n →
    (paR L t m n z y).1 = (if (sk L t m n z).1 = true then -1 else nI (sk L t m n z).2.1) ∧ sI (paR L t m n z y).2 1 4 = nI (sk L t m n z).2.2 ∧ Px y (paR L t m n z y).2 n ∧ RW L t (paR L t m n z y).2 m n z
  | 0, n, z, y, _, _, h4 => ⟨rfl, h4, Px.rf, trivial⟩
  | m + 1, n, z, y, hm, hL, h4 => by
    have G := tc_G y t n z L hL
    have P1 : Px y (tcC y t n z).2 n := Px.tc y t n z
    have h41 : sI (tcC y t n z).2 1 4 = nI n := (tcC_I _ _ _ _ _ _ (by decide)).trans h4
    have hL1 : sA (tcC y t n z).2 1 0 = L := (tcC_L _ _ _ _).trans hL
    rw [paR, sk, G.1, G.2, RW]
    by_cases g : clG L t z = true
    · rw [if_pos g, if_pos g]
      have R1 : Rw L t (tcC y t n z).2 n z := Rw.tc hL g
      have hk := (kd_of (clG_t g).1).1
      by_cases g1 : t ≤ clT L t z
      · rw [if_pos g1, if_pos g1]
        exact ⟨rfl, sI_eq, P1.tr (Px.p4 _ n _) (Nat.le_refl _), fun _ => ⟨R1.px hk (Px.p4 _ _ _), fun q => absurd g1 q⟩⟩
      · rw [if_neg g1, if_neg g1]
        by_cases g2 : L (clT L t z) = 59 ∧ n + 1 < 24
        · rw [if_pos g2, if_pos ⟨g2.1, by omega⟩]
          have ih := pa_sim L t m (n + 1) (nxK L t (clT L t z)) (stT (pI (tcC y t n z).2 1 4 (nI (n + 1))) t (nxK L t (clT L t z))) (by omega) hL1 ((stT_I _ _ _ _ _ (by decide)).trans sI_eq)
          have P2 : Px (tcC y t n z).2 (stT (pI (tcC y t n z).2 1 4 (nI (n + 1))) t (nxK L t (clT L t z))) (n + 1) := (Px.p4 _ _ _).tr (Px.st _ _ _ _) (Nat.le_refl _)
          have P3 := P2.tr ih.2.2.1 (Nat.le_refl _)
          exact ⟨ih.1, ih.2.1, P1.tr P3 (by omega), fun _ => ⟨R1.px hk P3, fun _ _ => ih.2.2.2⟩⟩
        · rw [if_neg g2, if_neg (fun q => g2 ⟨q.1, by omega⟩)]
          exact ⟨rfl, sI_eq, P1.tr (Px.p4 _ n _) (Nat.le_refl _), fun _ => ⟨R1.px hk (Px.p4 _ _ _), fun _ q => absurd q g2⟩⟩
    · rw [if_neg g, if_neg g]
      exact ⟨rfl, h41, P1, fun q => absurd q g⟩
