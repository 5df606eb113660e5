/-! ===== what is asked and answered, side by side ===== -/
def Gd (x : Sg) (y : Rg) (c T : Nat) : Prop := Rel x y c ∧ Inv y c T ∧ c ≤ sN x
def Sm (y : Rg) (c T : Nat) (p : Int32 × Sg) (q : Int32 × Rg) : Prop := p.1 = q.1 ∧ rI q.2 23 = rI y 23 ∧ ∃ c' T', c' ≤ c + 1 ∧ T' ≤ T + 1 ∧ Gd p.2 q.2 c' T'
theorem in6 {a : Int32} (q : inB 6 a = true) : ∃ d, d < 6 ∧ a = nI d ∧ a.toNatClampNeg = d := by
  obtain ⟨d, hd, rfl⟩ := inB_of (n := 6) q rfl (by decide)
  exact ⟨d, hd, rfl, nI_clamp (by omega)⟩
theorem in8 {a : Int32} (q : inB 8 a = true) : ∃ d, d < 8 ∧ a = nI d ∧ a.toNatClampNeg = d := by
  obtain ⟨d, hd, rfl⟩ := inB_of (n := 8) q rfl (by decide)
  exact ⟨d, hd, rfl, nI_clamp (by omega)⟩
theorem in2 {a : Int32} (q : inB 2 a = true) : ∃ d, d < 2 ∧ a = nI d ∧ a.toNatClampNeg = d := by
  obtain ⟨d, hd, rfl⟩ := inB_of (n := 2) q rfl (by decide)
  exact ⟨d, hd, rfl, nI_clamp (by omega)⟩
theorem inL_nn (n a b : Int32) : inL n.toInt64 a.toInt64 b.toInt64 = true ↔ ¬ (n < a ∨ ¬ n ≤ b) := by
  rw [inL_g]
  simp only [Bool.and_eq_true, Bool.not_eq_true', decide_eq_false_iff_not, not_or, Classical.not_not, lt_le]
section TS
variable {x : Sg} {y : Rg} {c T : Nat}
theorem Gd.eq (h : Gd x y c T) (a : Int32) : Sm y c T (a, x) (a, y) := ⟨rfl, rfl, c, T, by omega, by omega, h⟩
theorem Gd.c5 (h : Gd x y c T) : sI x 0 5 = nI c := h.1.1.1.1.trans h.2.1.1.1
theorem Gd.w (h : Gd x y c T) (a : Nat → Nat → Nat) : Gd (wA a x) y c T := h
theorem Gd.gIt (h : Gd x y c T) (a w : Int32) : itC x a w = itR y a w := by
  unfold itC itR; rw [h.1.val, h.1.stp]
theorem Gd.gLi (h : Gd x y c T) (n : Int32) : Sm y c T (liC x n) (liR y n) := by
  unfold liC liR
  have e : inL n.toInt64 1 9 = true ↔ ¬ (n < 1 ∨ ¬ n ≤ 9) := inL_nn n 1 9
  by_cases q : n < 1 ∨ ¬ n ≤ 9
  · rw [if_pos q, if_neg (fun z => (e.mp z) q)]; exact h.eq _
  · rw [if_neg q, if_pos (e.mpr q)]
    refine ⟨h.1.1.1.2.1, rfl, c, T, by omega, by omega, h.1.i0 (fun o k z => sI_ne (by omega)) (fun _ _ => rfl) (fun _ => rfl) rfl ⟨?_, h.1.1.2⟩, h.2.1.i0 (fun _ => rfl) rfl rfl, h.2.2⟩
    have h0 := h.1.1.1
    simp [sI_pI, rI_qI, h0]
theorem Gd.gBe (h : Gd x y c T) (a : Int32) : Sm y c T (beC x a) (beR y a) := by
  unfold beC beR
  by_cases q : inB 6 a = true
  · obtain ⟨d, hd, rfl, e⟩ := in6 q
    rw [if_pos q, if_pos q, e, h.1.st hd]
    by_cases g : rA y 4 d = 0
    · rw [if_pos g, if_pos g]
      exact ⟨congrArg (fun z => z + 1) h.1.1.1.2.2.1, rfl, c, T, by omega, by omega, h.1.be h.2.1 hd g, h.2.1.be hd, h.2.2⟩
    · rw [if_neg g, if_neg g]; exact h.eq _
  · rw [if_neg q, if_neg q]; exact h.eq _
theorem Gd.gRe (h : Gd x y c T) (a : Int32) : Sm y c T (reC x a) (reR y a) := by
  unfold reC reR
  by_cases q : inB 6 a = true
  · obtain ⟨d, hd, rfl, e⟩ := in6 q
    rw [if_pos q, if_pos q, e, h.1.lost hd]
    by_cases g : rA y 8 d = 0
    · rw [if_pos g, if_pos g]; exact h.eq _
    · rw [if_neg g, if_neg g]
      exact ⟨congrArg (fun z => z + 1) (h.1.tries hd), rfl, c, T, by omega, by omega, h.1.re h.2.1 hd ((h.2.1.2.1 d hd).2.2.1 g), h.2.1.re hd, h.2.2⟩
  · rw [if_neg q, if_neg q]; exact h.eq _
theorem Gd.gRd (h : Gd x y c T) (a b : Int32) : Sm y c T (rdC x a b) (rdR y a b) := by
  unfold rdC rdR
  by_cases q : inB 6 a = true ∧ inB 8 b = true
  · rw [if_pos q, if_pos q]
    obtain ⟨d, hd, rfl, e⟩ := in6 q.1
    obtain ⟨i, hi, rfl, e2⟩ := in8 q.2
    simp only [e, e2]
    rw [h.1.st hd, h.1.writes hd, h.1.reads hd]
    by_cases g : rA y 4 d = 1
    · rw [if_pos g, if_pos g]
      by_cases g1 : hasB (rA y 10 d) (nI i) = true
      · rw [if_pos g1, if_pos g1, h.1.wv hd hi]; exact h.eq _
      · rw [if_neg g1, if_neg g1]
        by_cases g2 : hasB (rA y 9 d) (nI i) = true
        · rw [if_pos g2, if_pos g2, h.1.nv hd hi]; exact h.eq _
        · rw [if_neg g2, if_neg g2]
          exact ⟨congrFun h.1.val i, rfl, c, T, by omega, by omega, h.1.no hd hi, h.2.1.rd hd hi g, h.2.2⟩
    · rw [if_neg g, if_neg g]; exact h.eq _
  · rw [if_neg q, if_neg q]; exact h.eq _
theorem Gd.gLa (h : Gd x y c T) (a b v : Int32) : Sm y c T (laC x a b v) (laR y a b v) := by
  unfold laC laR
  by_cases q : inB 6 a = true ∧ inB 8 b = true
  · rw [if_pos q, if_pos q]
    obtain ⟨d, hd, rfl, e⟩ := in6 q.1
    obtain ⟨i, hi, rfl, e2⟩ := in8 q.2
    by_cases g0 : vaB v = true
    · rw [if_pos g0, if_pos g0, e, e2, h.1.st hd, h.1.writes hd]
      by_cases g : rA y 4 d = 1
      · rw [if_pos g, if_pos g]
        refine ⟨?_, rfl, c, T, by omega, by omega, h.1.la hd hi v, h.2.1.la hd hi v g, h.2.2⟩
        obtain ⟨m, m1, m2⟩ := (h.2.1.2.1 d hd).2.2.2.2.1.2
        obtain ⟨k, k1, k2⟩ := sm_or2 hi m1
        show bcI (rA y 10 d ||| bt (nI i)) = onI (rA y 10 d ||| bt (nI i))
        rw [m2, k2]; exact bc_on k k1
      · rw [if_neg g, if_neg g]; exact h.eq _
    · rw [if_neg g0, if_neg g0]; exact h.eq _
  · rw [if_neg q, if_neg q]; exact h.eq _
theorem Gd.gPu (h : Gd x y c T) (hc : c < 512) (a v : Int32) : Sm y c T (puC x c a v) (ptR y c a v) := by
  unfold puC ptR
  by_cases q : inB 8 a = true
  · rw [if_pos q, if_pos q]
    obtain ⟨i, hi, rfl, e⟩ := in8 q
    by_cases g0 : vaB v = true
    · rw [if_pos g0, if_pos g0, h.1.how 3]
      by_cases g : nI (inS y 3) ≤ 0
      · rw [if_pos g, if_pos g, e]
        exact ⟨rfl, rfl, c + 1, T, by omega, by omega, h.1.pt h.2.2 hi v, h.2.1.pt (by omega) hi v, pt_N h.2.2⟩
      · rw [if_neg g, if_neg g]; exact h.eq _
    · rw [if_neg g0, if_neg g0]; exact h.eq _
  · rw [if_neg q, if_neg q]; exact h.eq _
theorem Gd.gSn (h : Gd x y c T) (hT : T + 1 < 2 ^ 30) (a : Int32) : Sm y c T (snC x a) (snR y a) := by
  unfold snC snR
  by_cases q : inB 6 a = true
  · obtain ⟨d, hd, rfl, e⟩ := in6 q
    rw [if_pos q, if_pos q, e, h.1.st hd]
    by_cases g : rA y 4 d = 1
    · rw [if_pos g, if_pos g]
      exact ⟨congrArg (fun z => z + 1) h.1.1.1.2.2.2.1, rfl, c, T + 1, by omega, by omega, h.1.sn hd, h.2.1.sn hd g hT, h.2.2⟩
    · rw [if_neg g, if_neg g]; exact h.eq _
  · rw [if_neg q, if_neg q]; exact h.eq _
theorem Gd.gAb (h : Gd x y c T) (a : Int32) : Sm y c T (abC x a) (abR y a) := by
  unfold abC abR
  by_cases q : inB 6 a = true
  · obtain ⟨d, hd, rfl, e⟩ := in6 q
    rw [if_pos q, if_pos q, e, h.1.st hd]
    by_cases g : rA y 4 d = 1 ∨ rA y 4 d = 2
    · rw [if_pos g, if_pos g]
      have r : Rel (loS x d (-1)) (faR y d 0) c := h.1.lo hd (by decide) (by decide)
      exact ⟨congrArg nI (r.how 1), rfl, c, T, by omega, by omega, r, h.2.1.fa hd 0, by rw [lo_N]; exact h.2.2⟩
    · rw [if_neg g, if_neg g]; exact h.eq _
  · rw [if_neg q, if_neg q]; exact h.eq _
theorem fa_23 (y : Rg) (d : Nat) (w : Int32) : rI (faR y d w) 23 = rI y 23 := rfl
theorem sw_23 (y : Rg) : ∀ n, rI (swR y n).1 23 = rI y 23
  | 0 => rfl
  | n + 1 => by
    rw [swR]
    split
    · exact (fa_23 _ _ _).trans (sw_23 y n)
    · exact sw_23 y n
theorem Gd.gS0 (h : Gd x y c T) {u : Sg × Nat} {v : Rg × Nat} (H : Rel u.1 v.1 c ∧ Inv v.1 c T ∧ u.2 = v.2 ∧ sN u.1 = sN x) (h23 : rI v.1 23 = rI y 23) : Sm y c T (nI u.2, u.1) (nI v.2, v.1) :=
  ⟨congrArg nI H.2.2.1, h23, c, T, Nat.le_add_right _ _, Nat.le_add_right _ _, H.1, H.2.1, Nat.le_trans h.2.2 (Nat.le_of_eq H.2.2.2.symm)⟩
theorem Gd.gSw (h : Gd x y c T) : Sm y c T (nI (swF x 6).2, (swF x 6).1) (nI (swR y 6).2, (swR y 6).1) := h.gS0 (u := swF x 6) (v := swR y 6) (sw_sim h.1 h.2.1 6 (Nat.le_refl 6)) (sw_23 y 6)
/-! commit, peek -/
theorem Gd.cr (h : Gd x y c T) {d : Nat} (hd : d < 6) : crs x d = crR y d (rA y 5 d).toNatClampNeg (c - (rA y 5 d).toNatClampNeg) := by
  obtain ⟨s, s1, s2, -⟩ := (h.2.1.2.1 d hd).2.2.2.1
  have hc := h.2.1.1.2.2.1
  rw [s2, nI_clamp (by omega)]
  exact h.1.crsE h.2.1 hd s2 s1
theorem orB_ne {p : Nat → Bool} {i n : Nat} (hi : i < n) (hn : n ≤ 32) (hp : p i = true) : ¬ orB p n = 0 := fun z => by
  have e := gl_orB p i n hn
  rw [z, gl_0, hp, decide_eq_true hi] at e
  cases e
theorem orB_z {p : Nat → Bool} : ∀ {n : Nat}, (∀ i, i < n → p i = false) → orB p n = 0
  | 0, _ => rfl
  | n + 1, h => by rw [orB, if_neg (by rw [h n (by omega)]; decide)]; exact orB_z (fun i hi => h i (by omega))
theorem Gd.slcr (h : Gd x y c T) {d : Nat} (hd : d < 6) (hs : ¬ slR y d = 0) : ¬ crs x d = 0 := by
  obtain ⟨s, s1, s2, s3⟩ := (h.2.1.2.1 d hd).2.2.2.1
  have hc := h.2.1.1.2.2.1
  have ex : ∃ i, i < 8 ∧ (hasB (rA y 9 d) (nI i) && !decide (rA y 1 i = rA y 12 (8 * d + i))) = true := by
    refine Classical.byContradiction (fun z => hs (orB_z (fun i hi => ?_)))
    cases g : (hasB (rA y 9 d) (nI i) && !decide (rA y 1 i = rA y 12 (8 * d + i)))
    · rfl
    · exact absurd ⟨i, hi, g⟩ z
  obtain ⟨i, hi, g⟩ := ex
  simp only [Bool.and_eq_true, Bool.not_eq_true', decide_eq_false_iff_not] at g
  refine orB_ne hi (by decide) ?_
  rcases s3 i hi g.1 with z | ⟨k, k1, k2, k3⟩
  · exact absurd z g.2
  · show (hasB (sI x (2 + d) 5) (nI i) && !decide (sA x 0 2 i ≤ sI x (2 + d) 2)) = true
    rw [h.1.reads hd, h.1.stp, h.1.start hd, g.1, k2, s2, decide_eq_false (fun z => by have := (nI_leI (by omega) (by omega)).mp z; omega)]
    rfl
theorem Gd.ft (h : Gd x y c T) (hc : c < 512) {d : Nat} (hd : d < 6) (w : Int32) : ftI x d w = if inL w.toInt64 0 2 = true then (if ¬ rA y 4 d = 1 ∨ ¬ nI (inS y 3) ≤ 0 then -4 else if ckF y c d w = 0 then nI (c + 1) else ckF y c d w) else -3 := by
  unfold ftI
  have e : inL w.toInt64 0 2 = true ↔ ¬ (w < 0 ∨ ¬ w ≤ 2) := inL_nn w 0 2
  by_cases q : w < 0 ∨ ¬ w ≤ 2
  · rw [if_pos q, if_neg (fun z => (e.mp z) q)]
  · rw [if_neg q, if_pos (e.mpr q), h.1.st hd, h.1.how 3]
    by_cases g : ¬ rA y 4 d = 1 ∨ ¬ nI (inS y 3) ≤ 0
    · rw [if_pos g, if_pos g]
    · rw [if_neg g, if_neg g, h.c5, if_neg (fun z => z (nI_lt hc (by decide))), nI_1]
      unfold ckF ckR
      rw [← h.cr hd, h.1.stlE hd, h.1.my hd]
      have hne : ¬ ((-11 : Int32) = 0) ∧ ¬ ((-12 : Int32) = 0) ∧ ¬ ((-13 : Int32) = 0) := by decide
      by_cases g0 : slR y d = 0
      · rw [if_neg (fun z => z g0)]
        by_cases w0 : w = 0
        · subst w0
          by_cases g1 : crs x d = 0
          · rw [if_neg (fun z => z.2 g1), if_neg (fun z => absurd z.1 (by decide)), if_pos rfl, if_pos g1, if_pos rfl]
          · rw [if_pos ⟨rfl, g1⟩, if_pos rfl, if_neg g1, if_pos g0, if_neg hne.2.1]
        · rw [if_neg (fun z => w0 z.1), if_neg w0, if_pos g0]
          by_cases w1 : w = 1
          · subst w1
            rw [if_neg (fun z => absurd z.1 (by decide)), if_pos rfl, if_pos rfl]
          · rw [if_neg w1]
            have w2 : w = 2 := by
              have q1 : ¬ w < 0 := fun z => q (Or.inl z)
              have q2 : w ≤ 2 := Classical.byContradiction (fun z => q (Or.inr z))
              obtain ⟨j, hj, rfl⟩ := nI_of2 (M := 2) (n := 2) (by decide) q1 q2
              rcases (show j = 0 ∨ j = 1 ∨ j = 2 by omega) with rfl | rfl | rfl
              · exact absurd rfl w0
              · exact absurd rfl w1
              · rfl
            by_cases g2 : wkR y d (rvR y d) = true
            · rw [if_pos ⟨w2, g2⟩, if_pos g2, if_neg hne.2.2]
            · rw [if_neg (fun z => g2 z.2), if_neg g2, if_pos rfl]
      · rw [if_pos g0]
        by_cases w0 : w = 0
        · rw [if_pos w0, if_neg (h.slcr hd g0), if_neg g0, if_neg hne.1]
        · rw [if_neg w0, if_neg g0, if_neg hne.1]
theorem Gd.gPe (h : Gd x y c T) (hc : c < 512) (a w : Int32) : peC x a w = peR y c a w := by
  unfold peC peR rfR
  by_cases q : inB 6 a = true
  · obtain ⟨d, hd, rfl, e⟩ := in6 q
    rw [if_pos q, if_pos q, e, h.ft hc hd]
    by_cases g : inL w.toInt64 0 2 = true
    · rw [if_pos g, if_pos g]
      by_cases g1 : ¬ rA y 4 d = 1 ∨ ¬ nI (inS y 3) ≤ 0
      · rw [if_pos g1, if_pos g1, if_neg (by decide)]
      · rw [if_neg g1, if_neg g1, if_pos rfl, nI_1]
    · rw [if_neg g, if_neg g, if_neg (by decide)]
  · rw [if_neg q, if_neg q, if_neg (by decide)]
theorem ck_or (y : Rg) (c d : Nat) (w : Int32) : ckF y c d w = 0 ∨ ckF y c d w = -11 ∨ ckF y c d w = -12 ∨ ckF y c d w = -13 := by
  unfold ckF ckR
  repeat' split
  all_goals first | exact Or.inl rfl | exact Or.inr (Or.inl rfl) | exact Or.inr (Or.inr (Or.inl rfl)) | exact Or.inr (Or.inr (Or.inr rfl))
theorem rv_1 {d e : Nat} (he : e < 6) (hb : hasB (rvR y d) (nI e) = true) : rA y 4 e = 1 := by
  rw [hasB_bit _ e (by omega)] at hb
  unfold rvR at hb
  rw [gl_orB _ e 6 (by decide)] at hb
  simp only [Bool.and_eq_true, decide_eq_true_eq] at hb
  exact hb.2.2.1
theorem co_23 (y : Rg) (c d : Nat) (w : Int32) : rI (coR y c d w) 23 = rI y 23 := (rI_frR _ _ _ _).trans ((rI_cm _ _ _ _).trans rfl)
theorem Gd.gCm (h : Gd x y c T) (hc : c < 512) (a w : Int32) : Sm y c T (cmC x c a w) (cmR y c a w) := by
  unfold cmC cmR rfR
  by_cases q : inB 6 a = true
  · obtain ⟨d, hd, rfl, e⟩ := in6 q
    rw [if_pos q, if_pos q]
    simp only [e]
    have hf := h.ft hc hd w
    by_cases g : inL w.toInt64 0 2 = true
    · rw [if_pos g] at hf ⊢
      by_cases g1 : ¬ rA y 4 d = 1 ∨ ¬ nI (inS y 3) ≤ 0
      · rw [if_pos g1] at hf ⊢
        rw [hf, if_neg (by decide), if_neg (by decide), if_neg (by decide)]; exact h.eq _
      · rw [if_neg g1] at hf ⊢
        rw [if_pos rfl]
        by_cases g2 : ckF y c d w = 0
        · rw [if_pos g2] at hf ⊢
          have hne : faB (nI (c + 1)) = false := by
            have p : ¬ nI (c + 1) < 0 := nI_pos (by omega)
            have r : ∀ k : Int32, k < 0 → decide (nI (c + 1) = k) = false := fun k hk => decide_eq_false (fun z => p (z ▸ hk))
            rw [faB, r _ (by decide), r _ (by decide), r _ (by decide)]; rfl
          rw [hf, if_neg (by rw [hne]; decide), if_pos (nI_pos' (by omega)), h.1.rivE hd]
          have R : Rel (if w = 2 then dmA x (rvR y d) else x) (dmY y (if w = 2 then rvR y d else 0)) c := by
            by_cases w2 : w = 2
            · rw [if_pos w2, if_pos w2]; exact h.1.dm (fun e he hb => rv_1 he hb)
            · rw [if_neg w2, if_neg w2]; exact h.1.dm0 (fun e he => hasB_0 (by omega))
          have I : Inv (dmY y (if w = 2 then rvR y d else 0)) c T := by
            refine h.2.1.dm (fun e he hb => ?_)
            by_cases w2 : w = 2
            · rw [if_pos w2] at hb; exact rv_1 he hb
            · rw [if_neg w2, hasB_0 (by omega)] at hb; cases hb
          have N : c ≤ sN (if w = 2 then dmA x (rvR y d) else x) := by
            by_cases w2 : w = 2
            · rw [if_pos w2, dmA_N]; exact h.2.2
            · rw [if_neg w2]; exact h.2.2
          exact ⟨rfl, (co_23 _ _ _ _).trans rfl, c + 1, T, by omega, by omega, R.ke N hd w, I.co (by omega) hd w, ke_N N⟩
        · rw [if_neg g2] at hf ⊢
          have hfa : faB (ckF y c d w) = true := by
            rcases ck_or y c d w with z | z | z | z
            · exact absurd z g2
            · rw [z]; decide
            · rw [z]; decide
            · rw [z]; decide
          rw [hf, if_pos hfa]
          exact ⟨rfl, rfl, c, T, by omega, by omega, h.1.lo hd Iff.rfl Iff.rfl, h.2.1.fa hd _, by rw [lo_N]; exact h.2.2⟩
    · rw [if_neg g] at hf ⊢
      rw [hf, if_neg (by decide), if_neg (by decide), if_neg (by decide)]; exact h.eq _
  · rw [if_neg q, if_neg q, if_neg (by decide)]; exact h.eq _
end TS
