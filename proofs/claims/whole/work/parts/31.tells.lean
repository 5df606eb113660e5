/-! ===== the reference reads by the same road; what is told ===== -/
theorem rdN_1 (x : Rg) (L : Nat → Int32) (t z k : Nat) (lo hi : Int32) : (rdN x L t z k lo hi).1 = okN L t z lo hi := by
  unfold rdN
  cases g : okN L t z lo hi
  · rw [if_neg (by decide)]
  · rw [if_pos rfl]
theorem rc2_b (x : Rg) (L : Nat → Int32) (t z : Nat) (p q p' q' : Int32) : (rc2 x L t z p q p' q').1 = (okN L t z p q && okN L t (nxK L t z) p' q') := by
  rw [Bool.eq_iff_iff, rc2_1, Bool.and_eq_true]
theorem rr_1 (x : Rg) (L : Nat → Int32) (t z k : Nat) : (rrC x L t z k).1 = rrB L t z k := by
  unfold rrC rrB
  split
  · rfl
  · split
    · exact rc2_b _ _ _ _ _ _ _ _
    · split
      · exact rdN_1 _ _ _ _ _ _ _
      · split
        · exact rc2_b _ _ _ _ _ _ _ _
        · split
          · unfold rc3
            rw [rc2_b]
            cases g : (okN L t z 0 5 && okN L t (nxK L t z) 0 7)
            · rw [if_neg (by decide), rc2_b, g]; rfl
            · rw [if_pos rfl, rdN_1]; rfl
          · exact rdN_1 _ _ _ _ _ _ _
theorem rdY_28 (x : Rg) (L : Nat → Int32) (t z k j : Nat) : rA (rdY' x L t z k) 28 j = if j = k then nuV L t z else rA x 28 j := rfl
theorem rdN_y {x : Rg} {L : Nat → Int32} {t z k : Nat} {lo hi : Int32} (h : okN L t z lo hi = true) : (rdN x L t z k lo hi).2 = rdY' x L t z k := by rw [rdN, if_pos h]
theorem rr_28 {x : Rg} {L : Nat → Int32} {t z k : Nat} (hk : k < 7) (h : rrB L t z k = true) : ∀ i, i < ar k → rA (rrC x L t z k).2 28 i = nuV L t (itK L t z i) := by
  intro i hi
  rcases (show k = 0 ∨ k = 1 ∨ k = 2 ∨ k = 3 ∨ k = 4 ∨ k = 5 ∨ k = 6 by omega) with rfl | rfl | rfl | rfl | rfl | rfl | rfl
  · exact absurd hi (by show ¬ i < 0; omega)
  · have hi : i < 2 := hi
    simp only [rrB] at h
    have h : (okN L t z 0 7 && okN L t (nxK L t z) 0 9999) = true := h
    rw [Bool.and_eq_true] at h
    show rA (rc2 x L t z 0 7 0 9999).2 28 i = _
    rw [rc2_t1 (by rw [rdN_1]; exact h.1), rdN_y h.2, rdY_28]
    rcases (show i = 0 ∨ i = 1 by omega) with rfl | rfl
    · rw [if_neg (by decide), rdY_28, if_pos rfl]; rfl
    · rw [if_pos rfl]; rfl
  · have hi : i < 1 := hi
    have h : okN L t z 1 9 = true := h
    show rA (rdN x L t z 0 1 9).2 28 i = _
    rw [rdN_y h, rdY_28, if_pos (by omega), show i = 0 by omega]; rfl
  · have hi : i < 1 := hi
    have h : okN L t z 0 5 = true := h
    show rA (rdN x L t z 0 0 5).2 28 i = _
    rw [rdN_y h, rdY_28, if_pos (by omega), show i = 0 by omega]; rfl
  · have hi : i < 2 := hi
    have h : (okN L t z 0 5 && okN L t (nxK L t z) 0 7) = true := h
    rw [Bool.and_eq_true] at h
    show rA (rc2 x L t z 0 5 0 7).2 28 i = _
    rw [rc2_t1 (by rw [rdN_1]; exact h.1), rdN_y h.2, rdY_28]
    rcases (show i = 0 ∨ i = 1 by omega) with rfl | rfl
    · rw [if_neg (by decide), rdY_28, if_pos rfl]; rfl
    · rw [if_pos rfl]; rfl
  · have hi : i < 3 := hi
    have h : ((okN L t z 0 5 && okN L t (nxK L t z) 0 7) && okN L t (nxK L t (nxK L t z)) 0 9999) = true := h
    rw [Bool.and_eq_true] at h
    show rA (rc3 x L t z).2 28 i = _
    rw [rc3_t (by rw [rc2_b]; exact h.1), rdN_y h.2, rdY_28]
    rcases (show i = 0 ∨ i = 1 ∨ i = 2 by omega) with rfl | rfl | rfl
    · rw [if_neg (by decide), rdY_28, if_neg (by decide), rdY_28, if_pos rfl]; rfl
    · rw [if_neg (by decide), rdY_28, if_pos rfl]; rfl
    · rw [if_pos rfl]; rfl
  · have hi : i < 1 := hi
    have h : okN L t z 0 5 = true := h
    show rA (rdN x L t z 0 0 5).2 28 i = _
    rw [rdN_y h, rdY_28, if_pos (by omega), show i = 0 by omega]; rfl
theorem cl_1 (x : Rg) (L : Nat → Int32) (t z c0 : Nat) (b : Bool) : (clR x L t z c0 b).1 = clG L t z := by
  unfold clR clG
  by_cases q : kdI L t z = -1
  · rw [if_pos q, decide_eq_true q]; rfl
  · rw [if_neg q, decide_eq_false q, clY, rr_1]
    cases rrB L t (nxK L t z) (kdN L t z) <;> rfl
/-- reading without doing -/
def Tf (x y : Rg) : Prop := (∀ k, k < 24 ∨ k = 27 → rI y k = rI x k) ∧ (∀ k, ¬ k = 28 → rA y k = rA x k)
theorem Tf.tr {x y z : Rg} (h : Tf x y) (g : Tf y z) : Tf x z := ⟨fun k hk => (g.1 k hk).trans (h.1 k hk), fun k hk => (g.2 k hk).trans (h.2 k hk)⟩
theorem Tn.f {x y : Rg} (h : Tn x y) : Tf x y := ⟨fun k hk => h.1 k (by omega), h.2⟩
theorem Tf.q26 (x : Rg) (v : Int32) : Tf x (qI x 26 v) := ⟨fun k hk => rI_ne (by omega), fun _ _ => rfl⟩
theorem Tf.clf (x : Rg) (L : Nat → Int32) (t z c0 : Nat) : Tf x (clR x L t z c0 false).2 := by
  unfold clR
  split
  · exact Tn.rf.f
  · split
    · exact Tn.cy.f
    · exact Tn.cy.f
theorem ra_sim (L : Nat → Int32) (t : Nat) : ∀ m n z y, n + m = 24 → Tk y L t z false →
    (raR L t false m n z y).1 = (sk L t m n z).1 ∧ rI (raR L t false m n z y).2 24 = nI (sk L t m n z).2.1 ∧ Tf y (raR L t false m n z y).2 ∧ ((sk L t m n z).1 = true → rI (raR L t false m n z y).2 26 = nI (sk L t m n z).2.2)
  | 0, n, z, y, _, h => ⟨rfl, h.2.1, Tn.rf.f, fun q => by cases q⟩
  | m + 1, n, z, y, hm, h => by
    have K := clR_tk h (cR y)
    have F := Tf.clf y L t z (cR y)
    have F26 := F.tr (Tf.q26 _ (nI (n + 1)))
    rw [raR, sk, cl_1]
    by_cases g : clG L t z = true
    · rw [if_pos g, if_pos g]
      by_cases g1 : t ≤ clT L t z
      · rw [if_pos g1, if_pos g1]
        exact ⟨rfl, K.2.1, F26, fun _ => rI_eq⟩
      · rw [if_neg g1, if_neg g1]
        by_cases g2 : L (clT L t z) = 59 ∧ n + 1 < 24
        · rw [if_pos g2, if_pos g2]
          have K2 : Tk (nxR (qI (clR y L t z (cR y) false).2 26 (nI (n + 1))) L t (nxK L t (clT L t z))) L t (nxK L t (clT L t z)) false := (show T0 (qI (clR y L t z (cR y) false).2 26 (nI (n + 1))) L t false from K.zero).nx
          have ih := ra_sim L t m (n + 1) _ _ (by omega) K2
          exact ⟨ih.1, ih.2.1, (F26.tr Tn.nx.f).tr ih.2.2.1, ih.2.2.2⟩
        · rw [if_neg g2, if_neg g2]
          exact ⟨rfl, K.2.1, F26, fun q => by cases q⟩
    · rw [if_neg g, if_neg g]
      exact ⟨rfl, K.2.1, F26, fun q => by cases q⟩
section TT
variable {x : Sg} {y y' : Rg} {c T : Nat}
theorem Gd.ty (h : Gd x y c T) (hr : ∀ k, k < 24 → rI y' k = rI y k) (hA : ∀ k, ¬ k = 28 → rA y' k = rA y k) : Gd x y' c T :=
  ⟨h.1.tx (fun _ _ _ => rfl) (fun _ _ _ => rfl) (fun k hk => hr k (by omega)) (fun k hk => hA k (by omega)) ⟨h.1.2.1.1.trans (hA 22 (by decide)).symm, h.1.2.1.2.1.trans (hr 23 (by decide)).symm, (hA 29 (by decide)).trans h.1.2.1.2.2⟩, h.2.1.tx (fun k hk => hr k (by omega)) (fun k hk => hA k (by omega)), h.2.2⟩
theorem Gd.tf (h : Gd x y c T) (f : Tf y y') : Gd x y' c T := h.ty (fun k hk => f.1 k (Or.inl hk)) f.2
theorem Gd.px (h : Gd x y c T) {u : Sg} {n : Nat} (p : Px x u n) : Gd u y c T := by
  refine ⟨h.1.tx (fun o k q => p.1 o k (by omega)) (fun o k q => p.2.1 o k (by omega)) (fun _ _ => rfl) (fun _ _ => rfl) ⟨(p.2.1 1 0 (by decide)).trans h.1.2.1.1, (p.1 1 1 (by decide)).trans h.1.2.1.2.1, h.1.2.1.2.2⟩, h.2.1, ?_⟩
  rw [p.2.2.2.2]; exact h.2.2
/-- a clause is done on both sides -/
theorem Gd.ds (h : Gd x y c T) (hc : c < 512) (hT : T + 1 < 2 ^ 30) {cl k : Nat} (hk : k < 7) (h2 : sA x 1 2 cl = nI k) (h3 : ∀ i, i < ar k → sA x 1 3 (cl * 3 + i) = rA y 28 i) : ∃ c' T', c' ≤ c + 1 ∧ T' ≤ T + 1 ∧ Gd (doS x c cl) (dsR y c k) c' T' := by
  have key : ∀ {p : Int32 × Sg} {q : Int32 × Rg}, Sm y c T p q → ∃ c' T', c' ≤ c + 1 ∧ T' ≤ T + 1 ∧ Gd p.2 q.2 c' T' := fun s => s.2.2
  unfold doS
  rcases (show k = 0 ∨ k = 1 ∨ k = 2 ∨ k = 3 ∨ k = 4 ∨ k = 5 ∨ k = 6 by omega) with rfl | rfl | rfl | rfl | rfl | rfl | rfl
  · rw [h2, if_pos (by decide)]
    exact ⟨0, 0, by omega, by omega, h.1.an, Inv.an y, by omega⟩
  · rw [h2, if_neg (by decide), if_pos (by decide), h3 0 (by decide), h3 1 (by decide)]
    exact key (h.gPu hc _ _)
  · rw [h2, if_neg (by decide), if_neg (by decide), if_pos (by decide), h3 0 (by decide)]
    exact key (h.gLi _)
  · rw [h2, if_neg (by decide), if_neg (by decide), if_neg (by decide), if_pos (by decide), h3 0 (by decide)]
    exact key (h.gBe _)
  · rw [h2, if_neg (by decide), if_neg (by decide), if_neg (by decide), if_neg (by decide), if_pos (by decide), h3 0 (by decide), h3 1 (by decide)]
    exact key (h.gRd _ _)
  · rw [h2, if_neg (by decide), if_neg (by decide), if_neg (by decide), if_neg (by decide), if_neg (by decide), if_pos (by decide), h3 0 (by decide), h3 1 (by decide), h3 2 (by decide)]
    exact key (h.gLa _ _ _)
  · rw [h2, if_neg (by decide), if_neg (by decide), if_neg (by decide), if_neg (by decide), if_neg (by decide), if_neg (by decide), if_pos (by decide), h3 0 (by decide)]
    exact key (h.gSn hT _)
theorem Gd.dsA (h : Gd x y c T) (hc : c < 512) (hT : T + 1 < 2 ^ 30) (cl : Nat) : ∃ y' c' T', c' ≤ c + 1 ∧ T' ≤ T + 1 ∧ Gd (doS x c cl) y' c' T' := by
  have h1 : Gd x (qA y 28 (fun j => sA x 1 3 (cl * 3 + j))) c T := h.ty (fun _ _ => rfl) (fun k hk => rA_ne hk)
  have g : ∀ k, k < 7 → sA x 1 2 cl = nI k → ∃ y' c' T', c' ≤ c + 1 ∧ T' ≤ T + 1 ∧ Gd (doS x c cl) y' c' T' := fun k hk e => by
    obtain ⟨c', T', a, b, d⟩ := h1.ds hc hT hk e (fun i _ => rfl)
    exact ⟨_, c', T', a, b, d⟩
  by_cases k0 : sA x 1 2 cl = 0
  · exact g 0 (by decide) k0
  · by_cases k1 : sA x 1 2 cl = 1
    · exact g 1 (by decide) k1
    · by_cases k2 : sA x 1 2 cl = 2
      · exact g 2 (by decide) k2
      · by_cases k3 : sA x 1 2 cl = 3
        · exact g 3 (by decide) k3
        · by_cases k4 : sA x 1 2 cl = 4
          · exact g 4 (by decide) k4
          · by_cases k5 : sA x 1 2 cl = 5
            · exact g 5 (by decide) k5
            · by_cases k6 : sA x 1 2 cl = 6
              · exact g 6 (by decide) k6
              · refine ⟨y, c, T, by omega, by omega, ?_⟩
                unfold doS
                rw [if_neg k0, if_neg k1, if_neg k2, if_neg k3, if_neg k4, if_neg k5, if_neg k6]
                exact h
/-! the class's rows of clauses stay -/
theorem foS_A1 {f : Sg → Nat → Sg} (k : Nat) (hf : ∀ z i, sA (f z i) 1 k = sA z 1 k) (z : Sg) : ∀ n, sA (foS f z n) 1 k = sA z 1 k
  | 0 => rfl
  | n + 1 => by rw [foS, hf, foS_A1 k hf z n]
theorem anC_A (z : Sg) (o k : Nat) : sA (anC z) o k = sA z o k := rfl
theorem an_1 (x : Sg) (k : Nat) : sA (anS x) 1 k = sA x 1 k := by
  rw [anS_eq, anC_A, foS_A1 k (fun z i => frD_A z i false 1 k), sA_ne (by omega), sA_ne (by omega)]
theorem pu_1 (x : Sg) (c0 i : Nat) (v : Int32) (k : Nat) : sA (puS x c0 i v) 1 k = sA x 1 k := by
  funext j
  rw [puS, chS, sA_ne (by omega), sA_ne (by omega), kwE_A, if_neg (by omega), nxS_A (by decide)]
theorem do_1 (x : Sg) (c0 cl k : Nat) : sA (doS x c0 cl) 1 k = sA x 1 k := by
  unfold doS
  split
  · exact an_1 x k
  · split
    · unfold puC
      split
      · split
        · split
          · exact pu_1 _ _ _ _ _
          · rfl
        · rfl
      · rfl
    · split
      · unfold liC
        split <;> rfl
      · split
        · unfold beC
          split
          · split <;> rfl
          · rfl
        · split
          · unfold rdC
            split
            · simp only []
              split
              · split
                · rfl
                · split
                  · rfl
                  · funext j; rw [noD_A, if_neg (by omega), if_neg (by omega)]
              · rfl
            · rfl
          · split
            · unfold laC
              split
              · split
                · split
                  · funext j; rw [laS_A, if_neg (by omega)]
                  · rfl
                · rfl
              · rfl
            · split
              · unfold snC
                split
                · split
                  · funext j; rw [seD_A, if_neg (by omega)]; rfl
                  · rfl
                · rfl
              · rfl
theorem te_1 (y0 : Sg) (k : Nat) : ∀ n, sA (teS y0 n) 1 k = sA y0 1 k
  | 0 => rfl
  | n + 1 => by rw [teS, do_1, te_1 y0 k n]
theorem Gd.te (h : Gd x y c T) {N : Nat} (hc : c + N ≤ 512) (hT : T + N < 2 ^ 30) : ∀ n, n ≤ N → ∃ w c' T', Gd (teS x n) w c' T' ∧ c' ≤ c + n ∧ T' ≤ T + n
  | 0, _ => ⟨y, c, T, h, by omega, by omega⟩
  | n + 1, hn => by
    obtain ⟨w, c', T', g, a, b⟩ := Gd.te h hc hT n (by omega)
    obtain ⟨w2, c2, T2, a2, b2, g2⟩ := g.dsA (by omega) (by omega) n
    refine ⟨w2, c2, T2, ?_, by omega, by omega⟩
    rw [teS, g.c5, nI_clamp (by omega)]; exact g2
theorem te_sim (L : Nat → Int32) (t : Nat) (ht : t ≤ 200) (y0 : Sg) : ∀ m n z w c T, n + m = 24 → z ≤ t → Tk w L t z true → Gd (teS y0 n) w c T → c + (t - z) ≤ 511 → T + m < 2 ^ 30 → RW L t y0 m n z → (sk L t m n z).1 = true →
    ∃ c' T', Gd (teS y0 (sk L t m n z).2.2) (raR L t true m n z w).2 c' T' ∧ rI (raR L t true m n z w).2 26 = nI (sk L t m n z).2.2 ∧ c' ≤ c + (t - z) ∧ T' ≤ T + m
  | 0, n, z, w, c, T, _, _, _, _, _, _, _, hs => by cases hs
  | m + 1, n, z, w, c, T, hm, hz, hk, h, hc, hT, hR, hs => by
    have K := clR_tk hk (cR w)
    have h2 := clT_t (L := L) hz
    rw [raR, cl_1]
    rw [sk] at hs ⊢
    by_cases g : clG L t z = true
    · rw [if_pos g] at hs ⊢
      rw [if_pos g]
      have hg := clG_t g
      have h7 := kd_of hg.1
      have h0 := kd_lt hz ht hg.1
      have h1 := clT_gt hz ht hg.1
      obtain ⟨r1, r2⟩ := hR g
      have hcR : cR w = c := by rw [cR, h.2.1.1.1, nI_clamp (by omega)]
      have ecl : (clR w L t z (cR w) true).2 = dsR (clY w L t z).2 c (kdN L t z) := by
        unfold clR
        rw [if_neg hg.1, hcR, if_pos (by rw [clY, rr_1]; exact hg.2), if_pos rfl]
      have hY : Gd (teS y0 n) (clY w L t z).2 c T := h.tf Tn.cy.f
      obtain ⟨c1, T1, a1, b1, D⟩ := hY.ds (cl := n) (by omega) (by omega) h7.1 (by rw [te_1]; exact r1.1) (fun i hi => by rw [te_1]; exact (r1.2 i hi).trans (rr_28 h7.1 hg.2 i hi).symm)
      have D1 : Gd (teS y0 (n + 1)) (clR w L t z (cR w) true).2 c1 T1 := by
        rw [ecl, teS, h.c5, nI_clamp (by omega)]; exact D
      have D2 : Gd (teS y0 (n + 1)) (qI (clR w L t z (cR w) true).2 26 (nI (n + 1))) c1 T1 := D1.tf (Tf.q26 _ _)
      by_cases g1 : t ≤ clT L t z
      · rw [if_pos g1] at hs ⊢
        rw [if_pos g1]
        exact ⟨c1, T1, D2, rI_eq, by omega, by omega⟩
      · rw [if_neg g1] at hs ⊢
        rw [if_neg g1]
        by_cases g2 : L (clT L t z) = 59 ∧ n + 1 < 24
        · rw [if_pos g2] at hs ⊢
          rw [if_pos g2]
          have h3 := nxK_b (L := L) h2
          have K2 : Tk (nxR (qI (clR w L t z (cR w) true).2 26 (nI (n + 1))) L t (nxK L t (clT L t z))) L t (nxK L t (clT L t z)) true := (show T0 (qI (clR w L t z (cR w) true).2 26 (nI (n + 1))) L t true from K.zero).nx
          have D3 : Gd (teS y0 (n + 1)) (nxR (qI (clR w L t z (cR w) true).2 26 (nI (n + 1))) L t (nxK L t (clT L t z))) c1 T1 := D2.tf Tn.nx.f
          obtain ⟨c', T', e1, e2, e3, e4⟩ := te_sim L t ht y0 m (n + 1) (nxK L t (clT L t z)) _ c1 T1 (by omega) h3.2 K2 D3 (by omega) (by omega) (r2 g1 g2) hs
          exact ⟨c', T', e1, e2, by omega, by omega⟩
        · rw [if_neg g2] at hs; cases hs
    · rw [if_neg g] at hs; cases hs
/-! the reference's count of commits while it reads -/
theorem rs_f (x : Rg) (L : Nat → Int32) (t : Nat) : ∀ n, rI (rsS x L t false n).2 2 = rI x 2
  | 0 => rfl
  | n + 1 => ((Tf.clf _ _ _ _ _).1 2 (by decide)).trans (rs_f x L t n)
theorem ds_2 (w : Rg) (c0 k : Nat) : rI (dsR w c0 k) 2 = nI 0 ∨ rI (dsR w c0 k) 2 = nI (c0 + 1) ∨ rI (dsR w c0 k) 2 = rI w 2 := by
  unfold dsR
  split
  · left; rw [anR_eq]; rfl
  · split
    · unfold ptR
      split
      · split
        · split
          · exact Or.inr (Or.inl rfl)
          · exact Or.inr (Or.inr rfl)
        · exact Or.inr (Or.inr rfl)
      · exact Or.inr (Or.inr rfl)
    · right; right
      split
      · unfold liR; split <;> rfl
      · split
        · unfold beR
          split
          · split <;> rfl
          · rfl
        · split
          · unfold rdR
            split
            · split
              · split
                · rfl
                · split <;> rfl
              · rfl
            · rfl
          · split
            · unfold laR
              split
              · split
                · split <;> rfl
                · rfl
              · rfl
            · unfold snR
              split
              · split <;> rfl
              · rfl
theorem rs_t (x : Rg) (L : Nat → Int32) (t : Nat) (ht : t ≤ 200) {c : Nat} (hc : rI x 2 = nI c) (hct : c + t ≤ 511) : ∀ n, ∃ c', rI (rsS x L t true n).2 2 = nI c' ∧ c' ≤ c + (rsS x L t true n).1
  | 0 => ⟨c, hc, by omega⟩
  | n + 1 => by
    obtain ⟨c', e, h⟩ := rs_t x L t ht hc hct n
    have hz := rsS_t x L t true n
    have hT := clT_t (L := L) hz
    have hN := nxK_b (L := L) hT
    have hG := clT_ge (L := L) hz
    have hcR : cR (rsS x L t true n).2 = c' := by rw [cR, e, nI_clamp (by omega)]
    show ∃ c', rI (clR (rsS x L t true n).2 L t (rsS x L t true n).1 (cR (rsS x L t true n).2) true).2 2 = nI c' ∧ c' ≤ c + nxK L t (clT L t (rsS x L t true n).1)
    rw [hcR]
    unfold clR
    by_cases q : kdI L t (rsS x L t true n).1 = -1
    · rw [if_pos q]; exact ⟨c', e, by omega⟩
    · rw [if_neg q]
      have hg := clT_gt hz ht q
      have eY : rI (clY (rsS x L t true n).2 L t (rsS x L t true n).1).2 2 = nI c' := (Tn.cy.1 2 (by decide)).trans e
      split
      · rw [if_pos rfl]
        rcases ds_2 (clY (rsS x L t true n).2 L t (rsS x L t true n).1).2 c' (kdN L t (rsS x L t true n).1) with r | r | r
        · exact ⟨0, r, by omega⟩
        · exact ⟨c' + 1, r, by omega⟩
        · exact ⟨c', r.trans eY, by omega⟩
      · exact ⟨c', eY, by omega⟩
end TT
