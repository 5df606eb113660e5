/-! ===== more steps of one deal ===== -/
section TM
variable {x x' : Sg} {y y' : Rg} {c T : Nat}
/-- what holds for the other deals, and for the rest -/
theorem Rel.upd1 (h : Rel x y c) {d : Nat} (hd6 : d < 6) (hI : ∀ o k, ¬ o = 2 + d → sI x' o k = sI x o k) (hA : ∀ o k j, ¬ o = 2 + d → sA x' o k j = sA x o k j) (hr : ∀ k, rI y' k = rI y k) (ho : ∀ k j, (k < 4 ∨ 15 < k) → rA y' k j = rA y k j) (hd4 : ∀ k e, e < 6 → ¬ e = d → 4 ≤ k → k ≤ 14 → (k ≤ 10 ∨ k = 14) → rA y' k e = rA y k e) (hd8 : ∀ k e i, e < 6 → ¬ e = d → i < 8 → 11 ≤ k → k ≤ 13 → rA y' k (8 * e + i) = rA y k (8 * e + i)) (h15 : ∀ v e, e < 6 → ¬ e = d → v < 2 → rA y' 15 (6 * v + e) = rA y 15 (6 * v + e)) (hD : DR x' y' d) : Rel x' y' c := by
  have hA' : ∀ o k, ¬ o = 2 + d → sA x' o k = sA x o k := fun o k q => funext fun j => hA o k j q
  have ho' : ∀ k, (k < 4 ∨ 15 < k) → rA y' k = rA y k := fun k q => funext fun j => ho k j q
  refine ⟨?_, ?_, fun e he => ?_, fun n hn => ?_⟩
  · simp only [R0, hI 0 _ (by omega), hA' 0 _ (by omega), hr, ho' 0 (by decide), ho' 1 (by decide)]; exact h.1
  · simp only [RT, hI 1 _ (by omega), hA' 1 _ (by omega), hr, ho' 22 (by decide), ho' 29 (by decide)]; exact h.2.1
  · by_cases q : e = d
    · subst q; exact hD
    · exact (h.d he).cg (fun k _ => hI _ _ (by omega)) (fun k j _ _ => hA _ _ _ (by omega)) (fun k a b g => hd4 k e he q a b g) (fun k i a b g => hd8 k e i he q a b g) (fun v g => h15 v e he q g)
  · exact (h.2.2.2 n hn).cg (fun k => hI _ _ (by omega)) (fun k j => hA _ _ _ (by omega)) (fun j _ => ho _ _ (by decide))
theorem Inv.upd1 (h : Inv y c T) {d : Nat} (hr : ∀ k, rI y' k = rI y k) (ho : ∀ k j, k < 4 → rA y' k j = rA y k j) (hd4 : ∀ k e, e < 6 → ¬ e = d → 4 ≤ k → k ≤ 14 → (k ≤ 10 ∨ k = 14) → rA y' k e = rA y k e) (hd8 : ∀ e i, e < 6 → ¬ e = d → i < 8 → rA y' 12 (8 * e + i) = rA y 12 (8 * e + i)) (h14 : rA y' 14 d = rA y 14 d) (h3 : rA y' 4 d = 3 → rA y 4 d = 3) (hD : DI y' c T d) : Inv y' c T := by
  refine ⟨by rw [hr, hr]; exact h.1, fun e he => ?_, fun i hi => ?_, fun e f he hf hef g1 g2 => ?_⟩
  · by_cases q : e = d
    · subst q; exact hD
    · exact (h.2.1 e he).cg (fun k a b g => hd4 k e he q a b g) (fun i _ => ho _ _ (by decide)) (fun i g => hd8 e i he q g)
  · obtain ⟨k, k1, k2, k3, k4⟩ := h.2.2.1 i hi
    refine ⟨k, k1, ?_, ?_, fun n n1 n2 => ?_⟩
    · rw [ho _ _ (by decide)]; exact k2
    · rw [ho _ _ (by decide)]; exact k3
    · rw [ho _ _ (by decide)]; exact k4 n n1 n2
  · have a1 : rA y 4 e = 3 := by
      by_cases q : e = d
      · subst q; exact h3 g1
      · rw [← hd4 4 e he q (by decide) (by decide) (by decide)]; exact g1
    have a2 : rA y 4 f = 3 := by
      by_cases q : f = d
      · subst q; exact h3 g2
      · rw [← hd4 4 f hf q (by decide) (by decide) (by decide)]; exact g2
    have b1 : rA y' 14 e = rA y 14 e := by
      by_cases q : e = d
      · subst q; exact h14
      · exact hd4 14 e he q (by decide) (by decide) (by decide)
    have b2 : rA y' 14 f = rA y 14 f := by
      by_cases q : f = d
      · subst q; exact h14
      · exact hd4 14 f hf q (by decide) (by decide) (by decide)
    rw [b1, b2]
    exact h.2.2.2 e f he hf hef a1 a2
/-! read -/
theorem rdY_o {d i k j : Nat} (h : (¬ k = 9 ∧ ¬ k = 11 ∧ ¬ k = 12) ∨ (k = 9 ∧ ¬ j = d) ∨ (¬ k = 9 ∧ ¬ j = 8 * d + i)) : rA (rdY y d i) k j = rA y k j := by
  simp only [rdY, rA_u] <;> (repeat' split) <;> first | rfl | (subst_vars; rfl) | omega
theorem noD_I {d i o k : Nat} {v t : Int32} : sI (noD x d i v t) o k = if o = 2 + d ∧ k = 5 then sI x (2 + d) 5 ||| bt (nI i) else sI x o k := by simp only [noD, sI_pI, sI_pA]
theorem noD_A {d i o k j : Nat} {v t : Int32} : sA (noD x d i v t) o k j = if o = 2 + d ∧ k = 10 then (if j = i then t else sA x (2 + d) 10 j) else if o = 2 + d ∧ k = 9 then (if j = i then v else sA x (2 + d) 9 j) else sA x o k j := by simp only [noD, sA_u, sA_pI]
theorem Rel.no (h : Rel x y c) {d i : Nat} (hd : d < 6) (hi : i < 8) : Rel (noD x d i (sA x 0 1 i) (sA x 0 2 i)) (rdY y d i) c := by
  refine h.upd1 (d := d) hd (fun o k q => by rw [noD_I, if_neg (fun z => q z.1)]) (fun o k j q => by rw [noD_A, if_neg (fun z => q z.1), if_neg (fun z => q z.1)]) (fun _ => rfl) (fun k j _ => rdY_o (by omega)) (fun k e _ _ _ _ _ => rdY_o (by omega)) (fun k e i' _ _ _ _ _ => rdY_o (by omega)) (fun v e _ _ _ => rdY_o (by omega)) ?_
  have h1 := h.d hd
  have hv := h.val
  have hs := h.stp
  refine ⟨?_, fun j hj => ?_, fun z => ?_, fun z => ?_⟩
  · simp [noD_I, rdY, rA_u, h1.1]
  · have q := h1.2.1 j hj
    simp only [noD_A, rdY, rA_u, Nat.add_left_cancel_iff]
    by_cases e : j = i
    · subst e; simp [hv, hs, q]
    · simp [e, q]
  · rw [rdY_o (by omega)] at z
    rw [rdY_o (by omega), noD_I, if_neg (by omega)]
    refine ⟨(h1.2.2.1 z).1, fun v hv => ?_⟩
    rw [rdY_o (by omega), noD_A, if_neg (by omega), if_neg (by omega)]
    exact (h1.2.2.1 z).2 v hv
  · rw [rdY_o (by omega)] at z
    rw [noD_I, if_neg (by omega)]; exact h1.2.2.2 z
theorem Inv.rd (h : Inv y c T) {d i : Nat} (hd : d < 6) (hi : i < 8) (h1 : rA y 4 d = 1) : Inv (rdY y d i) c T := by
  have hD := h.2.1 d hd
  refine h.upd1 (d := d) (fun _ => rfl) (fun k j _ => rdY_o (by omega)) (fun k e _ _ _ _ _ => rdY_o (by omega)) (fun e i' _ _ _ => rdY_o (by omega)) (rdY_o (by omega)) (fun z => by rw [rdY_o (by omega)] at z; exact z) ?_
  have e9 : rA (rdY y d i) 9 d = rA y 9 d ||| bt (nI i) := by simp [rdY, rA_u]
  obtain ⟨s, s1, s2, s3⟩ := hD.2.2.2.1
  obtain ⟨m, m1, m2⟩ := hD.2.2.2.2.1.1
  refine ⟨by rw [rdY_o (by omega)]; exact hD.1, fun z => ?_, fun z => ?_, ⟨s, s1, by rw [rdY_o (by omega)]; exact s2, fun j hj hb => ?_⟩, ⟨?_, by rw [rdY_o (by omega)]; exact hD.2.2.2.2.1.2⟩, fun z => ?_⟩
  · rw [rdY_o (by omega), h1] at z; exact absurd z (by decide)
  · rw [rdY_o (by omega)] at z ⊢; exact hD.2.2.1 z
  · rw [e9, hasB_or (by omega), hasB_bt (by omega) (by omega)] at hb
    rw [rdY_o (k := 1) (by omega)]
    by_cases e : j = i
    · subst e; left; simp [rdY, rA_u]
    · rw [decide_eq_false e, Bool.or_false] at hb
      rw [rdY_o (k := 12) (by omega)]
      exact s3 j hj hb
  · rw [e9, m2]; exact sm_or2 hi m1
  · rw [rdY_o (by omega)] at z ⊢; exact hD.2.2.2.2.2 z
/-! lay -/
theorem laY_o {d i k j : Nat} {v : Int32} (h : (¬ k = 10 ∧ ¬ k = 13) ∨ (k = 10 ∧ ¬ j = d) ∨ (¬ k = 10 ∧ ¬ j = 8 * d + i)) : rA (laY y d i v) k j = rA y k j := by
  simp only [laY, rA_u] <;> (repeat' split) <;> first | rfl | (subst_vars; rfl) | omega
theorem laS_I {d i o k : Nat} {v : Int32} : sI (laS x d i v) o k = if o = 2 + d ∧ k = 6 then sI x (2 + d) 6 ||| bt (nI i) else sI x o k := by simp only [laS, sI_pI, sI_pA]
theorem laS_A {d i o k j : Nat} {v : Int32} : sA (laS x d i v) o k j = if o = 2 + d ∧ k = 11 then (if j = i then v else sA x (2 + d) 11 j) else sA x o k j := by simp only [laS, sA_u, sA_pI]
theorem Rel.la (h : Rel x y c) {d i : Nat} (hd : d < 6) (hi : i < 8) (v : Int32) : Rel (laS x d i v) (laY y d i v) c := by
  refine h.upd1 (d := d) hd (fun o k q => by rw [laS_I, if_neg (fun z => q z.1)]) (fun o k j q => by rw [laS_A, if_neg (fun z => q z.1)]) (fun _ => rfl) (fun k j _ => laY_o (by omega)) (fun k e _ _ _ _ _ => laY_o (by omega)) (fun k e i' _ _ _ _ _ => laY_o (by omega)) (fun v e _ _ _ => laY_o (by omega)) ?_
  have h1 := h.d hd
  refine ⟨?_, fun j hj => ?_, fun z => ?_, fun z => ?_⟩
  · simp [laS_I, laY, rA_u, h1.1]
  · have q := h1.2.1 j hj
    simp only [laS_A, laY, rA_u, Nat.add_left_cancel_iff]
    by_cases e : j = i
    · subst e; simp [q]
    · simp [e, q]
  · rw [laY_o (by omega)] at z
    rw [laY_o (by omega), laS_I, if_neg (by omega)]
    refine ⟨(h1.2.2.1 z).1, fun v hv => ?_⟩
    rw [laY_o (by omega), laS_A, if_neg (by omega)]
    exact (h1.2.2.1 z).2 v hv
  · rw [laY_o (by omega)] at z
    rw [laS_I, if_neg (by omega)]; exact h1.2.2.2 z
theorem Inv.la (h : Inv y c T) {d i : Nat} (hd : d < 6) (hi : i < 8) (v : Int32) (h1 : rA y 4 d = 1) : Inv (laY y d i v) c T := by
  have hD := h.2.1 d hd
  refine h.upd1 (d := d) (fun _ => rfl) (fun k j _ => laY_o (by omega)) (fun k e _ _ _ _ _ => laY_o (by omega)) (fun e i' _ _ _ => laY_o (by omega)) (laY_o (by omega)) (fun z => by rw [laY_o (by omega)] at z; exact z) ?_
  obtain ⟨s, s1, s2, s3⟩ := hD.2.2.2.1
  obtain ⟨m, m1, m2⟩ := hD.2.2.2.2.1.2
  refine ⟨by rw [laY_o (by omega)]; exact hD.1, fun z => ?_, fun z => ?_, ⟨s, s1, by rw [laY_o (by omega)]; exact s2, fun j hj hb => ?_⟩, ⟨by rw [laY_o (by omega)]; exact hD.2.2.2.2.1.1, ?_⟩, fun z => ?_⟩
  · rw [laY_o (by omega), h1] at z; exact absurd z (by decide)
  · rw [laY_o (by omega)] at z ⊢; exact hD.2.2.1 z
  · rw [laY_o (by omega)] at hb
    rw [laY_o (k := 1) (by omega), laY_o (k := 12) (by omega)]
    exact s3 j hj hb
  · rw [show rA (laY y d i v) 10 d = rA y 10 d ||| bt (nI i) from by simp [laY, rA_u], m2]; exact sm_or2 hi m1
  · rw [laY_o (by omega)] at z ⊢; exact hD.2.2.2.2.2 z
/-! vote -/
theorem Rel.vo (h : Rel x y c) {d v : Nat} (hd : d < 6) (hv : v < 2) (b : Bool) : Rel (pA x (2 + d) 12 (upd (sA x (2 + d) 12) v (bI b))) (qA y 15 (upd (rA y 15) (6 * v + d) (if b = true then 2 else 1))) c := by
  refine h.upd1 (d := d) hd (fun o k q => rfl) (fun o k j q => by rw [sA_u, if_neg (fun z => q z.1)]) (fun _ => rfl) (fun k j _ => by rw [rA_u, if_neg (by omega)]) (fun k e _ _ _ _ _ => by rw [rA_u, if_neg (by omega)]) (fun k e i' _ _ _ _ _ => by rw [rA_u, if_neg (by omega)]) (fun v' e _ _ _ => by rw [rA_u, if_pos rfl, if_neg (by omega)]) ?_
  have h1 := h.d hd
  refine ⟨?_, fun j hj => ?_, fun z => ⟨?_, fun v' hv' => ?_⟩, fun z => ?_⟩
  · simp only [sI_pA, rA_u]; simp [h1.1]
  · have q := h1.2.1 j hj
    simp [sA_u, rA_u, q]
  · rw [rA_u, if_neg (by decide)] at z
    rw [rA_u, if_neg (by decide)]; exact (h1.2.2.1 z).1
  · rw [rA_u, if_neg (by decide)] at z
    rw [rA_u, if_pos rfl, sA_u, if_pos ⟨rfl, rfl⟩]
    by_cases e : v' = v
    · subst e; rw [if_pos rfl, if_pos rfl]; cases b <;> rfl
    · rw [if_neg e, if_neg (by omega)]; exact (h1.2.2.1 z).2 v' hv'
  · rw [rA_u, if_neg (by decide)] at z
    exact h1.2.2.2 z
theorem Inv.vo (h : Inv y c T) {j : Nat} {v : Int32} : Inv (qA y 15 (upd (rA y 15) j v)) c T := by
  have ho : ∀ k i, ¬ k = 15 → rA (qA y 15 (upd (rA y 15) j v)) k i = rA y k i := fun k i q => by rw [rA_u, if_neg q]
  refine ⟨h.1, fun e he => (h.2.1 e he).cg (fun k _ _ _ => ho _ _ (by omega)) (fun i _ => ho _ _ (by omega)) (fun i _ => ho _ _ (by omega)), fun i hi => ?_, fun e f he hf hef g1 g2 => ?_⟩
  · obtain ⟨k, k1, k2, k3, k4⟩ := h.2.2.1 i hi
    refine ⟨k, k1, ?_, ?_, fun n n1 n2 => ?_⟩
    · rw [ho _ _ (by decide)]; exact k2
    · rw [ho _ _ (by decide)]; exact k3
    · rw [ho _ _ (by decide)]; exact k4 n n1 n2
  · rw [ho _ _ (by decide)] at g1 g2
    rw [ho _ _ (by decide), ho _ _ (by decide)]
    exact h.2.2.2 e f he hf hef g1 g2
/-! send -/
theorem snY_o {d k j : Nat} (h : (¬ k = 4 ∧ ¬ k = 14 ∧ ¬ k = 15) ∨ (¬ k = 15 ∧ ¬ j = d) ∨ (k = 15 ∧ ¬ j = d ∧ ¬ j = 6 + d)) : rA (snY y d) k j = rA y k j := by
  simp only [snY, rA_u, rA_qI, upd] <;> (repeat' split) <;> first | rfl | (subst_vars; rfl) | omega
theorem seD_I {d o k : Nat} {t : Int32} : sI (seD x d t) o k = if o = 2 + d ∧ k = 7 then t else if o = 2 + d ∧ k = 1 then 3 else sI x o k := by simp only [seD, foS, sI_pI, sI_pA]
theorem seD_A {d o k j : Nat} {t : Int32} : sA (seD x d t) o k j = if o = 2 + d ∧ k = 12 then (if j = 1 then -1 else if j = 0 then -1 else sA x (2 + d) 12 j) else sA x o k j := by
  simp only [seD, foS, sA_u, sA_pI]
  by_cases h : o = 2 + d ∧ k = 12
  · rw [if_pos h, if_pos h]; simp
  · rw [if_neg h, if_neg h, if_neg h]
theorem Rel.sn (h : Rel x y c) {d : Nat} (hd : d < 6) : Rel (seD (pI x 0 8 (sI x 0 8 + 1)) d (sI x 0 8 + 1)) (snY y d) c := by
  have h8 : sI x 0 8 = rI y 17 := h.1.1.2.2.2.1
  have hz : Rel (pI x 0 8 (sI x 0 8 + 1)) (qI y 17 (rI y 17 + 1)) c := by
    refine h.i0 (fun o k q => sI_ne (by omega)) (fun o k => rfl) (fun k => rfl) rfl ⟨?_, h.1.2⟩
    have h0 := h.1.1
    simp [sI_pI, rI_qI, h0]
  have e1 : ∀ k, rI (snY y d) k = rI (qI y 17 (rI y 17 + 1)) k := fun _ => rfl
  have e2 : ∀ k, rA (qI y 17 (rI y 17 + 1)) k = rA y k := fun _ => rfl
  refine hz.upd1 (d := d) hd (fun o k q => by rw [seD_I, if_neg (fun z => q z.1), if_neg (fun z => q z.1)]) (fun o k j q => by rw [seD_A, if_neg (fun z => q z.1)]) e1 (fun k j _ => snY_o (by omega)) (fun k e _ _ _ _ _ => snY_o (by omega)) (fun k e i' _ _ _ _ _ => snY_o (by omega)) (fun v e _ _ _ => snY_o (by omega)) ?_
  have h1 := hz.d hd
  simp only [DR, e2] at h1
  refine ⟨?_, fun j hj => ?_, fun z => ⟨?_, fun v hv => ?_⟩, fun z => ?_⟩
  · have := h1.1
    simp [seD_I, snY, rA_u, rA_qI, this]
  · have q := h1.2.1 j hj
    simp only [seD_A, rA_u, rA_qI, snY]; simp [q]
  · simp [seD_I, snY, rA_u, rA_qI, h8]
  · rcases (show v = 0 ∨ v = 1 by omega) with rfl | rfl
    · simp only [seD_A, snY, rA_u, rA_qI, upd]; simp
    · simp only [seD_A, snY, rA_u, rA_qI, upd]; simp
  · exfalso; simp [snY, rA_u, rA_qI] at z
theorem DI.mono {d T' : Nat} (h : DI y c T d) (hT : T ≤ T') : DI y c T' d := ⟨h.1, h.2.1, h.2.2.1, h.2.2.2.1, h.2.2.2.2.1, fun z => by obtain ⟨τ, h1, h2⟩ := h.2.2.2.2.2 z; exact ⟨τ, by omega, h2⟩⟩
theorem Inv.sn (h : Inv y c T) {d : Nat} (hd : d < 6) (h1 : rA y 4 d = 1) (hT : T + 1 < 2 ^ 30) : Inv (snY y d) c (T + 1) := by
  have hD := h.2.1 d hd
  have e14 : rA (snY y d) 14 d = nI (T + 1) := by
    rw [show rA (snY y d) 14 d = rI y 17 + 1 from by simp [snY, rA_u, rA_qI], h.1.2.1, nI_1]
  refine ⟨⟨h.1.1, ?_, h.1.2.2.1, hT⟩, fun e he => ?_, fun i hi => ?_, fun e f he hf hef g1 g2 => ?_⟩
  · show rI y 17 + 1 = _
    rw [h.1.2.1, nI_1]
  · by_cases q : e = d
    · subst q
      obtain ⟨s, s1, s2, s3⟩ := hD.2.2.2.1
      refine ⟨Or.inr (Or.inr (Or.inr ?_)), fun z => ?_, fun z => ?_, ⟨s, s1, ?_, fun i hi hb => ?_⟩, ?_, fun _ => ⟨T + 1, Nat.le_refl _, e14⟩⟩
      · simp [snY, rA_u, rA_qI]
      · exfalso; simp [snY, rA_u, rA_qI] at z
      · rw [snY_o (by omega)] at z; exact absurd (hD.2.2.1 z) (by rw [h1]; decide)
      · rw [snY_o (by omega)]; exact s2
      · rw [snY_o (by omega)] at hb; rw [snY_o (k := 1) (by omega), snY_o (k := 12) (by omega)]; exact s3 i hi hb
      · rw [snY_o (by omega), snY_o (by omega)]; exact hD.2.2.2.2.1
    · exact ((h.2.1 e he).mono (by omega)).cg (fun k _ _ _ => snY_o (by omega)) (fun i _ => snY_o (by omega)) (fun i _ => snY_o (by omega))
  · obtain ⟨k, k1, k2, k3, k4⟩ := h.2.2.1 i hi
    refine ⟨k, k1, ?_, ?_, fun n n1 n2 => ?_⟩
    · rw [snY_o (by omega)]; exact k2
    · rw [snY_o (by omega)]; exact k3
    · rw [snY_o (by omega)]; exact k4 n n1 n2
  · have key : ∀ g, g < 6 → ¬ g = d → rA (snY y d) 4 g = 3 → rA y 4 g = 3 ∧ rA (snY y d) 14 g = rA y 14 g ∧ ¬ rA y 14 g = nI (T + 1) := by
      intro g hg gd g3
      rw [snY_o (by omega)] at g3
      refine ⟨g3, snY_o (by omega), fun z => ?_⟩
      obtain ⟨τ, t1, t2⟩ := (h.2.1 g hg).2.2.2.2.2 g3
      have := (nI_eq (a := τ) (b := T + 1) (by omega) (by omega)).mp (t2.symm.trans z)
      omega
    by_cases q1 : e = d
    · subst q1
      obtain ⟨a1, a2, a3⟩ := key f hf (fun z => hef z.symm) g2
      rw [e14, a2]; exact fun z => a3 z.symm
    · obtain ⟨a1, a2, a3⟩ := key e he q1 g1
      by_cases q2 : f = d
      · subst q2; rw [e14, a2]; exact a3
      · obtain ⟨b1, b2, b3⟩ := key f hf q2 g2
        rw [a2, b2]; exact h.2.2.2 e f he hf hef a1 b1
end TM
