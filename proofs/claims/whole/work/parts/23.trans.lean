/-! ===== single steps, side by side ===== -/
theorem rA_u (z : Rg) (k0 : Nat) (f : Nat → Int32) (d : Nat) (v : Int32) (k j : Nat) : rA (qA z k0 (upd f d v)) k j = if k = k0 then (if j = d then v else f j) else rA z k j := by
  rw [rA_qA]
  split <;> rfl
theorem sA_u (z : Sg) (o0 k0 : Nat) (f : Nat → Int32) (i : Nat) (v : Int32) (o k j : Nat) : sA (pA z o0 k0 (upd f i v)) o k j = if o = o0 ∧ k = k0 then (if j = i then v else f j) else sA z o k j := by
  rw [sA_pA]
  split <;> rfl
section TR
variable {x : Sg} {y : Rg} {c T : Nat}
theorem DR.cg {x' : Sg} {y' : Rg} {d : Nat} (h : DR x y d) (hI : ∀ k, k ≤ 8 → sI x' (2 + d) k = sI x (2 + d) k) (hA : ∀ k j, 9 ≤ k → k ≤ 12 → sA x' (2 + d) k j = sA x (2 + d) k j) (hy : ∀ k, 4 ≤ k → k ≤ 14 → (k ≤ 10 ∨ k = 14) → rA y' k d = rA y k d) (h8 : ∀ k i, i < 8 → 11 ≤ k → k ≤ 13 → rA y' k (8 * d + i) = rA y k (8 * d + i)) (h15 : ∀ v, v < 2 → rA y' 15 (6 * v + d) = rA y 15 (6 * v + d)) : DR x' y' d := by
  obtain ⟨⟨a0, a1, a2, a3, a4, a5, a6, a7⟩, b, e, f⟩ := h
  have q4 := hy 4 (by decide) (by decide) (by decide)
  refine ⟨⟨?_, ?_, ?_, ?_, ?_, ?_, ?_, ?_⟩, fun i hi => ⟨?_, ?_, ?_⟩, fun h3 => ⟨?_, fun v hv => ?_⟩, fun h3 => ?_⟩
  · rw [hI 0 (by decide)]; exact a0
  · rw [hI 1 (by decide), q4]; exact a1
  · rw [hI 2 (by decide), hy 5 (by decide) (by decide) (by decide)]; exact a2
  · rw [hI 3 (by decide), hy 6 (by decide) (by decide) (by decide)]; exact a3
  · rw [hI 4 (by decide), hy 7 (by decide) (by decide) (by decide)]; exact a4
  · rw [hI 8 (by decide), hy 8 (by decide) (by decide) (by decide)]; exact a5
  · rw [hI 5 (by decide), hy 9 (by decide) (by decide) (by decide)]; exact a6
  · rw [hI 6 (by decide), hy 10 (by decide) (by decide) (by decide)]; exact a7
  · rw [hA 9 i (by decide) (by decide), h8 11 i hi (by decide) (by decide)]; exact (b i hi).1
  · rw [hA 10 i (by decide) (by decide), h8 12 i hi (by decide) (by decide)]; exact (b i hi).2.1
  · rw [hA 11 i (by decide) (by decide), h8 13 i hi (by decide) (by decide)]; exact (b i hi).2.2
  · rw [q4] at h3; rw [hI 7 (by decide), hy 14 (by decide) (by decide) (by decide)]; exact (e h3).1
  · rw [q4] at h3; rw [hA 12 v (by decide) (by decide), h15 v hv]; exact (e h3).2 v hv
  · rw [q4] at h3; rw [hI 7 (by decide)]; exact f h3
theorem ER.cg {x' : Sg} {y' : Rg} {n : Nat} (h : ER x y n) (hI : ∀ k, sI x' (8 + n) k = sI x (8 + n) k) (hA : ∀ k j, sA x' (8 + n) k j = sA x (8 + n) k j) (hy : ∀ j, j < 22 → rA y' 3 (22 * n + j) = rA y 3 (22 * n + j)) : ER x' y' n := by
  refine ⟨fun k hk => ?_, fun i hi => ⟨?_, ?_⟩⟩
  · rw [hI k, hy k (by omega)]; exact h.1 k hk
  · have := hy (6 + i) (by omega)
    rw [← Nat.add_assoc] at this
    rw [this, hI, hA]; exact (h.2 i hi).1
  · have := hy (14 + i) (by omega)
    rw [← Nat.add_assoc] at this
    rw [this, hI, hA]; exact (h.2 i hi).2
theorem DI.cg {y' : Rg} {d : Nat} (h : DI y c T d) (hy : ∀ k, 4 ≤ k → k ≤ 14 → (k ≤ 10 ∨ k = 14) → rA y' k d = rA y k d) (h1 : ∀ i, i < 8 → rA y' 1 i = rA y 1 i) (h12 : ∀ i, i < 8 → rA y' 12 (8 * d + i) = rA y 12 (8 * d + i)) : DI y' c T d := by
  obtain ⟨a, b, e, ⟨s, s1, s2, s3⟩, f, g⟩ := h
  refine ⟨?_, ?_, ?_, ⟨s, s1, ?_, fun i hi hb => ?_⟩, ?_, ?_⟩
  · rw [hy 4 (by decide) (by decide) (by decide)]; exact a
  · rw [hy 4 (by decide) (by decide) (by decide), hy 9 (by decide) (by decide) (by decide), hy 10 (by decide) (by decide) (by decide)]; exact b
  · rw [hy 4 (by decide) (by decide) (by decide), hy 8 (by decide) (by decide) (by decide)]; exact e
  · rw [hy 5 (by decide) (by decide) (by decide)]; exact s2
  · rw [hy 9 (by decide) (by decide) (by decide)] at hb
    rw [h1 i hi, h12 i hi]; exact s3 i hi hb
  · rw [hy 9 (by decide) (by decide) (by decide), hy 10 (by decide) (by decide) (by decide)]; exact f
  · rw [hy 4 (by decide) (by decide) (by decide), hy 14 (by decide) (by decide) (by decide)]; exact g
/-! frees -/
theorem frD_ne {d o k : Nat} {b : Bool} (ho : ¬ o = 2 + d) : sI (frD x d b) o k = sI x o k := by cases b <;> simp [frD, sI_pI, ho]
theorem frD_A (x : Sg) (d : Nat) (b : Bool) (o k : Nat) : sA (frD x d b) o k = sA x o k := by cases b <;> rfl
theorem frR_o {d k j : Nat} {b : Bool} (h : k < 4 ∨ 10 < k ∨ ¬ j = d) : rA (frR y d b) k j = rA y k j := by
  cases b <;> simp only [frR, rA_u, Bool.false_eq_true, if_false, if_true] <;> (repeat' split) <;> first | rfl | (subst_vars; rfl) | omega
theorem frR_3 (y : Rg) (d : Nat) (b : Bool) (k : Nat) (hk : k < 4 ∨ 10 < k) : rA (frR y d b) k = rA y k := funext fun j => frR_o (by omega)
theorem Rel.fr (h : Rel x y c) {d : Nat} (hd : d < 6) (b : Bool) : Rel (frD x d b) (frR y d b) c := by
  have hR : ∀ k, sI (frD x d b) 0 k = sI x 0 k := fun k => frD_ne (by omega)
  have hR1 : ∀ k, sI (frD x d b) 1 k = sI x 1 k := fun k => frD_ne (by omega)
  refine ⟨?_, ?_, fun e he => ?_, fun n hn => ?_⟩
  · simp only [R0, hR, frD_A, rI_frR, frR_3 y d b 0 (by decide), frR_3 y d b 1 (by decide)]; exact h.1
  · simp only [RT, hR1, frD_A, rI_frR, frR_3 y d b 22 (by decide), frR_3 y d b 29 (by decide)]; exact h.2.1
  · by_cases q : e = d
    · subst q
      have he := h.d hd
      refine ⟨?_, fun i hi => ?_, fun z => ?_, fun _ => ?_⟩
      · cases b
        · simp [frD, frR, sI_pI, rA_u]; exact he.1.1
        · simp [frD, frR, sI_pI, rA_u]; exact ⟨he.1.1, he.1.2.2.2.1, he.1.2.2.2.2.1⟩
      · simp only [frD_A, frR_o (k := 11) (Or.inr (Or.inl (by decide))), frR_o (k := 12) (Or.inr (Or.inl (by decide))), frR_o (k := 13) (Or.inr (Or.inl (by decide)))]; exact he.2.1 i hi
      · exfalso; cases b <;> simp [frR, rA_u] at z
      · cases b <;> simp [frD, sI_pI]
    · exact (h.d he).cg (fun k _ => frD_ne (by omega)) (fun k j _ _ => by rw [frD_A]) (fun k _ _ _ => frR_o (by omega)) (fun k i _ _ _ => frR_o (by omega)) (fun v _ => frR_o (by omega))
  · exact (h.2.2.2 n hn).cg (fun k => frD_ne (by omega)) (fun k j => by rw [frD_A]) (fun j _ => frR_o (by omega))
theorem Inv.fr (h : Inv y c T) {d : Nat} (hd : d < 6) (b : Bool) : Inv (frR y d b) c T := by
  refine ⟨?_, fun e he => ?_, fun i hi => ?_, fun e f he hf hef h1 h2 => ?_⟩
  · rw [rI_frR, rI_frR]; exact h.1
  · by_cases q : e = d
    · subst q
      refine ⟨Or.inl ?_, fun _ => ⟨?_, ?_⟩, fun _ => ?_, ⟨0, Nat.zero_le _, ?_, fun i hi hb => ?_⟩, ⟨⟨0, by decide, ?_⟩, 0, by decide, ?_⟩, fun z => ?_⟩
      · cases b <;> simp [frR, rA_u]
      · cases b <;> simp [frR, rA_u]
      · cases b <;> simp [frR, rA_u]
      · cases b <;> simp [frR, rA_u]
      · cases b <;> simp [frR, rA_u] <;> rfl
      · exfalso
        rw [show rA (frR y e b) 9 e = 0 from by cases b <;> simp [frR, rA_u], hasB_0 (by omega)] at hb; cases hb
      · cases b <;> simp [frR, rA_u] <;> rfl
      · cases b <;> simp [frR, rA_u] <;> rfl
      · exfalso; cases b <;> simp [frR, rA_u] at z
    · exact (h.2.1 e he).cg (fun k _ _ _ => frR_o (by omega)) (fun i _ => frR_o (by omega)) (fun i _ => frR_o (by omega))
  · obtain ⟨k, h1, h2, h3, h4⟩ := h.2.2.1 i hi
    refine ⟨k, h1, ?_, ?_, fun n h5 h6 => ?_⟩
    · rw [frR_o (by omega)]; exact h2
    · rw [frR_o (by omega)]; exact h3
    · rw [frR_o (by omega)]; exact h4 n h5 h6
  · have n1 : ¬ e = d := fun q => by subst q; cases b <;> simp [frR, rA_u] at h1
    have n2 : ¬ f = d := fun q => by subst q; cases b <;> simp [frR, rA_u] at h2
    rw [frR_o (by omega)] at h1 h2
    rw [frR_o (by omega), frR_o (by omega)]
    exact h.2.2.2 e f he hf hef h1 h2
end TR
