/-! ===== steps of one deal ===== -/
section TS
variable {x x' : Sg} {y y' : Rg} {c T : Nat}
theorem Rel.i0 (h : Rel x y c) (hI : ∀ o k, ¬ o = 0 → sI x' o k = sI x o k) (hA : ∀ o k, sA x' o k = sA x o k) (hy : ∀ k, rA y' k = rA y k) (h23 : rI y' 23 = rI y 23) (h0 : R0 x' y') : Rel x' y' c := by
  refine ⟨h0, ?_, fun e he => ?_, fun n hn => ?_⟩
  · simp only [RT, hI 1 _ (by decide), hA, hy, h23]; exact h.2.1
  · exact (h.d he).cg (fun k _ => hI _ _ (by omega)) (fun k j _ _ => by rw [hA]) (fun k _ _ _ => by rw [hy]) (fun k i _ _ _ => by rw [hy]) (fun v _ => by rw [hy])
  · exact (h.2.2.2 n hn).cg (fun k => hI _ _ (by omega)) (fun k j => by rw [hA]) (fun j _ => by rw [hy])
theorem Inv.i0 (h : Inv y c T) (hy : ∀ k, rA y' k = rA y k) (h2 : rI y' 2 = rI y 2) (h17 : rI y' 17 = rI y 17) : Inv y' c T := by
  refine ⟨by rw [h2, h17]; exact h.1, fun e he => (h.2.1 e he).cg (fun k _ _ _ => by rw [hy]) (fun i _ => by rw [hy]) (fun i _ => by rw [hy]), fun i hi => ?_, ?_⟩
  · unfold SI'; rw [hy, hy]; exact h.2.2.1 i hi
  · unfold TD; rw [hy, hy]; exact h.2.2.2
/-- fails -/
def ctC (x : Sg) (w : Int32) : Sg :=
  let y := pI x 0 9 (sI x 0 9 + 1)
  let y := if w = -12 then pI y 0 10 (sI x 0 10 + 1) else y
  if w = -13 then pI y 0 11 (sI x 0 11 + 1) else y
def ctR (y : Rg) (w : Int32) : Rg := qI (qI (qI y 19 (rI y 19 + 1)) 20 (rI y 20 + (if w = -12 then 1 else 0))) 21 (rI y 21 + (if w = -13 then 1 else 0))
theorem loS_eq (x : Sg) (d : Nat) (w : Int32) : loS x d w = frD (ctC x w) d true := rfl
theorem faR_eq (y : Rg) (d : Nat) (w : Int32) : faR y d w = frR (ctR y w) d true := rfl
theorem ctC_ne (x : Sg) (w : Int32) (o k : Nat) (ho : ¬ o = 0) : sI (ctC x w) o k = sI x o k := by
  unfold ctC
  by_cases h1 : w = -12 <;> by_cases h2 : w = -13 <;> simp [h1, h2, sI_pI, ho]
theorem ctC_A (x : Sg) (w : Int32) (o k : Nat) : sA (ctC x w) o k = sA x o k := by
  unfold ctC
  by_cases h1 : w = -12 <;> by_cases h2 : w = -13 <;> simp [h1, h2, sA_pI]
theorem ctC_0 (x : Sg) (w : Int32) (k : Nat) : sI (ctC x w) 0 k = if k = 9 then sI x 0 9 + 1 else if k = 10 then sI x 0 10 + (if w = -12 then 1 else 0) else if k = 11 then sI x 0 11 + (if w = -13 then 1 else 0) else sI x 0 k := by
  unfold ctC
  by_cases h1 : w = -12
  · subst h1
    rw [if_neg (show ¬ (-12 : Int32) = -13 by decide), if_pos rfl, if_pos rfl, if_neg (show ¬ (-12 : Int32) = -13 by decide), sI_pI, sI_pI, add0]
    by_cases k9 : k = 9
    · subst k9; rfl
    · by_cases k10 : k = 10
      · subst k10; rfl
      · by_cases k11 : k = 11
        · subst k11; rfl
        · simp [k9, k10, k11]
  · by_cases h2 : w = -13
    · subst h2
      rw [if_pos rfl, if_neg (show ¬ (-13 : Int32) = -12 by decide), if_neg (show ¬ (-13 : Int32) = -12 by decide), if_pos rfl, sI_pI, sI_pI, add0]
      by_cases k9 : k = 9
      · subst k9; rfl
      · by_cases k10 : k = 10
        · subst k10; rfl
        · by_cases k11 : k = 11
          · subst k11; rfl
          · simp [k9, k10, k11]
    · rw [if_neg h1, if_neg h2, if_neg h1, if_neg h2, sI_pI, add0, add0]
      by_cases k9 : k = 9
      · subst k9; rfl
      · by_cases k10 : k = 10
        · subst k10; rfl
        · by_cases k11 : k = 11
          · subst k11; rfl
          · simp [k9, k10, k11]
theorem Rel.lo (h : Rel x y c) {d : Nat} (hd : d < 6) {w w' : Int32} (h12 : w = -12 ↔ w' = -12) (h13 : w = -13 ↔ w' = -13) : Rel (loS x d w) (faR y d w') c := by
  rw [loS_eq, faR_eq]
  refine Rel.fr (y := ctR y w') (h.i0 (y' := ctR y w') (fun o k ho => ctC_ne x w o k ho) (fun o k => ctC_A x w o k) (fun k => rfl) rfl ?_) hd true
  have h0 := h.1.1
  have e12 : (if w = -12 then (1 : Int32) else 0) = if w' = -12 then 1 else 0 := by by_cases q : w = -12; rw [if_pos q, if_pos (h12.mp q)]; rw [if_neg q, if_neg (fun z => q (h12.mpr z))]
  have e13 : (if w = -13 then (1 : Int32) else 0) = if w' = -13 then 1 else 0 := by by_cases q : w = -13; rw [if_pos q, if_pos (h13.mp q)]; rw [if_neg q, if_neg (fun z => q (h13.mpr z))]
  refine ⟨⟨?_, ?_, ?_, ?_, ?_, ?_, ?_⟩, ?_, ?_⟩
  · rw [ctC_0]; exact h0.1
  · rw [ctC_0]; exact h0.2.1
  · rw [ctC_0]; exact h0.2.2.1
  · rw [ctC_0]; exact h0.2.2.2.1
  · rw [ctC_0, if_pos rfl, h0.2.2.2.2.1]; rfl
  · rw [ctC_0, if_neg (by decide), if_pos rfl, h0.2.2.2.2.2.1, e12]; rfl
  · rw [ctC_0, if_neg (by decide), if_neg (by decide), if_pos rfl, h0.2.2.2.2.2.2, e13]; rfl
  · rw [ctC_A]; exact h.1.2.1
  · rw [ctC_A]; exact h.1.2.2
theorem Inv.fa (h : Inv y c T) {d : Nat} (hd : d < 6) (w : Int32) : Inv (faR y d w) c T := by
  rw [faR_eq]
  exact Inv.fr (h.i0 (fun _ => rfl) rfl rfl) hd true
theorem lo_N (x : Sg) (d : Nat) (w : Int32) : sN (loS x d w) = sN x := by
  rw [loS_eq]
  show sN (ctC x w) = sN x
  unfold ctC
  by_cases h1 : w = -12 <;> by_cases h2 : w = -13 <;> simp [h1, h2, sN_pI]
/-! begin, retry -/
theorem opD_ne {d o k : Nat} {a b z : Int32} (ho : ¬ o = 2 + d) : sI (opD x d a b z) o k = sI x o k := by simp [opD, sI_pI, ho]
theorem beY_o {d k j : Nat} (h : k < 4 ∨ 10 < k ∨ ¬ j = d) : rA (beY y d) k j = rA y k j := by
  simp only [beY, opR, rA_u, rA_qI] <;> (repeat' split) <;> first | rfl | (subst_vars; rfl) | omega
theorem beY_3 (y : Rg) (d k : Nat) (hk : k < 4 ∨ 10 < k) : rA (beY y d) k = rA y k := funext fun j => beY_o (by omega)
theorem Rel.be (h : Rel x y c) (hI : Inv y c T) {d : Nat} (hd : d < 6) (h0 : rA y 4 d = 0) : Rel (opD (pI x 0 7 (sI x 0 7 + 1)) d (sI x 0 5) (sI x 0 7 + 1) 0) (beY y d) c := by
  have hz := (hI.2.1 d hd).2.1 h0
  refine ⟨⟨?_, ?_, ?_⟩, ?_, fun e he => ?_, fun n hn => ?_⟩
  · have := h.1.1
    have e0 : ∀ k, sI (opD (pI x 0 7 (sI x 0 7 + 1)) d (sI x 0 5) (sI x 0 7 + 1) 0) 0 k = sI (pI x 0 7 (sI x 0 7 + 1)) 0 k := fun k => opD_ne (by omega)
    simp only [e0]
    simp [sI_pI, beY, opR, rI_qI, rI_qA, this]
  · rw [beY_3 y d 0 (by decide)]; exact h.1.2.1
  · rw [beY_3 y d 1 (by decide)]; exact h.1.2.2
  · refine ⟨?_, ?_, ?_⟩
    · rw [beY_3 y d 22 (by decide)]; exact h.2.1.1
    · rw [opD_ne (by omega), sI_ne (by omega)]; exact h.2.1.2.1
    · rw [beY_3 y d 29 (by decide)]; exact h.2.1.2.2
  · by_cases q : e = d
    · subst q
      have h1 := h.d hd
      have h00 := h.1.1
      refine ⟨?_, fun i hi => ?_, fun z => ?_, fun _ => ?_⟩
      · simp [opD, beY, opR, sI_pI, rA_u, rA_qI, rI_qA, h00, h1.1.1, h.reads hd, h.writes hd, hz]
      · simp only [beY_o (k := 11) (Or.inr (Or.inl (by decide))), beY_o (k := 12) (Or.inr (Or.inl (by decide))), beY_o (k := 13) (Or.inr (Or.inl (by decide)))]; exact h1.2.1 i hi
      · exfalso; simp [beY, opR, rA_u, rA_qI] at z
      · have := h1.2.2.2 (by rw [h0]; decide)
        simp [opD, sI_pI, this]
    · exact (h.d he).cg (fun k _ => (opD_ne (by omega)).trans (sI_ne (by omega))) (fun k j _ _ => rfl) (fun k _ _ _ => beY_o (by omega)) (fun k i _ _ _ => beY_o (by omega)) (fun v _ => beY_o (by omega))
  · exact (h.2.2.2 n hn).cg (fun k => (opD_ne (by omega)).trans (sI_ne (by omega))) (fun k j => rfl) (fun j _ => beY_o (by omega))
theorem reY_o {d k j : Nat} (h : k < 4 ∨ 10 < k ∨ ¬ j = d) : rA (reY y d) k j = rA y k j := by
  simp only [reY, opR, rA_u, rA_qI] <;> (repeat' split) <;> first | rfl | (subst_vars; rfl) | omega
theorem reY_3 (y : Rg) (d k : Nat) (hk : k < 4 ∨ 10 < k) : rA (reY y d) k = rA y k := funext fun j => reY_o (by omega)
theorem Rel.re (h : Rel x y c) (hI : Inv y c T) {d : Nat} (hd : d < 6) (h0 : rA y 4 d = 0) : Rel (opD x d (sI x 0 5) (sI x (2 + d) 3) (sI x (2 + d) 4 + 1)) (reY y d) c := by
  have hz := (hI.2.1 d hd).2.1 h0
  refine ⟨⟨?_, ?_, ?_⟩, ?_, fun e he => ?_, fun n hn => ?_⟩
  · have := h.1.1
    have e0 : ∀ k, sI (opD x d (sI x 0 5) (sI x (2 + d) 3) (sI x (2 + d) 4 + 1)) 0 k = sI x 0 k := fun k => opD_ne (by omega)
    simp only [e0]
    simp [sI_pI, reY, opR, rI_qI, rI_qA, this]
  · rw [reY_3 y d 0 (by decide)]; exact h.1.2.1
  · rw [reY_3 y d 1 (by decide)]; exact h.1.2.2
  · refine ⟨?_, ?_, ?_⟩
    · rw [reY_3 y d 22 (by decide)]; exact h.2.1.1
    · rw [opD_ne (by omega)]; exact h.2.1.2.1
    · rw [reY_3 y d 29 (by decide)]; exact h.2.1.2.2
  · by_cases q : e = d
    · subst q
      have h1 := h.d hd
      have h00 := h.1.1
      refine ⟨?_, fun i hi => ?_, fun z => ?_, fun _ => ?_⟩
      · simp [opD, reY, opR, sI_pI, rA_u, rA_qI, rI_qA, h00, h1.1.1, h.reads hd, h.writes hd, h.age hd, h.tries hd, hz]
      · simp only [reY_o (k := 11) (Or.inr (Or.inl (by decide))), reY_o (k := 12) (Or.inr (Or.inl (by decide))), reY_o (k := 13) (Or.inr (Or.inl (by decide)))]; exact h1.2.1 i hi
      · exfalso; simp [reY, opR, rA_u, rA_qI] at z
      · have := h1.2.2.2 (by rw [h0]; decide)
        simp [opD, sI_pI, this]
    · exact (h.d he).cg (fun k _ => opD_ne (by omega)) (fun k j _ _ => rfl) (fun k _ _ _ => reY_o (by omega)) (fun k i _ _ _ => reY_o (by omega)) (fun v _ => reY_o (by omega))
  · exact (h.2.2.2 n hn).cg (fun k => opD_ne (by omega)) (fun k j => rfl) (fun j _ => reY_o (by omega))
theorem Inv.opn (h : Inv y c T) {d : Nat} (hd : d < 6) (h2 : rI y' 2 = rI y 2) (h17 : rI y' 17 = rI y 17) (ho : ∀ k j, (k < 4 ∨ 10 < k ∨ ¬ j = d) → rA y' k j = rA y k j) (h4 : rA y' 4 d = 1) (h8 : rA y' 8 d = 0) (h9 : rA y' 9 d = 0) (h10 : rA y' 10 d = 0) (h5 : rA y' 5 d = rI y 2) : Inv y' c T := by
  refine ⟨by rw [h2, h17]; exact h.1, fun e he => ?_, fun i hi => ?_, fun e f he hf hef g1 g2 => ?_⟩
  · by_cases q : e = d
    · subst q
      refine ⟨Or.inr (Or.inl h4), fun z => ?_, fun z => absurd h8 z, ⟨c, Nat.le_refl _, h5.trans h.1.1, fun i hi hb => ?_⟩, ⟨⟨0, by decide, h9⟩, 0, by decide, h10⟩, fun z => ?_⟩
      · rw [h4] at z; exact absurd z (by decide)
      · rw [h9, hasB_0 (by omega)] at hb; cases hb
      · rw [h4] at z; exact absurd z (by decide)
    · exact (h.2.1 e he).cg (fun k _ _ _ => ho _ _ (by omega)) (fun i _ => ho _ _ (by omega)) (fun i _ => ho _ _ (by omega))
  · obtain ⟨k, k1, k2, k3, k4⟩ := h.2.2.1 i hi
    refine ⟨k, k1, ?_, ?_, fun n n1 n2 => ?_⟩
    · rw [ho _ _ (by omega)]; exact k2
    · rw [ho _ _ (by omega)]; exact k3
    · rw [ho _ _ (by omega)]; exact k4 n n1 n2
  · have n1 : ¬ e = d := fun q => by subst q; rw [h4] at g1; exact absurd g1 (by decide)
    have n2 : ¬ f = d := fun q => by subst q; rw [h4] at g2; exact absurd g2 (by decide)
    rw [ho _ _ (by omega)] at g1 g2
    rw [ho _ _ (by omega), ho _ _ (by omega)]
    exact h.2.2.2 e f he hf hef g1 g2
theorem Inv.be (h : Inv y c T) {d : Nat} (hd : d < 6) : Inv (beY y d) c T := h.opn hd rfl rfl (fun k j q => beY_o q) (by simp [beY, opR, rA_u, rA_qI]) (by simp [beY, opR, rA_u, rA_qI]) (by simp [beY, opR, rA_u, rA_qI]) (by simp [beY, opR, rA_u, rA_qI]) (by simp [beY, opR, rA_u, rA_qI])
theorem Inv.re (h : Inv y c T) {d : Nat} (hd : d < 6) : Inv (reY y d) c T := h.opn hd rfl rfl (fun k j q => reY_o q) (by simp [reY, opR, rA_u, rA_qI]) (by simp [reY, opR, rA_u, rA_qI]) (by simp [reY, opR, rA_u, rA_qI]) (by simp [reY, opR, rA_u, rA_qI]) (by simp [reY, opR, rA_u, rA_qI])
end TS
