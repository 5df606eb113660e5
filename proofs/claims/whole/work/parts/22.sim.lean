/-! ===== class and reference side by side ===== -/
def DR (x : Sg) (y : Rg) (d : Nat) : Prop :=
  (sI x (2 + d) 0 = nI d ∧ sI x (2 + d) 1 = rA y 4 d ∧ sI x (2 + d) 2 = rA y 5 d ∧ sI x (2 + d) 3 = rA y 6 d ∧ sI x (2 + d) 4 = rA y 7 d ∧ sI x (2 + d) 8 = rA y 8 d ∧ sI x (2 + d) 5 = rA y 9 d ∧ sI x (2 + d) 6 = rA y 10 d) ∧
  (∀ i, i < 8 → sA x (2 + d) 9 i = rA y 11 (8 * d + i) ∧ sA x (2 + d) 10 i = rA y 12 (8 * d + i) ∧ sA x (2 + d) 11 i = rA y 13 (8 * d + i)) ∧
  (rA y 4 d = 3 → sI x (2 + d) 7 = rA y 14 d ∧ ∀ v, v < 2 → sA x (2 + d) 12 v = rA y 15 (6 * v + d) - 1) ∧ (¬ rA y 4 d = 3 → sI x (2 + d) 7 = -1)
def ER (x : Sg) (y : Rg) (n : Nat) : Prop :=
  (∀ k, k < 6 → sI x (8 + n) k = rA y 3 (22 * n + k)) ∧
  ∀ i, i < 8 → rA y 3 (22 * n + 6 + i) = (if hasB (sI x (8 + n) 3) (nI i) = true then sA x (8 + n) 6 i else -1) ∧ rA y 3 (22 * n + 14 + i) = (if hasB (sI x (8 + n) 4) (nI i) = true then sA x (8 + n) 7 i else -1)
def R0 (x : Sg) (y : Rg) : Prop :=
  (sI x 0 5 = rI y 2 ∧ sI x 0 6 = rI y 16 ∧ sI x 0 7 = rI y 18 ∧ sI x 0 8 = rI y 17 ∧ sI x 0 9 = rI y 19 ∧ sI x 0 10 = rI y 20 ∧ sI x 0 11 = rI y 21) ∧
  (sA x 0 1 = rA y 0 ∧ sA x 0 2 = rA y 1)
def RT (x : Sg) (y : Rg) : Prop := sA x 1 0 = rA y 22 ∧ sI x 1 1 = rI y 23 ∧ rA y 29 = wdT
def Rel (x : Sg) (y : Rg) (c : Nat) : Prop := R0 x y ∧ RT x y ∧ (∀ d, d < 6 → DR x y d) ∧ ∀ n, n < c → ER x y n
/-! what the reference keeps -/
def SI' (y : Rg) (c i : Nat) : Prop := ∃ k, k ≤ c ∧ rA y 1 i = nI k ∧ (k = 0 ∨ hasB (rA y 3 (22 * (k - 1) + 4)) (nI i) = true) ∧ ∀ n, k ≤ n → n < c → hasB (rA y 3 (22 * n + 4)) (nI i) = false
def DI (y : Rg) (c T d : Nat) : Prop :=
  (rA y 4 d = 0 ∨ rA y 4 d = 1 ∨ rA y 4 d = 2 ∨ rA y 4 d = 3) ∧ (rA y 4 d = 0 → rA y 9 d = 0 ∧ rA y 10 d = 0) ∧ (¬ rA y 8 d = 0 → rA y 4 d = 0) ∧
  (∃ s, s ≤ c ∧ rA y 5 d = nI s ∧ ∀ i, i < 8 → hasB (rA y 9 d) (nI i) = true → rA y 1 i = rA y 12 (8 * d + i) ∨ ∃ k, k ≤ c ∧ rA y 1 i = nI k ∧ s < k) ∧
  ((∃ m, m < 256 ∧ rA y 9 d = nI m) ∧ ∃ m, m < 256 ∧ rA y 10 d = nI m) ∧ (rA y 4 d = 3 → ∃ τ, τ ≤ T ∧ rA y 14 d = nI τ)
def TD (y : Rg) : Prop := ∀ d e, d < 6 → e < 6 → ¬ d = e → rA y 4 d = 3 → rA y 4 e = 3 → ¬ rA y 14 d = rA y 14 e
def Inv (y : Rg) (c T : Nat) : Prop := (rI y 2 = nI c ∧ rI y 17 = nI T ∧ c ≤ 512 ∧ T < 2 ^ 30) ∧ (∀ d, d < 6 → DI y c T d) ∧ (∀ i, i < 8 → SI' y c i) ∧ TD y
/-! ===== congruences ===== -/
theorem cntB_cg {p q : Nat → Bool} : ∀ {n : Nat}, (∀ j, j < n → p j = q j) → cntB p n = cntB q n
  | 0, _ => rfl
  | n + 1, h => by rw [cntB, cntB, cntB_cg (fun j hj => h j (by omega)), h n (by omega)]
theorem orB_cg {p q : Nat → Bool} : ∀ {n : Nat}, (∀ j, j < n → p j = q j) → orB p n = orB q n
  | 0, _ => rfl
  | n + 1, h => by rw [orB, orB, orB_cg (fun j hj => h j (by omega)), h n (by omega)]
theorem exB_cg {p q : Nat → Bool} : ∀ {n : Nat}, (∀ j, j < n → p j = q j) → exB p n = exB q n
  | 0, _ => rfl
  | n + 1, h => by rw [exB, exB, exB_cg (fun j hj => h j (by omega)), h n (by omega)]
theorem fstN_cg {p q : Nat → Bool} : ∀ {n : Nat}, (∀ j, j < n → p j = q j) → fstN p n = fstN q n
  | 0, _ => rfl
  | n + 1, h => by rw [fstN, fstN, fstN_cg (fun j hj => h j (by omega)), h n (by omega)]
theorem foI_cg {f g : Nat → Int32 → Int32} {a : Int32} : ∀ {n : Nat}, (∀ j b, j < n → f j b = g j b) → foI f a n = foI g a n
  | 0, _ => rfl
  | n + 1, h => by rw [foI, foI, foI_cg (fun j b hj => h j b (by omega)), h n _ (by omega)]
section SM
variable {x : Sg} {y : Rg} {c T : Nat}
theorem Rel.d {d : Nat} (h : Rel x y c) (hd : d < 6) : DR x y d := h.2.2.1 d hd
theorem Rel.num (h : Rel x y c) : Nm x := fun e he => (h.d he).1.1
theorem Rel.st {d : Nat} (h : Rel x y c) (hd : d < 6) : sI x (2 + d) 1 = rA y 4 d := (h.d hd).1.2.1
theorem Rel.reads {d : Nat} (h : Rel x y c) (hd : d < 6) : sI x (2 + d) 5 = rA y 9 d := (h.d hd).1.2.2.2.2.2.2.1
theorem Rel.writes {d : Nat} (h : Rel x y c) (hd : d < 6) : sI x (2 + d) 6 = rA y 10 d := (h.d hd).1.2.2.2.2.2.2.2
theorem Rel.start {d : Nat} (h : Rel x y c) (hd : d < 6) : sI x (2 + d) 2 = rA y 5 d := (h.d hd).1.2.2.1
theorem Rel.age {d : Nat} (h : Rel x y c) (hd : d < 6) : sI x (2 + d) 3 = rA y 6 d := (h.d hd).1.2.2.2.1
theorem Rel.tries {d : Nat} (h : Rel x y c) (hd : d < 6) : sI x (2 + d) 4 = rA y 7 d := (h.d hd).1.2.2.2.2.1
theorem Rel.lost {d : Nat} (h : Rel x y c) (hd : d < 6) : sI x (2 + d) 8 = rA y 8 d := (h.d hd).1.2.2.2.2.2.1
theorem Rel.nv {d i : Nat} (h : Rel x y c) (hd : d < 6) (hi : i < 8) : sA x (2 + d) 9 i = rA y 11 (8 * d + i) := ((h.d hd).2.1 i hi).1
theorem Rel.ns {d i : Nat} (h : Rel x y c) (hd : d < 6) (hi : i < 8) : sA x (2 + d) 10 i = rA y 12 (8 * d + i) := ((h.d hd).2.1 i hi).2.1
theorem Rel.wv {d i : Nat} (h : Rel x y c) (hd : d < 6) (hi : i < 8) : sA x (2 + d) 11 i = rA y 13 (8 * d + i) := ((h.d hd).2.1 i hi).2.2
theorem Rel.val (h : Rel x y c) : sA x 0 1 = rA y 0 := h.1.2.1
theorem Rel.stp (h : Rel x y c) : sA x 0 2 = rA y 1 := h.1.2.2
theorem Rel.tk {d : Nat} (h : Rel x y c) (hd : d < 6) (h3 : rA y 4 d = 3) : sI x (2 + d) 7 = rA y 14 d := ((h.d hd).2.2.1 h3).1
theorem Rel.vt {d v : Nat} (h : Rel x y c) (hd : d < 6) (h3 : rA y 4 d = 3) (hv : v < 2) : sA x (2 + d) 12 v = rA y 15 (6 * v + d) - 1 := ((h.d hd).2.2.1 h3).2 v hv
theorem Rel.how (h : Rel x y c) (st : Int32) : howM x st = inS y st := cntB_cg (fun d hd => by rw [h.st hd])
theorem Rel.stlE {d : Nat} (h : Rel x y c) (hd : d < 6) : stl x d = slR y d := orB_cg (fun i hi => by rw [h.reads hd, h.stp, h.ns hd hi])
theorem Rel.rivE {d : Nat} (h : Rel x y c) (hd : d < 6) : riv x d = rvR y d := orB_cg (fun e he => by rw [h.st he, h.reads he, h.writes hd])
theorem Rel.stbE {d : Nat} (h : Rel x y c) (hd : d < 6) : stB x d = stR y d := by rw [stB, stR, h.tries hd, h.1.1.2.1]
theorem Rel.gf {a b : Nat} (h : Rel x y c) (ha : a < 6) (hb : b < 6) : gfB x a b = gfR y a b := by rw [gfB, gfR, h.stbE ha, h.stbE hb, h.age ha, h.age hb]
theorem Rel.my {d : Nat} (h : Rel x y c) (hd : d < 6) : myB x d = wkR y d (rvR y d) := exB_cg (fun e he => by rw [h.rivE hd, h.gf he hd])
theorem Rel.av (h : Rel x y c) : avI x = foI (fun i a => a + rA y 0 i) 0 8 := by rw [avI, h.val]
end SM
/-! ===== bits ===== -/
theorem gl_or (a b : Int32) (l : Nat) : (a ||| b).toBitVec.getLsbD l = (a.toBitVec.getLsbD l || b.toBitVec.getLsbD l) := by rw [Int32.toBitVec_or, BitVec.getLsbD_or]
theorem gl_and (a b : Int32) (l : Nat) : (a &&& b).toBitVec.getLsbD l = (a.toBitVec.getLsbD l && b.toBitVec.getLsbD l) := by rw [Int32.toBitVec_and, BitVec.getLsbD_and]
theorem gl_0 (l : Nat) : (0 : Int32).toBitVec.getLsbD l = false := BitVec.getLsbD_zero
theorem gl_bt (n l : Nat) (hn : n < 32) : (bt (nI n)).toBitVec.getLsbD l = decide (l = n) := by
  unfold bt
  rw [sh32 n hn, BitVec.getLsbD_twoPow, decide_eq_true hn]
  simp [eq_comm]
theorem gl_orB (p : Nat → Bool) (l : Nat) : ∀ n, n ≤ 32 → (orB p n).toBitVec.getLsbD l = (decide (l < n) && p l)
  | 0, _ => by rw [orB, gl_0]; simp
  | n + 1, h => by
    have ih := gl_orB p l n (by omega)
    rw [orB]
    by_cases e : l = n
    · subst e
      by_cases q : p l = true
      · rw [if_pos q, gl_or, gl_bt l l (by omega), q]; simp
      · rw [if_neg q, ih]; simp at q; simp [q]
    · have e2 : decide (l < n) = decide (l < n + 1) := by rw [decide_eq_decide]; omega
      by_cases q : p n = true
      · rw [if_pos q, gl_or, gl_bt n l (by omega), ih, decide_eq_false e, Bool.or_false, e2]
      · rw [if_neg q, ih, e2]
theorem i32_ext {a b : Int32} (h : ∀ l, l < 32 → a.toBitVec.getLsbD l = b.toBitVec.getLsbD l) : a = b := by
  rw [← Int32.toBitVec_inj]
  exact BitVec.eq_of_getLsbD_eq h
theorem gl_foI (f : Nat → Int32) (l : Nat) : ∀ n, (foI (fun k a => a ||| f k) 0 n).toBitVec.getLsbD l = exB (fun k => (f k).toBitVec.getLsbD l) n
  | 0 => gl_0 l
  | n + 1 => by rw [foI, gl_or, gl_foI f l n, exB]
theorem gl_small {m l : Nat} (hm : m < 256) (hl : 8 ≤ l) : (nI m).toBitVec.getLsbD l = false := by
  have e : (nI m).toBitVec = BitVec.ofNat 32 m := rfl
  rw [e, BitVec.getLsbD_ofNat, Nat.testBit_lt_two_pow (Nat.lt_of_lt_of_le hm (show 2 ^ 8 ≤ 2 ^ l from Nat.pow_le_pow_right (by decide) hl)), Bool.and_false]
theorem hasB_0 {i : Nat} (hi : i < 32) : hasB 0 (nI i) = false := by rw [hasB_bit 0 i hi, gl_0]
theorem hasB_bt {i j : Nat} (hj : j < 32) (hi : i < 32) : hasB (bt (nI j)) (nI i) = decide (i = j) := by rw [hasB_bit _ i hi, gl_bt j i hj]
theorem hasB_or {a b : Int32} {i : Nat} (hi : i < 32) : hasB (a ||| b) (nI i) = (hasB a (nI i) || hasB b (nI i)) := by rw [hasB_bit _ i hi, hasB_bit _ i hi, hasB_bit _ i hi, gl_or]
theorem sm_or : ∀ i, i < 8 → ∀ m, m < 256 → (nI m ||| bt (nI i)) = nI (m ||| 2 ^ i) := by decide +kernel
theorem sm_or2 {i m : Nat} (hi : i < 8) (hm : m < 256) : ∃ k, k < 256 ∧ (nI m ||| bt (nI i)) = nI k := ⟨m ||| 2 ^ i, Nat.or_lt_two_pow (n := 8) hm (Nat.pow_lt_pow_right (by decide) hi), sm_or i hi m hm⟩
theorem bc_on : ∀ m, m < 256 → bcI (nI m) = onI (nI m) := by decide +kernel
theorem Rel.crsE {x : Sg} {y : Rg} {c T d s : Nat} (h : Rel x y c) (hI : Inv y c T) (hd : d < 6) (hs : rA y 5 d = nI s) (hs0 : s ≤ c) : crs x d = crR y d s (c - s) := by
  obtain ⟨⟨-, -, hc, -⟩, hDI, hSI, -⟩ := hI
  obtain ⟨m, hm, hrm⟩ := (hDI d hd).2.2.2.2.1.1
  refine i32_ext (fun l hl => ?_)
  unfold crs crR
  rw [gl_orB _ l 8 (by decide), gl_foI (fun k => rA y 9 d &&& rA y 3 (22 * (s + k) + 4))]
  rw [h.reads hd, h.stp, h.start hd, hs]
  rcases Nat.lt_or_ge l 8 with q | q
  · obtain ⟨k, hk, e1, e2, e3⟩ := hSI l q
    rw [decide_eq_true q, Bool.true_and, e1, hasB_bit _ l hl]
    cases hb : (rA y 9 d).toBitVec.getLsbD l
    · rw [Bool.false_and, exB_f]
      intro j _
      rw [gl_and, hb, Bool.false_and]
    · rw [Bool.true_and]
      by_cases g : s < k
      · rw [decide_eq_false (fun z => by have := (nI_leI (by omega) (by omega)).mp z; omega)]
        refine (exB_t (i := k - 1 - s) ?_ (by omega)).symm
        rw [gl_and, hb, Bool.true_and, show s + (k - 1 - s) = k - 1 by omega]
        rcases e2 with e2 | e2
        · omega
        · rw [hasB_bit _ l hl] at e2; exact e2
      · rw [decide_eq_true (nI_le (by omega) (by omega)), exB_f]
        · rfl
        · intro j hj
          have := e3 (s + j) (by omega) (by omega)
          rw [hasB_bit _ l hl] at this
          rw [gl_and, this, Bool.and_false]
  · rw [decide_eq_false (by omega), Bool.false_and, exB_f]
    intro j _
    rw [gl_and, hrm, gl_small hm q, Bool.false_and]
