/-! ===== the states: the class's (ints by object and slot, arrays by object and slot, how many entries were made, their addresses), the reference's ===== -/
def wl {I : Type} (L : List I) (ad : I → Nat) (E : I → va_E) : va_W := L.map (fun i => (ad i, E i))
theorem wl_get {I : Type} {L : List I} {ad : I → Nat} {E : I → va_E} {i : I} (h : i ∈ L) : ∃ k : Nat, (wl L ad E)[k]? = some (ad i, E i) := List.getElem?_of_mem (List.mem_map.mpr ⟨i, h, rfl⟩)
theorem wl_set {I : Type} {A : Nat → Prop} {L : List I} {ad : I → Nat} {E E' : I → va_E} {i : I} {k : Nat} {e : va_E} (hD : va_D A (wl L ad E)) (h : i ∈ L) (hk : (wl L ad E)[k]? = some (ad i, E i)) (h0 : E' i = e) (hE : ∀ j, j ∈ L → j ≠ i → E' j = E j) : (wl L ad E).set k (ad i, e) = wl L ad E' := by
  have hl := (List.getElem?_eq_some_iff.mp hk).1
  obtain ⟨k0, hk0⟩ := List.getElem?_of_mem h
  have hw0 : (wl L ad E)[k0]? = some (ad i, E i) := by simp only [wl, List.getElem?_map, hk0]; rfl
  have e0 : k0 = k := hD.1 k0 k _ _ hw0 hk rfl
  subst e0
  apply List.ext_getElem?
  intro j
  by_cases hj : j = k0
  · subst hj
    rw [List.getElem?_set_self hl]
    simp only [wl, List.getElem?_map, hk0, Option.map_some, h0]
  · rw [List.getElem?_set_ne (Ne.symm hj)]
    simp only [wl, List.getElem?_map]
    cases hb : L[j]? with
    | none => rfl
    | some b =>
      have hne : b ≠ i := by
        intro hbi
        subst hbi
        have hw : (wl L ad E)[j]? = some (ad b, E b) := by simp only [wl, List.getElem?_map, hb]; rfl
        exact hj (hD.1 j k0 _ _ hw hk rfl)
      simp only [Option.map_some, hE b (List.mem_of_getElem? hb) hne]
/-- the class's state: addresses of entries; ints; arrays; how many entries there are -/
abbrev Sg : Type := (Nat → Nat → Nat) × (Nat → Nat → Int32) × (Nat → Nat → Nat → Int32) × Nat
def sE (x : Sg) (n k : Nat) : Nat := x.1 n k
def sI (x : Sg) (o k : Nat) : Int32 := x.2.1 o k
def sA (x : Sg) (o k : Nat) : Nat → Int32 := x.2.2.1 o k
def sN (x : Sg) : Nat := x.2.2.2
def pI (x : Sg) (o k : Nat) (v : Int32) : Sg := (x.1, (fun o' k' => if o' = o ∧ k' = k then v else x.2.1 o' k'), x.2.2.1, x.2.2.2)
def pA (x : Sg) (o k : Nat) (f : Nat → Int32) : Sg := (x.1, x.2.1, (fun o' k' => if o' = o ∧ k' = k then f else x.2.2.1 o' k'), x.2.2.2)
theorem sI_pI (x : Sg) (o k : Nat) (v : Int32) (o' k' : Nat) : sI (pI x o k v) o' k' = if o' = o ∧ k' = k then v else sI x o' k' := rfl
theorem sA_pI (x : Sg) (o k : Nat) (v : Int32) (o' k' : Nat) : sA (pI x o k v) o' k' = sA x o' k' := rfl
theorem sN_pI (x : Sg) (o k : Nat) (v : Int32) : sN (pI x o k v) = sN x := rfl
theorem sE_pI (x : Sg) (o k : Nat) (v : Int32) (n j : Nat) : sE (pI x o k v) n j = sE x n j := rfl
theorem sI_pA (x : Sg) (o k : Nat) (f : Nat → Int32) (o' k' : Nat) : sI (pA x o k f) o' k' = sI x o' k' := rfl
theorem sA_pA (x : Sg) (o k : Nat) (f : Nat → Int32) (o' k' : Nat) : sA (pA x o k f) o' k' = if o' = o ∧ k' = k then f else sA x o' k' := rfl
theorem sN_pA (x : Sg) (o k : Nat) (f : Nat → Int32) : sN (pA x o k f) = sN x := rfl
theorem sE_pA (x : Sg) (o k : Nat) (f : Nat → Int32) (n j : Nat) : sE (pA x o k f) n j = sE x n j := rfl
def fX (g : Nat → Nat → Nat) (x : Sg) : List Value := [.ref (g 1 0), .ref (g 0 2), .ref (g 0 3), .ref (g 0 4), .ref (g 0 5), .int (sI x 0 5), .int (sI x 0 6), .int (sI x 0 7), .int (sI x 0 8), .int (sI x 0 9), .int (sI x 0 10), .int (sI x 0 11)]
def fT (g : Nat → Nat → Nat) (x : Sg) : List Value := [.ref (g 1 1), .int (sI x 1 1), .ref (g 1 3), .ref (g 1 4), .int (sI x 1 4), .int (sI x 1 5), .int (sI x 1 6)]
def fD (g : Nat → Nat → Nat) (x : Sg) (o : Nat) : List Value := [.int (sI x o 0), .int (sI x o 1), .int (sI x o 2), .int (sI x o 3), .int (sI x o 4), .int (sI x o 5), .int (sI x o 6), .int (sI x o 7), .int (sI x o 8), .ref (g o 10), .ref (g o 11), .ref (g o 12), .ref (g o 13)]
def fE (x : Sg) (o : Nat) : List Value := [.int (sI x o 0), .int (sI x o 1), .int (sI x o 2), .int (sI x o 3), .int (sI x o 4), .int (sI x o 5), .ref (sE x (o - 8) 7), .ref (sE x (o - 8) 8)]
abbrev aR (f : Nat → Option Nat) : (Nat → Int32) ⊕ (Nat → Int64) ⊕ (Nat → UInt32) ⊕ (Nat → UInt64) ⊕ (Nat → Option Nat) := .inr (.inr (.inr (.inr f)))
def entF (x : Sg) (n : Nat) : Option Nat := if n < sN x then some (sE x n 0) else none
def c0 (G : Cx) (g : Nat → Nat → Nat) (x : Sg) (k : Nat) : va_E := if k = 0 then .inr (3, fX g x) else if k = 4 then .inl (G.2.1 2, 6, aR (fun d => some (g (2 + d) 0))) else if k = 5 then .inl (G.2.1 3, 512, aR (entF x)) else .inl (G.2.1 0, 8, .inl (sA x 0 (k - 1)))
def c1 (G : Cx) (g : Nat → Nat → Nat) (x : Sg) (k : Nat) : va_E := if k = 0 then .inr (2, fT g x) else .inl (G.2.1 0, (if k = 1 then 200 else if k = 3 then 24 else 72), .inl (sA x 1 (k - 1)))
def c2 (G : Cx) (g : Nat → Nat → Nat) (x : Sg) (o k : Nat) : va_E := if k = 0 then .inr (0, fD g x o) else .inl (G.2.1 0, (if k = 13 then 2 else 8), .inl (sA x o (k - 1)))
def c3 (G : Cx) (x : Sg) (o k : Nat) : va_E := if k = 0 then .inr (1, fE x o) else .inl (G.2.1 0, 8, .inl (sA x o (k - 1)))
def cE (G : Cx) (g : Nat → Nat → Nat) (x : Sg) (i : Nat × Nat) : va_E := if i.1 = 0 then c0 G g x i.2 else if i.1 = 1 then c1 G g x i.2 else if i.1 < 8 then c2 G g x i.1 i.2 else c3 G x i.1 i.2
def cad (g : Nat → Nat → Nat) (x : Sg) (i : Nat × Nat) : Nat := if i.1 < 8 then g i.1 i.2 else sE x (i.1 - 8) i.2
def cIx (n : Nat) : List (Nat × Nat) := [(0, 0), (0, 2), (0, 3), (0, 4), (0, 5), (1, 0), (1, 1), (1, 3), (1, 4)] ++ ((List.range 6).flatMap (fun d => [(2 + d, 0), (2 + d, 10), (2 + d, 11), (2 + d, 12), (2 + d, 13)]) ++ (List.range n).flatMap (fun k => [(8 + k, 0), (8 + k, 7), (8 + k, 8)]))
def cw (G : Cx) (g : Nat → Nat → Nat) (x : Sg) : va_W := wl (cIx (sN x)) (cad g x) (cE G g x)
theorem cIx_0 {n k : Nat} (h : k = 0 ∨ k = 2 ∨ k = 3 ∨ k = 4 ∨ k = 5) : (0, k) ∈ cIx n := by
  refine List.mem_append_left _ ?_
  rcases h with rfl | rfl | rfl | rfl | rfl <;> decide
theorem cIx_1 {n k : Nat} (h : k = 0 ∨ k = 1 ∨ k = 3 ∨ k = 4) : (1, k) ∈ cIx n := by
  refine List.mem_append_left _ ?_
  rcases h with rfl | rfl | rfl | rfl <;> decide
theorem cIx_D {n d k : Nat} (hd : d < 6) (h : k = 0 ∨ k = 10 ∨ k = 11 ∨ k = 12 ∨ k = 13) : (2 + d, k) ∈ cIx n := by
  refine List.mem_append_right _ (List.mem_append_left _ (List.mem_flatMap.mpr ⟨d, List.mem_range.mpr hd, ?_⟩))
  rcases h with rfl | rfl | rfl | rfl | rfl <;> simp
theorem cIx_E {n e k : Nat} (he : e < n) (h : k = 0 ∨ k = 7 ∨ k = 8) : (8 + e, k) ∈ cIx n := by
  refine List.mem_append_right _ (List.mem_append_right _ (List.mem_flatMap.mpr ⟨e, List.mem_range.mpr he, ?_⟩))
  rcases h with rfl | rfl | rfl <;> simp
theorem cE_pI_ne {G : Cx} {g : Nat → Nat → Nat} {x : Sg} {o k : Nat} {v : Int32} {i : Nat × Nat} (h : i ≠ (o, 0)) : cE G g (pI x o k v) i = cE G g x i := by
  obtain ⟨a, b⟩ := i
  by_cases hb : b = 0
  · subst hb
    have ha : ¬ a = o := fun q => h (by rw [q])
    simp only [cE, c0, c1, c2, c3, fX, fT, fD, fE, sI_pI, sA_pI, sE_pI, entF, sN_pI]
    by_cases h0 : a = 0
    · subst h0; simp [ha]
    · by_cases h1 : a = 1
      · subst h1; simp [ha]
      · simp [ha, h0, h1]
  · simp only [cE, c0, c1, c2, c3, hb, if_false, sA_pI, entF, sN_pI, sE_pI]
    rfl
theorem cE_pA_ne {G : Cx} {g : Nat → Nat → Nat} {x : Sg} {o k : Nat} {f : Nat → Int32} {i : Nat × Nat} (h : i ≠ (o, k + 1)) : cE G g (pA x o k f) i = cE G g x i := by
  obtain ⟨a, b⟩ := i
  by_cases hb : b = 0
  · subst hb
    simp only [cE, c0, c1, c2, c3, fX, fT, fD, fE, sI_pA, sE_pA, entF, sN_pA, if_true]
  · have hc : ¬ (a = o ∧ b - 1 = k) := fun q => h (by rw [q.1, ← q.2, Nat.sub_add_cancel (by omega)])
    have e1 : ∀ a', a' = a → sA (pA x o k f) a' (b - 1) = sA x a' (b - 1) := fun a' ha => by rw [sA_pA, if_neg (by rw [ha]; exact hc)]
    simp only [cE, c0, c1, c2, c3, hb, if_false, entF, sN_pA, sE_pA]
    by_cases h0 : a = 0
    · subst h0; simp only [e1 0 rfl]
      rfl
    · by_cases h1 : a = 1
      · subst h1; simp only [if_neg (show ¬ (1 : Nat) = 0 by decide), if_true, e1 1 rfl]
      · simp only [h0, h1, if_false, e1 a rfl]
theorem cw_pI {G : Cx} {g : Nat → Nat → Nat} {x : Sg} {A : Nat → Prop} {o k q : Nat} {v : Int32} {e : va_E} (hD : va_D A (cw G g x)) (hm : (o, 0) ∈ cIx (sN x)) (hq : (cw G g x)[q]? = some (cad g x (o, 0), cE G g x (o, 0))) (he : cE G g (pI x o k v) (o, 0) = e) : (cw G g x).set q (cad g x (o, 0), e) = cw G g (pI x o k v) :=
  wl_set hD hm hq he (fun _ _ hj => cE_pI_ne hj)
theorem cw_pA {G : Cx} {g : Nat → Nat → Nat} {x : Sg} {A : Nat → Prop} {o k q : Nat} {f : Nat → Int32} {e : va_E} (hD : va_D A (cw G g x)) (hm : (o, k + 1) ∈ cIx (sN x)) (hq : (cw G g x)[q]? = some (cad g x (o, k + 1), cE G g x (o, k + 1))) (he : cE G g (pA x o k f) (o, k + 1) = e) : (cw G g x).set q (cad g x (o, k + 1), e) = cw G g (pA x o k f) :=
  wl_set hD hm hq he (fun _ _ hj => cE_pA_ne hj)
/-! the reference's state: ints by slot, arrays by slot -/
abbrev Rg : Type := (Nat → Int32) × (Nat → Nat → Int32)
def rI (x : Rg) (k : Nat) : Int32 := x.1 k
def rA (x : Rg) (k : Nat) : Nat → Int32 := x.2 k
def qI (x : Rg) (k : Nat) (v : Int32) : Rg := ((fun j => if j = k then v else x.1 j), x.2)
def qA (x : Rg) (k : Nat) (f : Nat → Int32) : Rg := (x.1, (fun j => if j = k then f else x.2 j))
theorem rI_qI (x : Rg) (k : Nat) (v : Int32) (j : Nat) : rI (qI x k v) j = if j = k then v else rI x j := rfl
theorem rA_qI (x : Rg) (k : Nat) (v : Int32) (j : Nat) : rA (qI x k v) j = rA x j := rfl
theorem rI_qA (x : Rg) (k : Nat) (f : Nat → Int32) (j : Nat) : rI (qA x k f) j = rI x j := rfl
theorem rA_qA (x : Rg) (k : Nat) (f : Nat → Int32) (j : Nat) : rA (qA x k f) j = if j = k then f else rA x j := rfl
def rL (k : Nat) : Nat := if k < 2 then 8 else if k = 3 then 13200 else if k < 11 then 6 else if k < 14 then 48 else if k = 14 then 6 else if k = 15 then 12 else if k = 22 then 200 else if k = 28 then 3 else 35
def fM (h : Nat → Nat) (x : Rg) : List Value := [.ref (h 1), .ref (h 2), .int (rI x 2), .ref (h 4), .ref (h 5), .ref (h 6), .ref (h 7), .ref (h 8), .ref (h 9), .ref (h 10), .ref (h 11), .ref (h 12), .ref (h 13), .ref (h 14), .ref (h 15), .ref (h 16), .int (rI x 16), .int (rI x 17), .int (rI x 18), .int (rI x 19), .int (rI x 20), .int (rI x 21), .ref (h 23), .int (rI x 23), .int (rI x 24), .int (rI x 25), .int (rI x 26), .int (rI x 27), .ref (h 29), .ref (h 30)]
def rE (G : Cx) (h : Nat → Nat) (x : Rg) (i : Nat) : va_E := if i = 0 then .inr (4, fM h x) else .inl ((if i = 9 then G.2.1 1 else G.2.1 0), rL (i - 1), .inl (rA x (i - 1)))
def rIx : List Nat := [0, 1, 2, 4, 5, 6, 7, 8, 9, 10, 11, 12, 13, 14, 15, 16, 23, 29, 30]
def rw' (G : Cx) (h : Nat → Nat) (x : Rg) : va_W := wl rIx h (rE G h x)
theorem rE_qI_ne {G : Cx} {h : Nat → Nat} {x : Rg} {k i : Nat} {v : Int32} (hi : i ≠ 0) : rE G h (qI x k v) i = rE G h x i := by
  simp only [rE, hi, if_false, rA_qI]
theorem rE_qA_ne {G : Cx} {h : Nat → Nat} {x : Rg} {k i : Nat} {f : Nat → Int32} (hi : i ≠ k + 1) : rE G h (qA x k f) i = rE G h x i := by
  by_cases h0 : i = 0
  · subst h0; simp only [rE, if_true, fM, rI_qA]
  · have : ¬ i - 1 = k := by omega
    simp only [rE, h0, if_false, rA_qA, this]
theorem rw_qI {G : Cx} {h : Nat → Nat} {x : Rg} {A : Nat → Prop} {k q : Nat} {v : Int32} {e : va_E} (hD : va_D A (rw' G h x)) (hq : (rw' G h x)[q]? = some (h 0, rE G h x 0)) (he : rE G h (qI x k v) 0 = e) : (rw' G h x).set q (h 0, e) = rw' G h (qI x k v) :=
  wl_set hD (by decide) hq he (fun _ _ hj => rE_qI_ne hj)
theorem rw_qA {G : Cx} {h : Nat → Nat} {x : Rg} {A : Nat → Prop} {k q : Nat} {f : Nat → Int32} {e : va_E} (hD : va_D A (rw' G h x)) (hm : k + 1 ∈ rIx) (hq : (rw' G h x)[q]? = some (h (k + 1), rE G h x (k + 1))) (he : rE G h (qA x k f) (k + 1) = e) : (rw' G h x).set q (h (k + 1), e) = rw' G h (qA x k f) :=
  wl_set hD hm hq he (fun _ _ hj => rE_qA_ne hj)
