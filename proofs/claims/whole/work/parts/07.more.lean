/-! ===== more rows: ints by an equation, loops, numbers ===== -/
abbrev Rm (f n : Nat) : Room := { frames := f, cells := 0, slots := 0, locals := n }
def bI (b : Bool) : Int32 := if b then 1 else 0
theorem bI_t : bI true = 1 := rfl
theorem bI_f : bI false = 0 := rfl
theorem bI_0 {b : Bool} (h : bI b = 0) : b = false := by cases b <;> first | rfl | exact absurd h (by decide)
theorem bI_1 {b : Bool} (h : ¬ bI b = 0) : b = true := by cases b <;> first | rfl | exact absurd rfl h
theorem bI_z (b : Bool) : narrow .boolean (.int (bI b)) = .int (bI b) ∧ fits .boolean (.int (bI b)) = true := by cases b <;> exact ⟨by rfl, by rfl⟩
theorem bI_nar (b : Bool) : vp_nar .boolean (bI b) = bI b := by cases b <;> rfl
theorem z01 {r : Int32} (h : r = 0 ∨ r = 1) : narrow .boolean (.int r) = .int r := by rcases h with rfl | rfl <;> rfl
theorem sI_eq {x : Sg} {o k : Nat} {v : Int32} : sI (pI x o k v) o k = v := if_pos ⟨rfl, rfl⟩
theorem sI_ne {x : Sg} {o k o' k' : Nat} {v : Int32} (h : ¬ (o' = o ∧ k' = k)) : sI (pI x o k v) o' k' = sI x o' k' := if_neg h
theorem sA_eq {x : Sg} {o k : Nat} {f : Nat → Int32} : sA (pA x o k f) o k = f := if_pos ⟨rfl, rfl⟩
theorem sA_ne {x : Sg} {o k o' k' : Nat} {f : Nat → Int32} (h : ¬ (o' = o ∧ k' = k)) : sA (pA x o k f) o' k' = sA x o' k' := if_neg h
theorem lp_end {i N : Nat} {a b : Int32} (h : a ≤ b) (ha : a = nI N) (hb : b = nI i) (hi : i ≤ N) (hN : N < 2 ^ 31) : i = N := by
  subst ha; subst hb
  have := (nI_leI hN (by omega)).mp h
  omega
theorem lp_in {i N : Nat} {a b : Int32} (h : ¬ a ≤ b) (ha : a = nI N) (hb : b = nI i) (hi : i ≤ N) (hN : N < 2 ^ 31) : i < N := by
  subst ha; subst hb
  rcases Nat.lt_or_ge i N with q | q
  · exact q
  · exact absurd (nI_le q (by omega)) h
theorem loop_up {N : Nat} {P : Nat → Heap → List Loc → Array Slot → Prop} {X : Heap → List Loc → Array Slot → Prop} (hs : ∀ i, i ≤ N → (∀ H locs ls, i + 1 ≤ N → P (i + 1) H locs ls → X H locs ls) → ∀ H locs ls, P i H locs ls → X H locs ls) (i : Nat) (hi : i ≤ N) : ∀ H locs ls, P i H locs ls → X H locs ls := by
  have key : ∀ k i, i ≤ N → N - i = k → ∀ H locs ls, P i H locs ls → X H locs ls := by
    intro k
    induction k with
    | zero => intro i hi hk; exact hs i hi (fun _ _ _ h => absurd h (by omega))
    | succ k ih => intro i hi hk; exact hs i hi (fun H locs ls h1 h2 => ih (i + 1) h1 (by omega) H locs ls h2)
  exact key _ i hi rfl
section RW2
variable {p : Program} {l : Launch} {e : Env} {R : Room} {s : State} {m : MethodId} {args : Array Value} {below : List Frame} {meth : Method} {c : Code} {H : Heap} {locs : List Loc} {cells slots : Nat} {Q : State → Prop}
variable {y0 : MethodName} {co0 : ByteArray} {n0 : Nat} {rt0 : Option FieldType} {G : Cx} {A : Nat → Prop} {pc idx : Nat} {ls : Array Slot} {rest : List Value} {g : Nat → Nat → Nat} {x : Sg} {h : Nat → Nat} {z : Rg}
theorem toI {a b : Int32} (he : a = b) (kk : W p l e R s m args below meth c H locs cells slots Q (F0 m pc ls (.int b :: rest))) : W p l e R s m args below meth c H locs cells slots Q (F0 m pc ls (.int a :: rest)) := he ▸ kk
theorem toI2 {v : Value} {a b : Int32} (he : a = b) (kk : W p l e R s m args below meth c H locs cells slots Q (F0 m pc ls (v :: .int b :: rest))) : W p l e R s m args below meth c H locs cells slots Q (F0 m pc ls (v :: .int a :: rest)) := he ▸ kk
theorem gXi {k : Nat} {v : Int32} (hk : 5 ≤ k ∧ k < 12) (hv : sI x 0 k = v) (go : Go l y0 co0 n0 rt0 p s m args meth c) (hw : Wd G A s H locs (cw G g x)) (hdg : decode co0 pc = .ok (.getfield idx, 3)) (hl : Cond.fieldLink y0.cls idx RX3 (TX3 k).2.1 (TX3 k).2.2.1 ∈ gW)
    (kk : W p l e R s m args below meth c H locs cells slots Q (F0 m (pc + 3) ls (.int v :: rest))) : W p l e R s m args below meth c H locs cells slots Q (F0 m pc ls (.ref (g 0 0) :: rest)) := by
  have h5 : (fX g x)[k]? = some (.int (sI x 0 k)) ∧ (TX3 k).1 = RX3 := by
    rcases (show k = 5 ∨ k = 6 ∨ k = 7 ∨ k = 8 ∨ k = 9 ∨ k = 10 ∨ k = 11 by omega) with rfl | rfl | rfl | rfl | rfl | rfl | rfl <;> exact ⟨rfl, rfl⟩
  exact gX (v := .int v) (by rw [← hv]; exact h5.1) hk.2 h5.2 go hw hdg hl kk
theorem gTi {k : Nat} {v : Int32} (hk : k = 1 ∨ k = 4 ∨ k = 5 ∨ k = 6) (hv : sI x 1 k = v) (go : Go l y0 co0 n0 rt0 p s m args meth c) (hw : Wd G A s H locs (cw G g x)) (hdg : decode co0 pc = .ok (.getfield idx, 3)) (hl : Cond.fieldLink y0.cls idx RX2 (TX2 k).2.1 (TX2 k).2.2.1 ∈ gW)
    (kk : W p l e R s m args below meth c H locs cells slots Q (F0 m (pc + 3) ls (.int v :: rest))) : W p l e R s m args below meth c H locs cells slots Q (F0 m pc ls (.ref (g 1 0) :: rest)) := by
  have h5 : (fT g x)[k]? = some (.int (sI x 1 k)) ∧ (TX2 k).1 = RX2 := by
    rcases hk with rfl | rfl | rfl | rfl <;> exact ⟨rfl, rfl⟩
  exact gT (v := .int v) (by rw [← hv]; exact h5.1) (by omega) h5.2 go hw hdg hl kk
theorem gDi {d k : Nat} {v : Int32} (hd : d < 6) (hk : k < 9) (hv : sI x (2 + d) k = v) (go : Go l y0 co0 n0 rt0 p s m args meth c) (hw : Wd G A s H locs (cw G g x)) (hdg : decode co0 pc = .ok (.getfield idx, 3)) (hl : Cond.fieldLink y0.cls idx RX0 (TX0 k).2.1 (TX0 k).2.2.1 ∈ gW)
    (kk : W p l e R s m args below meth c H locs cells slots Q (F0 m (pc + 3) ls (.int v :: rest))) : W p l e R s m args below meth c H locs cells slots Q (F0 m pc ls (.ref (g (2 + d) 0) :: rest)) := by
  have h5 : (fD g x (2 + d))[k]? = some (.int (sI x (2 + d) k)) ∧ (TX0 k).1 = RX0 := by
    rcases (show k = 0 ∨ k = 1 ∨ k = 2 ∨ k = 3 ∨ k = 4 ∨ k = 5 ∨ k = 6 ∨ k = 7 ∨ k = 8 by omega) with rfl | rfl | rfl | rfl | rfl | rfl | rfl | rfl | rfl <;> exact ⟨rfl, rfl⟩
  exact gD hd (v := .int v) (by rw [← hv]; exact h5.1) (by omega) h5.2 go hw hdg hl kk
theorem gEi {n k : Nat} {v : Int32} (hn : n < sN x) (hk : k < 6) (hv : sI x (8 + n) k = v) (go : Go l y0 co0 n0 rt0 p s m args meth c) (hw : Wd G A s H locs (cw G g x)) (hdg : decode co0 pc = .ok (.getfield idx, 3)) (hl : Cond.fieldLink y0.cls idx RX1 (TX1 k).2.1 (TX1 k).2.2.1 ∈ gW)
    (kk : W p l e R s m args below meth c H locs cells slots Q (F0 m (pc + 3) ls (.int v :: rest))) : W p l e R s m args below meth c H locs cells slots Q (F0 m pc ls (.ref (sE x n 0) :: rest)) := by
  have h5 : (fE x (8 + n))[k]? = some (.int (sI x (8 + n) k)) ∧ (TX1 k).1 = RX1 := by
    rcases (show k = 0 ∨ k = 1 ∨ k = 2 ∨ k = 3 ∨ k = 4 ∨ k = 5 by omega) with rfl | rfl | rfl | rfl | rfl | rfl <;> exact ⟨rfl, rfl⟩
  exact gE hn (v := .int v) (by rw [← hv]; exact h5.1) (by omega) h5.2 go hw hdg hl kk
theorem gEr {n k : Nat} (hn : n < sN x) (hk : k = 6 ∨ k = 7) (go : Go l y0 co0 n0 rt0 p s m args meth c) (hw : Wd G A s H locs (cw G g x)) (hdg : decode co0 pc = .ok (.getfield idx, 3)) (hl : Cond.fieldLink y0.cls idx RX1 (TX1 k).2.1 (TX1 k).2.2.1 ∈ gW)
    (kk : W p l e R s m args below meth c H locs cells slots Q (F0 m (pc + 3) ls (.ref (sE x n (k + 1)) :: rest))) : W p l e R s m args below meth c H locs cells slots Q (F0 m pc ls (.ref (sE x n 0) :: rest)) := by
  have h5 : (fE x (8 + n))[k]? = some (.ref (sE x n (k + 1))) ∧ (TX1 k).1 = RX1 := by
    rw [fE_n]
    rcases hk with rfl | rfl <;> exact ⟨rfl, rfl⟩
  exact gE hn h5.1 (by omega) h5.2 go hw hdg hl kk
theorem gMi {k : Nat} {v : Int32} (hk : mI k = true ∨ k = 27) (hv : rI z k = v) (go : Go l y0 co0 n0 rt0 p s m args meth c) (hw : Wd G A s H locs (rw' G h z)) (hdg : decode co0 pc = .ok (.getfield idx, 3)) (hl : Cond.fieldLink y0.cls idx RX4 (TX4 k).2.1 (TX4 k).2.2.1 ∈ gW)
    (kk : W p l e R s m args below meth c H locs cells slots Q (F0 m (pc + 3) ls (.int v :: rest))) : W p l e R s m args below meth c H locs cells slots Q (F0 m pc ls (.ref (h 0) :: rest)) := by
  have h5 : (fM h z)[k]? = some (.int (rI z k)) ∧ (TX4 k).1 = RX4 ∧ k < 30 := by
    rcases hk with hk | rfl
    · rcases mI_cases hk with rfl | rfl | rfl | rfl | rfl | rfl | rfl | rfl | rfl | rfl | rfl <;> exact ⟨rfl, rfl, by decide⟩
    · exact ⟨rfl, rfl, by decide⟩
  exact gM (v := .int v) (by rw [← hv]; exact h5.1) h5.2.2 h5.2.1 go hw hdg hl kk
theorem rI_eq {x : Rg} {k : Nat} {v : Int32} : rI (qI x k v) k = v := if_pos rfl
theorem rI_ne {x : Rg} {k k' : Nat} {v : Int32} (h : ¬ k' = k) : rI (qI x k v) k' = rI x k' := if_neg h
theorem rA_eq {x : Rg} {k : Nat} {f : Nat → Int32} : rA (qA x k f) k = f := if_pos rfl
theorem rA_ne {x : Rg} {k k' : Nat} {f : Nat → Int32} (h : ¬ k' = k) : rA (qA x k f) k' = rA x k' := if_neg h
end RW2
