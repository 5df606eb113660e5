/-! ===== rows over the class's world ===== -/
theorem cw_rc {G : Cx} {g : Nat → Nat → Nat} {x : Sg} {i : Nat × Nat} {b ci : Nat} {q : vw_C} {fs : List Value} {C : String} (hm : i ∈ cIx (sN x)) (hb : cad g x i = b) (hE : cE G g x i = .inr (ci, fs)) (hc : vwCl[ci]? = some q) (hC : q.1 = C) : Rc (cw G g x) b C := by
  obtain ⟨k, hk⟩ := wl_get (ad := cad g x) (E := cE G g x) hm
  rw [hb, hE] at hk
  exact ⟨k, ci, q, fs, hc, hC, hk⟩
theorem rc_X {G : Cx} {g : Nat → Nat → Nat} {x : Sg} : Rc (cw G g x) (g 0 0) RX3 := cw_rc (i := (0, 0)) (cIx_0 (Or.inl rfl)) rfl rfl rfl rfl
theorem rc_T {G : Cx} {g : Nat → Nat → Nat} {x : Sg} : Rc (cw G g x) (g 1 0) RX2 := cw_rc (i := (1, 0)) (cIx_1 (Or.inl rfl)) rfl rfl rfl rfl
theorem cadD (g : Nat → Nat → Nat) (x : Sg) {d : Nat} (hd : d < 6) (k : Nat) : cad g x (2 + d, k) = g (2 + d) k := by simp only [cad]; rw [if_pos (by omega)]
theorem cadE (g : Nat → Nat → Nat) (x : Sg) (n k : Nat) : cad g x (8 + n, k) = sE x n k := by simp only [cad]; rw [if_neg (by omega), Nat.add_sub_cancel_left]
theorem cE_D (G : Cx) (g : Nat → Nat → Nat) (x : Sg) {d : Nat} (hd : d < 6) (k : Nat) : cE G g x (2 + d, k) = c2 G g x (2 + d) k := by simp only [cE]; rw [if_neg (by omega), if_neg (by omega), if_pos (by omega)]
theorem cE_E (G : Cx) (g : Nat → Nat → Nat) (x : Sg) (n k : Nat) : cE G g x (8 + n, k) = c3 G x (8 + n) k := by simp only [cE]; rw [if_neg (by omega), if_neg (by omega), if_neg (by omega)]
theorem rc_D {G : Cx} {g : Nat → Nat → Nat} {x : Sg} {d : Nat} (hd : d < 6) : Rc (cw G g x) (g (2 + d) 0) RX0 := cw_rc (i := (2 + d, 0)) (cIx_D hd (Or.inl rfl)) (cadD g x hd 0) (cE_D G g x hd 0) rfl rfl
theorem rc_E {G : Cx} {g : Nat → Nat → Nat} {x : Sg} {n : Nat} (hn : n < sN x) : Rc (cw G g x) (sE x n 0) RX1 := cw_rc (i := (8 + n, 0)) (cIx_E hn (Or.inl rfl)) (cadE g x n 0) (cE_E G g x n 0) rfl rfl
section RW
variable {p : Program} {l : Launch} {e : Env} {R : Room} {s : State} {m : MethodId} {args : Array Value} {below : List Frame} {meth : Method} {c : Code} {H : Heap} {locs : List Loc} {cells slots : Nat} {Q : State → Prop}
variable {y0 : MethodName} {co0 : ByteArray} {n0 : Nat} {rt0 : Option FieldType} {G : Cx} {A : Nat → Prop} {pc idx : Nat} {ls : Array Slot} {rest : List Value} {g : Nat → Nat → Nat} {x : Sg}
/-- a field is read: of the object at (o, 0) -/
theorem get_o {o ci N a : Nat} {T : u_T} {C : String} {fs : List Value} {k : Nat} {v : Value} (hc : vwCl[ci]? = some (C, T, N)) (hin : ∀ w ∈ u_ws C T N, w ∈ gW) (hm : (o, 0) ∈ cIx (sN x)) (ha : cad g x (o, 0) = a) (hE : cE G g x (o, 0) = .inr (ci, fs)) (hv : fs[k]? = some v) (hk : k < N) (hT : (T k).1 = C) (go : Go l y0 co0 n0 rt0 p s m args meth c) (hw : Wd G A s H locs (cw G g x)) (hdg : decode co0 pc = .ok (.getfield idx, 3)) (hl : Cond.fieldLink y0.cls idx C (T k).2.1 (T k).2.2.1 ∈ gW)
    (kk : W p l e R s m args below meth c H locs cells slots Q (F0 m (pc + 3) ls (v :: rest))) : W p l e R s m args below meth c H locs cells slots Q (F0 m pc ls (.ref a :: rest)) := by
  obtain ⟨q, hq⟩ := wl_get (ad := cad g x) (E := cE G g x) hm
  rw [ha, hE] at hq
  exact va_get go.1 go.2.1 go.2.2.2.2.2.1 hin go.2.2.2.2.1 hw.2.2.2.1.1 hw.1 q hq hc k hk (go.2.2.2.2.2.1 _ hl) (fun z hz => by rw [hT] at hz; exact hz) hv hdg kk
theorem put_o {o ci N a : Nat} {T : u_T} {C : String} {ty0 : Nat → FieldType} {fs : List Value} {k : Nat} {v : Int32} {ty : FieldType} (hc : vwCl[ci]? = some (C, T, N)) (hin : ∀ w ∈ u_ws C T N, w ∈ gW) (hty : ∀ k, k < N → parseFieldDescriptor (T k).2.2.1 = some (ty0 k)) (hnm : ∀ a, a < N → ∀ b, b < N → a ≠ b → (T a).2.1 ≠ (T b).2.1) (hm : (o, 0) ∈ cIx (sN x)) (ha : cad g x (o, 0) = a) (hE : cE G g x (o, 0) = .inr (ci, fs)) (hE2 : cE G g (pI x o k v) (o, 0) = .inr (ci, fs.set k (.int v))) (hk : k < N) (hkl : k < fs.length) (hT : (T k).1 = C) (hfin : (T k).2.2.2 = false) (hd : parseFieldDescriptor (T k).2.2.1 = some ty) (hn : narrow ty (.int v) = .int v) (hfit : fits ty (.int v) = true) (go : Go l y0 co0 n0 rt0 p s m args meth c) (hw : Wd G A s H locs (cw G g x)) (hdg : decode co0 pc = .ok (.putfield idx, 3)) (hl : Cond.fieldLink y0.cls idx C (T k).2.1 (T k).2.2.1 ∈ gW)
    (kk : ∀ (H1 : Heap) (locs1 : List Loc), Wd G A s H1 locs1 (cw G g (pI x o k v)) → W p l e R s m args below meth c H1 locs1 cells slots Q (F0 m (pc + 3) ls rest)) : W p l e R s m args below meth c H locs cells slots Q (F0 m pc ls (.int v :: .ref a :: rest)) := by
  obtain ⟨q, hq⟩ := wl_get (ad := cad g x) (E := cE G g x) hm
  have hset := cw_pI (G := G) (k := k) hw.2.1 hm hq hE2
  rw [ha, hE] at hq
  rw [ha] at hset
  refine va_put go.1 go.2.1 go.2.2.2.2.2.1 hin ty0 hty hnm go.2.2.2.2.1 hw.2.2.2.1.1 hw.1 hw.2.1 hw.2.2.1 q hq hc k hk (go.2.2.2.2.2.1 _ hl) (fun z hz => by rw [hT] at hz; exact hz) hfin hd hn hfit hkl hdg (fun H1 locs1 hP hD hS => ?_)
  rw [hset] at hP hD
  exact kk H1 locs1 ⟨hP, hD, hS, hw.2.2.2.1, hw.2.2.2.2⟩
theorem ald_o {o k a n : Nat} {i : Int32} (hm : (o, k + 1) ∈ cIx (sN x)) (ha : cad g x (o, k + 1) = a) (hE : cE G g x (o, k + 1) = .inl (G.2.1 0, n, .inl (sA x o k))) (hi : vp_in i n) (go : Go l y0 co0 n0 rt0 p s m args meth c) (hw : Wd G A s H locs (cw G g x)) (hdg : decode co0 pc = .ok (.iaload, 1))
    (kk : W p l e R s m args below meth c H locs cells slots Q (F0 m (pc + 1) ls (.int (sA x o k i.toNatClampNeg) :: rest))) : W p l e R s m args below meth c H locs cells slots Q (F0 m pc ls (.int i :: .ref a :: rest)) := by
  obtain ⟨q, hq⟩ := wl_get (ad := cad g x) (E := cE G g x) hm
  rw [ha, hE] at hq
  exact va_iald go.1 go.2.1 hw.2.2.2.1.1 hw.1 q 0 hq rfl hi hdg kk
theorem ast_o {o k a n : Nat} {i v : Int32} (hm : (o, k + 1) ∈ cIx (sN x)) (ha : cad g x (o, k + 1) = a) (hE : ∀ x : Sg, cE G g x (o, k + 1) = .inl (G.2.1 0, n, .inl (sA x o k))) (hi : vp_in i n) (go : Go l y0 co0 n0 rt0 p s m args meth c) (hw : Wd G A s H locs (cw G g x)) (hdg : decode co0 pc = .ok (.iastore, 1))
    (kk : ∀ (H1 : Heap) (locs1 : List Loc), Wd G A s H1 locs1 (cw G g (pA x o k (upd (sA x o k) i.toNatClampNeg v))) → W p l e R s m args below meth c H1 locs1 cells slots Q (F0 m (pc + 1) ls rest)) : W p l e R s m args below meth c H locs cells slots Q (F0 m pc ls (.int v :: .int i :: .ref a :: rest)) := by
  obtain ⟨q, hq⟩ := wl_get (ad := cad g x) (E := cE G g x) hm
  have hset := cw_pA (G := G) (k := k) (f := upd (sA x o k) i.toNatClampNeg v) hw.2.1 hm hq (e := .inl (G.2.1 0, n, .inl (upd (sA x o k) i.toNatClampNeg v))) (by rw [hE, sA_pA, if_pos ⟨rfl, rfl⟩])
  rw [ha, hE] at hq
  rw [ha] at hset
  refine va_iast go.1 go.2.1 hw.2.2.2.1.1 hw.1 hw.2.1 hw.2.2.1 q 0 hq rfl hi hdg (fun H1 locs1 hP hD hS => ?_)
  rw [hset] at hP hD
  exact kk H1 locs1 ⟨hP, hD, hS, hw.2.2.2.1, hw.2.2.2.2⟩
/-! the class's own object -/
theorem gX {k : Nat} {v : Value} (hv : (fX g x)[k]? = some v) (hk : k < 12) (hT : (TX3 k).1 = RX3) (go : Go l y0 co0 n0 rt0 p s m args meth c) (hw : Wd G A s H locs (cw G g x)) (hdg : decode co0 pc = .ok (.getfield idx, 3)) (hl : Cond.fieldLink y0.cls idx RX3 (TX3 k).2.1 (TX3 k).2.2.1 ∈ gW)
    (kk : W p l e R s m args below meth c H locs cells slots Q (F0 m (pc + 3) ls (v :: rest))) : W p l e R s m args below meth c H locs cells slots Q (F0 m pc ls (.ref (g 0 0) :: rest)) :=
  get_o (o := 0) (ci := 3) rfl inX3 (cIx_0 (Or.inl rfl)) rfl rfl hv hk hT go hw hdg hl kk
theorem gT {k : Nat} {v : Value} (hv : (fT g x)[k]? = some v) (hk : k < 7) (hT : (TX2 k).1 = RX2) (go : Go l y0 co0 n0 rt0 p s m args meth c) (hw : Wd G A s H locs (cw G g x)) (hdg : decode co0 pc = .ok (.getfield idx, 3)) (hl : Cond.fieldLink y0.cls idx RX2 (TX2 k).2.1 (TX2 k).2.2.1 ∈ gW)
    (kk : W p l e R s m args below meth c H locs cells slots Q (F0 m (pc + 3) ls (v :: rest))) : W p l e R s m args below meth c H locs cells slots Q (F0 m pc ls (.ref (g 1 0) :: rest)) :=
  get_o (o := 1) (ci := 2) rfl inX2 (cIx_1 (Or.inl rfl)) rfl rfl hv hk hT go hw hdg hl kk
theorem gD {d k : Nat} {v : Value} (hd : d < 6) (hv : (fD g x (2 + d))[k]? = some v) (hk : k < 13) (hT : (TX0 k).1 = RX0) (go : Go l y0 co0 n0 rt0 p s m args meth c) (hw : Wd G A s H locs (cw G g x)) (hdg : decode co0 pc = .ok (.getfield idx, 3)) (hl : Cond.fieldLink y0.cls idx RX0 (TX0 k).2.1 (TX0 k).2.2.1 ∈ gW)
    (kk : W p l e R s m args below meth c H locs cells slots Q (F0 m (pc + 3) ls (v :: rest))) : W p l e R s m args below meth c H locs cells slots Q (F0 m pc ls (.ref (g (2 + d) 0) :: rest)) :=
  get_o (o := 2 + d) (ci := 0) rfl inX0 (cIx_D hd (Or.inl rfl)) (cadD g x hd 0) (cE_D G g x hd 0) hv hk hT go hw hdg hl kk
theorem gE {n k : Nat} {v : Value} (hn : n < sN x) (hv : (fE x (8 + n))[k]? = some v) (hk : k < 8) (hT : (TX1 k).1 = RX1) (go : Go l y0 co0 n0 rt0 p s m args meth c) (hw : Wd G A s H locs (cw G g x)) (hdg : decode co0 pc = .ok (.getfield idx, 3)) (hl : Cond.fieldLink y0.cls idx RX1 (TX1 k).2.1 (TX1 k).2.2.1 ∈ gW)
    (kk : W p l e R s m args below meth c H locs cells slots Q (F0 m (pc + 3) ls (v :: rest))) : W p l e R s m args below meth c H locs cells slots Q (F0 m pc ls (.ref (sE x n 0) :: rest)) :=
  get_o (o := 8 + n) (ci := 1) rfl inX1 (cIx_E hn (Or.inl rfl)) (cadE g x n 0) (cE_E G g x n 0) hv hk hT go hw hdg hl kk
theorem fE_n (n : Nat) : fE x (8 + n) = [.int (sI x (8 + n) 0), .int (sI x (8 + n) 1), .int (sI x (8 + n) 2), .int (sI x (8 + n) 3), .int (sI x (8 + n) 4), .int (sI x (8 + n) 5), .ref (sE x n 7), .ref (sE x n 8)] := by simp only [fE, Nat.add_sub_cancel_left]
theorem pX {k : Nat} {v : Int32} (hk : 5 ≤ k ∧ k < 12) (go : Go l y0 co0 n0 rt0 p s m args meth c) (hw : Wd G A s H locs (cw G g x)) (hdg : decode co0 pc = .ok (.putfield idx, 3)) (hl : Cond.fieldLink y0.cls idx RX3 (TX3 k).2.1 (TX3 k).2.2.1 ∈ gW)
    (kk : ∀ (H1 : Heap) (locs1 : List Loc), Wd G A s H1 locs1 (cw G g (pI x 0 k v)) → W p l e R s m args below meth c H1 locs1 cells slots Q (F0 m (pc + 3) ls rest)) : W p l e R s m args below meth c H locs cells slots Q (F0 m pc ls (.int v :: .ref (g 0 0) :: rest)) := by
  have hE2 : cE G g (pI x 0 k v) (0, 0) = .inr (3, (fX g x).set k (.int v)) := by
    rcases (show k = 5 ∨ k = 6 ∨ k = 7 ∨ k = 8 ∨ k = 9 ∨ k = 10 ∨ k = 11 by omega) with rfl | rfl | rfl | rfl | rfl | rfl | rfl <;> rfl
  have h5 : (TX3 k).1 = RX3 ∧ (TX3 k).2.2.2 = false ∧ parseFieldDescriptor (TX3 k).2.2.1 = some .int := by
    rcases (show k = 5 ∨ k = 6 ∨ k = 7 ∨ k = 8 ∨ k = 9 ∨ k = 10 ∨ k = 11 by omega) with rfl | rfl | rfl | rfl | rfl | rfl | rfl <;> decide +kernel
  exact put_o (o := 0) (ci := 3) (ty := .int) rfl inX3 tyX3_ok nmX3 (cIx_0 (Or.inl rfl)) rfl rfl hE2 hk.2 hk.2 h5.1 h5.2.1 h5.2.2 rfl rfl go hw hdg hl kk
theorem pT {k : Nat} {v : Int32} (hk : k = 1 ∨ k = 4 ∨ k = 5 ∨ k = 6) (go : Go l y0 co0 n0 rt0 p s m args meth c) (hw : Wd G A s H locs (cw G g x)) (hdg : decode co0 pc = .ok (.putfield idx, 3)) (hl : Cond.fieldLink y0.cls idx RX2 (TX2 k).2.1 (TX2 k).2.2.1 ∈ gW)
    (kk : ∀ (H1 : Heap) (locs1 : List Loc), Wd G A s H1 locs1 (cw G g (pI x 1 k v)) → W p l e R s m args below meth c H1 locs1 cells slots Q (F0 m (pc + 3) ls rest)) : W p l e R s m args below meth c H locs cells slots Q (F0 m pc ls (.int v :: .ref (g 1 0) :: rest)) := by
  have hE2 : cE G g (pI x 1 k v) (1, 0) = .inr (2, (fT g x).set k (.int v)) := by
    rcases hk with rfl | rfl | rfl | rfl <;> rfl
  have h5 : (TX2 k).1 = RX2 ∧ (TX2 k).2.2.2 = false ∧ parseFieldDescriptor (TX2 k).2.2.1 = some .int := by
    rcases hk with rfl | rfl | rfl | rfl <;> decide +kernel
  have h7 : k < 7 := by omega
  exact put_o (o := 1) (ci := 2) (ty := .int) rfl inX2 tyX2_ok nmX2 (cIx_1 (Or.inl rfl)) rfl rfl hE2 h7 h7 h5.1 h5.2.1 h5.2.2 rfl rfl go hw hdg hl kk
theorem pD {d k : Nat} {v : Int32} (hd : d < 6) (hk : 1 ≤ k ∧ k < 8) (go : Go l y0 co0 n0 rt0 p s m args meth c) (hw : Wd G A s H locs (cw G g x)) (hdg : decode co0 pc = .ok (.putfield idx, 3)) (hl : Cond.fieldLink y0.cls idx RX0 (TX0 k).2.1 (TX0 k).2.2.1 ∈ gW)
    (kk : ∀ (H1 : Heap) (locs1 : List Loc), Wd G A s H1 locs1 (cw G g (pI x (2 + d) k v)) → W p l e R s m args below meth c H1 locs1 cells slots Q (F0 m (pc + 3) ls rest)) : W p l e R s m args below meth c H locs cells slots Q (F0 m pc ls (.int v :: .ref (g (2 + d) 0) :: rest)) := by
  have hE2 : cE G g (pI x (2 + d) k v) (2 + d, 0) = .inr (0, (fD g x (2 + d)).set k (.int v)) := by
    rw [cE_D G g _ hd]
    rcases (show k = 1 ∨ k = 2 ∨ k = 3 ∨ k = 4 ∨ k = 5 ∨ k = 6 ∨ k = 7 by omega) with rfl | rfl | rfl | rfl | rfl | rfl | rfl <;> simp [c2, fD, sI_pI]
  have h5 : (TX0 k).1 = RX0 ∧ (TX0 k).2.2.2 = false ∧ parseFieldDescriptor (TX0 k).2.2.1 = some .int := by
    rcases (show k = 1 ∨ k = 2 ∨ k = 3 ∨ k = 4 ∨ k = 5 ∨ k = 6 ∨ k = 7 by omega) with rfl | rfl | rfl | rfl | rfl | rfl | rfl <;> decide +kernel
  have h13 : k < 13 := by omega
  exact put_o (o := 2 + d) (ci := 0) (ty := .int) rfl inX0 tyX0_ok nmX0 (cIx_D hd (Or.inl rfl)) (cadD g x hd 0) (cE_D G g x hd 0) hE2 h13 h13 h5.1 h5.2.1 h5.2.2 rfl rfl go hw hdg hl kk
/-- the flag 'lost' -/
theorem pDz {d : Nat} {v : Int32} (hd : d < 6) (hv : narrow .boolean (.int v) = .int v ∧ fits .boolean (.int v) = true) (go : Go l y0 co0 n0 rt0 p s m args meth c) (hw : Wd G A s H locs (cw G g x)) (hdg : decode co0 pc = .ok (.putfield idx, 3)) (hl : Cond.fieldLink y0.cls idx RX0 (TX0 8).2.1 (TX0 8).2.2.1 ∈ gW)
    (kk : ∀ (H1 : Heap) (locs1 : List Loc), Wd G A s H1 locs1 (cw G g (pI x (2 + d) 8 v)) → W p l e R s m args below meth c H1 locs1 cells slots Q (F0 m (pc + 3) ls rest)) : W p l e R s m args below meth c H locs cells slots Q (F0 m pc ls (.int v :: .ref (g (2 + d) 0) :: rest)) := by
  have hE2 : cE G g (pI x (2 + d) 8 v) (2 + d, 0) = .inr (0, (fD g x (2 + d)).set 8 (.int v)) := by
    rw [cE_D G g _ hd]
    simp [c2, fD, sI_pI]
  exact put_o (o := 2 + d) (ci := 0) (ty := .boolean) rfl inX0 tyX0_ok nmX0 (cIx_D hd (Or.inl rfl)) (cadD g x hd 0) (cE_D G g x hd 0) hE2 (by decide) (by decide : 8 < 13) rfl rfl (by decide +kernel) hv.1 hv.2 go hw hdg hl kk
theorem pE {n k : Nat} {v : Int32} (hn : n < sN x) (hk : k < 6) (go : Go l y0 co0 n0 rt0 p s m args meth c) (hw : Wd G A s H locs (cw G g x)) (hdg : decode co0 pc = .ok (.putfield idx, 3)) (hl : Cond.fieldLink y0.cls idx RX1 (TX1 k).2.1 (TX1 k).2.2.1 ∈ gW)
    (kk : ∀ (H1 : Heap) (locs1 : List Loc), Wd G A s H1 locs1 (cw G g (pI x (8 + n) k v)) → W p l e R s m args below meth c H1 locs1 cells slots Q (F0 m (pc + 3) ls rest)) : W p l e R s m args below meth c H locs cells slots Q (F0 m pc ls (.int v :: .ref (sE x n 0) :: rest)) := by
  have hE2 : cE G g (pI x (8 + n) k v) (8 + n, 0) = .inr (1, (fE x (8 + n)).set k (.int v)) := by
    rw [cE_E G g]
    rcases (show k = 0 ∨ k = 1 ∨ k = 2 ∨ k = 3 ∨ k = 4 ∨ k = 5 by omega) with rfl | rfl | rfl | rfl | rfl | rfl <;> simp [c3, fE, sI_pI, sE_pI]
  have h5 : (TX1 k).1 = RX1 ∧ (TX1 k).2.2.2 = false ∧ parseFieldDescriptor (TX1 k).2.2.1 = some .int := by
    rcases (show k = 0 ∨ k = 1 ∨ k = 2 ∨ k = 3 ∨ k = 4 ∨ k = 5 by omega) with rfl | rfl | rfl | rfl | rfl | rfl <;> decide +kernel
  have h8 : k < 8 := by omega
  exact put_o (o := 8 + n) (ci := 1) (ty := .int) rfl inX1 tyX1_ok nmX1 (cIx_E hn (Or.inl rfl)) (cadE g x n 0) (cE_E G g x n 0) hE2 h8 h8 h5.1 h5.2.1 h5.2.2 rfl rfl go hw hdg hl kk
/-! int arrays: values, stamps; letters, kinds, numbers; a deal's; an entry's: read and written at a place given as a number -/
theorem aX {k j : Nat} (hk : k = 1 ∨ k = 2) (hj : j < 8) (go : Go l y0 co0 n0 rt0 p s m args meth c) (hw : Wd G A s H locs (cw G g x)) (hdg : decode co0 pc = .ok (.iaload, 1))
    (kk : W p l e R s m args below meth c H locs cells slots Q (F0 m (pc + 1) ls (.int (sA x 0 k j) :: rest))) : W p l e R s m args below meth c H locs cells slots Q (F0 m pc ls (.int (nI j) :: .ref (g 0 (k + 1)) :: rest)) := by
  refine ald_o (o := 0) (k := k) (n := 8) (cIx_0 (by omega)) rfl (by rcases hk with rfl | rfl <;> rfl) (vp_in_nI hj (by omega)) go hw hdg ?_
  rw [nI_clamp (by omega)]
  exact kk
theorem sX {k j : Nat} {v : Int32} (hk : k = 1 ∨ k = 2) (hj : j < 8) (go : Go l y0 co0 n0 rt0 p s m args meth c) (hw : Wd G A s H locs (cw G g x)) (hdg : decode co0 pc = .ok (.iastore, 1))
    (kk : ∀ (H1 : Heap) (locs1 : List Loc), Wd G A s H1 locs1 (cw G g (pA x 0 k (upd (sA x 0 k) j v))) → W p l e R s m args below meth c H1 locs1 cells slots Q (F0 m (pc + 1) ls rest)) : W p l e R s m args below meth c H locs cells slots Q (F0 m pc ls (.int v :: .int (nI j) :: .ref (g 0 (k + 1)) :: rest)) := by
  refine ast_o (o := 0) (k := k) (n := 8) (cIx_0 (by omega)) rfl (fun x => by rcases hk with rfl | rfl <;> rfl) (vp_in_nI hj (by omega)) go hw hdg ?_
  rw [nI_clamp (by omega)]
  exact kk
def tL (k : Nat) : Nat := if k = 0 then 200 else if k = 2 then 24 else 72
theorem aT {k j : Nat} (hk : k = 0 ∨ k = 2 ∨ k = 3) (hj : j < tL k) (go : Go l y0 co0 n0 rt0 p s m args meth c) (hw : Wd G A s H locs (cw G g x)) (hdg : decode co0 pc = .ok (.iaload, 1))
    (kk : W p l e R s m args below meth c H locs cells slots Q (F0 m (pc + 1) ls (.int (sA x 1 k j) :: rest))) : W p l e R s m args below meth c H locs cells slots Q (F0 m pc ls (.int (nI j) :: .ref (g 1 (k + 1)) :: rest)) := by
  have h200 : tL k ≤ 200 := by rcases hk with rfl | rfl | rfl <;> decide
  refine ald_o (o := 1) (k := k) (n := tL k) (cIx_1 (by omega)) rfl (by rcases hk with rfl | rfl | rfl <;> rfl) (vp_in_nI hj (by omega)) go hw hdg ?_
  rw [nI_clamp (by omega)]
  exact kk
theorem sT {k j : Nat} {v : Int32} (hk : k = 0 ∨ k = 2 ∨ k = 3) (hj : j < tL k) (go : Go l y0 co0 n0 rt0 p s m args meth c) (hw : Wd G A s H locs (cw G g x)) (hdg : decode co0 pc = .ok (.iastore, 1))
    (kk : ∀ (H1 : Heap) (locs1 : List Loc), Wd G A s H1 locs1 (cw G g (pA x 1 k (upd (sA x 1 k) j v))) → W p l e R s m args below meth c H1 locs1 cells slots Q (F0 m (pc + 1) ls rest)) : W p l e R s m args below meth c H locs cells slots Q (F0 m pc ls (.int v :: .int (nI j) :: .ref (g 1 (k + 1)) :: rest)) := by
  have h200 : tL k ≤ 200 := by rcases hk with rfl | rfl | rfl <;> decide
  refine ast_o (o := 1) (k := k) (n := tL k) (cIx_1 (by omega)) rfl (fun x => by rcases hk with rfl | rfl | rfl <;> rfl) (vp_in_nI hj (by omega)) go hw hdg ?_
  rw [nI_clamp (by omega)]
  exact kk
def dL (k : Nat) : Nat := if k = 12 then 2 else 8
theorem cE_Da (G : Cx) (g : Nat → Nat → Nat) (x : Sg) {d k : Nat} (hd : d < 6) (hk : k = 9 ∨ k = 10 ∨ k = 11 ∨ k = 12) : cE G g x (2 + d, k + 1) = .inl (G.2.1 0, dL k, .inl (sA x (2 + d) k)) := by
  rw [cE_D G g x hd]
  rcases hk with rfl | rfl | rfl | rfl <;> rfl
theorem aD {d k j : Nat} (hd : d < 6) (hk : k = 9 ∨ k = 10 ∨ k = 11 ∨ k = 12) (hj : j < dL k) (go : Go l y0 co0 n0 rt0 p s m args meth c) (hw : Wd G A s H locs (cw G g x)) (hdg : decode co0 pc = .ok (.iaload, 1))
    (kk : W p l e R s m args below meth c H locs cells slots Q (F0 m (pc + 1) ls (.int (sA x (2 + d) k j) :: rest))) : W p l e R s m args below meth c H locs cells slots Q (F0 m pc ls (.int (nI j) :: .ref (g (2 + d) (k + 1)) :: rest)) := by
  have h8 : dL k ≤ 8 := by unfold dL; split <;> omega
  refine ald_o (o := 2 + d) (k := k) (n := dL k) (cIx_D hd (by omega)) (cadD g x hd _) (cE_Da G g x hd hk) (vp_in_nI hj (by omega)) go hw hdg ?_
  rw [nI_clamp (by omega)]
  exact kk
theorem sD {d k j : Nat} {v : Int32} (hd : d < 6) (hk : k = 9 ∨ k = 10 ∨ k = 11 ∨ k = 12) (hj : j < dL k) (go : Go l y0 co0 n0 rt0 p s m args meth c) (hw : Wd G A s H locs (cw G g x)) (hdg : decode co0 pc = .ok (.iastore, 1))
    (kk : ∀ (H1 : Heap) (locs1 : List Loc), Wd G A s H1 locs1 (cw G g (pA x (2 + d) k (upd (sA x (2 + d) k) j v))) → W p l e R s m args below meth c H1 locs1 cells slots Q (F0 m (pc + 1) ls rest)) : W p l e R s m args below meth c H locs cells slots Q (F0 m pc ls (.int v :: .int (nI j) :: .ref (g (2 + d) (k + 1)) :: rest)) := by
  have h8 : dL k ≤ 8 := by unfold dL; split <;> omega
  refine ast_o (o := 2 + d) (k := k) (n := dL k) (cIx_D hd (by omega)) (cadD g x hd _) (fun x => cE_Da G g x hd hk) (vp_in_nI hj (by omega)) go hw hdg ?_
  rw [nI_clamp (by omega)]
  exact kk
theorem cE_Ea (G : Cx) (g : Nat → Nat → Nat) (x : Sg) {n k : Nat} (hk : k = 6 ∨ k = 7) : cE G g x (8 + n, k + 1) = .inl (G.2.1 0, 8, .inl (sA x (8 + n) k)) := by
  rw [cE_E G g x]
  rcases hk with rfl | rfl <;> rfl
theorem aE {n k j : Nat} (hn : n < sN x) (hk : k = 6 ∨ k = 7) (hj : j < 8) (go : Go l y0 co0 n0 rt0 p s m args meth c) (hw : Wd G A s H locs (cw G g x)) (hdg : decode co0 pc = .ok (.iaload, 1))
    (kk : W p l e R s m args below meth c H locs cells slots Q (F0 m (pc + 1) ls (.int (sA x (8 + n) k j) :: rest))) : W p l e R s m args below meth c H locs cells slots Q (F0 m pc ls (.int (nI j) :: .ref (sE x n (k + 1)) :: rest)) := by
  refine ald_o (o := 8 + n) (k := k) (n := 8) (cIx_E hn (by omega)) (cadE g x n _) (cE_Ea G g x hk) (vp_in_nI hj (by omega)) go hw hdg ?_
  rw [nI_clamp (by omega)]
  exact kk
theorem sEa {n k j : Nat} {v : Int32} (hn : n < sN x) (hk : k = 6 ∨ k = 7) (hj : j < 8) (go : Go l y0 co0 n0 rt0 p s m args meth c) (hw : Wd G A s H locs (cw G g x)) (hdg : decode co0 pc = .ok (.iastore, 1))
    (kk : ∀ (H1 : Heap) (locs1 : List Loc), Wd G A s H1 locs1 (cw G g (pA x (8 + n) k (upd (sA x (8 + n) k) j v))) → W p l e R s m args below meth c H1 locs1 cells slots Q (F0 m (pc + 1) ls rest)) : W p l e R s m args below meth c H locs cells slots Q (F0 m pc ls (.int v :: .int (nI j) :: .ref (sE x n (k + 1)) :: rest)) := by
  refine ast_o (o := 8 + n) (k := k) (n := 8) (cIx_E hn (by omega)) (cadE g x n _) (fun x => cE_Ea G g x hk) (vp_in_nI hj (by omega)) go hw hdg ?_
  rw [nI_clamp (by omega)]
  exact kk
/-- deals[d], entries[n], and their lengths -/
theorem aDl {d : Nat} (hd : d < 6) (go : Go l y0 co0 n0 rt0 p s m args meth c) (hw : Wd G A s H locs (cw G g x)) (hdg : decode co0 pc = .ok (.aaload, 1))
    (kk : W p l e R s m args below meth c H locs cells slots Q (F0 m (pc + 1) ls (.ref (g (2 + d) 0) :: rest))) : W p l e R s m args below meth c H locs cells slots Q (F0 m pc ls (.int (nI d) :: .ref (g 0 4) :: rest)) := by
  obtain ⟨q, hq⟩ := wl_get (ad := cad g x) (E := cE G g x) (i := (0, 4)) (cIx_0 (n := sN x) (by omega))
  refine va_aldq go.1 go.2.1 hw.2.2.2.1.1 hw.1 q 2 (n := 6) (f := fun d => some (g (2 + d) 0)) hq rfl (vp_in_nI hd (by omega)) hdg ?_
  rw [nI_clamp (by omega)]
  exact kk
theorem aEn {n : Nat} (hn : n < 512) (go : Go l y0 co0 n0 rt0 p s m args meth c) (hw : Wd G A s H locs (cw G g x)) (hdg : decode co0 pc = .ok (.aaload, 1))
    (kk : W p l e R s m args below meth c H locs cells slots Q (F0 m (pc + 1) ls (va_rf (entF x n) :: rest))) : W p l e R s m args below meth c H locs cells slots Q (F0 m pc ls (.int (nI n) :: .ref (g 0 5) :: rest)) := by
  obtain ⟨q, hq⟩ := wl_get (ad := cad g x) (E := cE G g x) (i := (0, 5)) (cIx_0 (n := sN x) (by omega))
  refine va_aldq go.1 go.2.1 hw.2.2.2.1.1 hw.1 q 3 (n := 512) (f := entF x) hq rfl (vp_in_nI hn (by omega)) hdg ?_
  rw [nI_clamp (by omega)]
  exact kk
theorem lDl (go : Go l y0 co0 n0 rt0 p s m args meth c) (hw : Wd G A s H locs (cw G g x)) (hdg : decode co0 pc = .ok (.arraylength, 1))
    (kk : W p l e R s m args below meth c H locs cells slots Q (F0 m (pc + 1) ls (.int (nI 6) :: rest))) : W p l e R s m args below meth c H locs cells slots Q (F0 m pc ls (.ref (g 0 4) :: rest)) := by
  obtain ⟨q, hq⟩ := wl_get (ad := cad g x) (E := cE G g x) (i := (0, 4)) (cIx_0 (n := sN x) (by omega))
  exact va_alen go.1 go.2.1 hw.2.2.2.1.1 hw.1 q 2 (x := (6, aR (fun d => some (g (2 + d) 0)))) hq rfl rfl hdg kk
theorem lX (go : Go l y0 co0 n0 rt0 p s m args meth c) (hw : Wd G A s H locs (cw G g x)) (hdg : decode co0 pc = .ok (.arraylength, 1))
    (kk : W p l e R s m args below meth c H locs cells slots Q (F0 m (pc + 1) ls (.int (nI 8) :: rest))) : W p l e R s m args below meth c H locs cells slots Q (F0 m pc ls (.ref (g 0 2) :: rest)) := by
  obtain ⟨q, hq⟩ := wl_get (ad := cad g x) (E := cE G g x) (i := (0, 2)) (cIx_0 (n := sN x) (by omega))
  exact va_alen go.1 go.2.1 hw.2.2.2.1.1 hw.1 q 0 (x := (8, .inl (sA x 0 1))) hq rfl rfl hdg kk
theorem lV {d : Nat} (hd : d < 6) (go : Go l y0 co0 n0 rt0 p s m args meth c) (hw : Wd G A s H locs (cw G g x)) (hdg : decode co0 pc = .ok (.arraylength, 1))
    (kk : W p l e R s m args below meth c H locs cells slots Q (F0 m (pc + 1) ls (.int (nI 2) :: rest))) : W p l e R s m args below meth c H locs cells slots Q (F0 m pc ls (.ref (g (2 + d) 13) :: rest)) := by
  obtain ⟨q, hq⟩ := wl_get (ad := cad g x) (E := cE G g x) (i := (2 + d, 13)) (cIx_D (n := sN x) hd (by omega))
  rw [cadD g x hd, cE_Da G g x hd (k := 12) (by omega)] at hq
  exact va_alen go.1 go.2.1 hw.2.2.2.1.1 hw.1 q 0 (x := (2, .inl (sA x (2 + d) 12))) hq rfl rfl hdg kk
end RW
/-! ===== rows over the reference's world ===== -/
theorem rc_M {G : Cx} {h : Nat → Nat} {x : Rg} : Rc (rw' G h x) (h 0) RX4 := by
  obtain ⟨k, hk⟩ := wl_get (L := rIx) (ad := h) (E := rE G h x) (i := 0) (by decide)
  exact ⟨k, 4, _, _, rfl, rfl, hk⟩
section RM
variable {p : Program} {l : Launch} {e : Env} {R : Room} {s : State} {m : MethodId} {args : Array Value} {below : List Frame} {meth : Method} {c : Code} {H : Heap} {locs : List Loc} {cells slots : Nat} {Q : State → Prop}
variable {y0 : MethodName} {co0 : ByteArray} {n0 : Nat} {rt0 : Option FieldType} {G : Cx} {A : Nat → Prop} {pc idx : Nat} {ls : Array Slot} {rest : List Value} {h : Nat → Nat} {x : Rg}
theorem gM {k : Nat} {v : Value} (hv : (fM h x)[k]? = some v) (hk : k < 30) (hT : (TX4 k).1 = RX4) (go : Go l y0 co0 n0 rt0 p s m args meth c) (hw : Wd G A s H locs (rw' G h x)) (hdg : decode co0 pc = .ok (.getfield idx, 3)) (hl : Cond.fieldLink y0.cls idx RX4 (TX4 k).2.1 (TX4 k).2.2.1 ∈ gW)
    (kk : W p l e R s m args below meth c H locs cells slots Q (F0 m (pc + 3) ls (v :: rest))) : W p l e R s m args below meth c H locs cells slots Q (F0 m pc ls (.ref (h 0) :: rest)) := by
  obtain ⟨q, hq⟩ := wl_get (L := rIx) (ad := h) (E := rE G h x) (i := 0) (by decide)
  exact va_get go.1 go.2.1 go.2.2.2.2.2.1 inX4 go.2.2.2.2.1 hw.2.2.2.1.1 hw.1 q hq rfl k hk (go.2.2.2.2.2.1 _ hl) (fun z hz => by rw [hT] at hz; exact hz) hv hdg kk
def mI (k : Nat) : Bool := k == 2 || k == 16 || k == 17 || k == 18 || k == 19 || k == 20 || k == 21 || k == 23 || k == 24 || k == 25 || k == 26
theorem mI_cases {k : Nat} (hk : mI k = true) : k = 2 ∨ k = 16 ∨ k = 17 ∨ k = 18 ∨ k = 19 ∨ k = 20 ∨ k = 21 ∨ k = 23 ∨ k = 24 ∨ k = 25 ∨ k = 26 := by
  simp only [mI, Bool.or_eq_true, beq_iff_eq] at hk
  omega
theorem pM {k : Nat} {v : Int32} (hk : mI k = true) (go : Go l y0 co0 n0 rt0 p s m args meth c) (hw : Wd G A s H locs (rw' G h x)) (hdg : decode co0 pc = .ok (.putfield idx, 3)) (hl : Cond.fieldLink y0.cls idx RX4 (TX4 k).2.1 (TX4 k).2.2.1 ∈ gW)
    (kk : ∀ (H1 : Heap) (locs1 : List Loc), Wd G A s H1 locs1 (rw' G h (qI x k v)) → W p l e R s m args below meth c H1 locs1 cells slots Q (F0 m (pc + 3) ls rest)) : W p l e R s m args below meth c H locs cells slots Q (F0 m pc ls (.int v :: .ref (h 0) :: rest)) := by
  obtain ⟨q, hq⟩ := wl_get (L := rIx) (ad := h) (E := rE G h x) (i := 0) (by decide)
  have hE2 : rE G h (qI x k v) 0 = .inr (4, (fM h x).set k (.int v)) := by
    rcases mI_cases hk with rfl | rfl | rfl | rfl | rfl | rfl | rfl | rfl | rfl | rfl | rfl <;> rfl
  have h5 : k < 30 ∧ (TX4 k).1 = RX4 ∧ (TX4 k).2.2.2 = false ∧ parseFieldDescriptor (TX4 k).2.2.1 = some .int := by
    rcases mI_cases hk with rfl | rfl | rfl | rfl | rfl | rfl | rfl | rfl | rfl | rfl | rfl <;> decide +kernel
  have hset := rw_qI (G := G) (k := k) hw.2.1 hq hE2
  refine va_put go.1 go.2.1 go.2.2.2.2.2.1 inX4 tyX4 tyX4_ok nmX4 go.2.2.2.2.1 hw.2.2.2.1.1 hw.1 hw.2.1 hw.2.2.1 q hq rfl k h5.1 (go.2.2.2.2.2.1 _ hl) (fun z hz => by rw [h5.2.1] at hz; exact hz) h5.2.2.1 h5.2.2.2 rfl rfl h5.1 hdg (fun H1 locs1 hP hD hS => ?_)
  rw [hset] at hP hD
  exact kk H1 locs1 ⟨hP, hD, hS, hw.2.2.2.1, hw.2.2.2.2⟩
/-- the flag 'doing' -/
theorem pMz {v : Int32} (hv : narrow .boolean (.int v) = .int v ∧ fits .boolean (.int v) = true) (go : Go l y0 co0 n0 rt0 p s m args meth c) (hw : Wd G A s H locs (rw' G h x)) (hdg : decode co0 pc = .ok (.putfield idx, 3)) (hl : Cond.fieldLink y0.cls idx RX4 (TX4 27).2.1 (TX4 27).2.2.1 ∈ gW)
    (kk : ∀ (H1 : Heap) (locs1 : List Loc), Wd G A s H1 locs1 (rw' G h (qI x 27 v)) → W p l e R s m args below meth c H1 locs1 cells slots Q (F0 m (pc + 3) ls rest)) : W p l e R s m args below meth c H locs cells slots Q (F0 m pc ls (.int v :: .ref (h 0) :: rest)) := by
  obtain ⟨q, hq⟩ := wl_get (L := rIx) (ad := h) (E := rE G h x) (i := 0) (by decide)
  have hset := rw_qI (G := G) (k := 27) (v := v) hw.2.1 hq rfl
  refine va_put go.1 go.2.1 go.2.2.2.2.2.1 inX4 tyX4 tyX4_ok nmX4 go.2.2.2.2.1 hw.2.2.2.1.1 hw.1 hw.2.1 hw.2.2.1 q hq rfl 27 (by decide) (go.2.2.2.2.2.1 _ hl) (fun z hz => hz) rfl (ty := .boolean) (by decide +kernel) hv.1 hv.2 (by decide : 27 < 30) hdg (fun H1 locs1 hP hD hS => ?_)
  have hP : va_P G.1 vwCl ((rw' G h x).set q (h 0, rE G h (qI x 27 v) 0)) H1 := hP
  have hD : va_D A ((rw' G h x).set q (h 0, rE G h (qI x 27 v) 0)) := hD
  rw [hset] at hP hD
  exact kk H1 locs1 ⟨hP, hD, hS, hw.2.2.2.1, hw.2.2.2.2⟩
theorem rL_lt (k : Nat) : rL k < 2 ^ 31 := by
  unfold rL
  split; · decide
  split; · decide
  split; · decide
  split; · decide
  split; · decide
  split; · decide
  split; · decide
  split; · decide
  decide
theorem aM {k j : Nat} (hk : rIx.contains (k + 1) = true) (h8 : ¬ k = 8) (hj : j < rL k) (go : Go l y0 co0 n0 rt0 p s m args meth c) (hw : Wd G A s H locs (rw' G h x)) (hdg : decode co0 pc = .ok (.iaload, 1))
    (kk : W p l e R s m args below meth c H locs cells slots Q (F0 m (pc + 1) ls (.int (rA x k j) :: rest))) : W p l e R s m args below meth c H locs cells slots Q (F0 m pc ls (.int (nI j) :: .ref (h (k + 1)) :: rest)) := by
  obtain ⟨q, hq⟩ := wl_get (L := rIx) (ad := h) (E := rE G h x) (i := k + 1) (List.contains_iff_mem.mp hk)
  have hb := rL_lt k
  rw [show rE G h x (k + 1) = .inl (G.2.1 0, rL k, .inl (rA x k)) by simp [rE, h8]] at hq
  refine va_iald go.1 go.2.1 hw.2.2.2.1.1 hw.1 q 0 hq rfl (vp_in_nI hj hb) hdg ?_
  rw [nI_clamp (by omega)]
  exact kk
theorem sM {k j : Nat} {v : Int32} (hk : rIx.contains (k + 1) = true) (h8 : ¬ k = 8) (hj : j < rL k) (go : Go l y0 co0 n0 rt0 p s m args meth c) (hw : Wd G A s H locs (rw' G h x)) (hdg : decode co0 pc = .ok (.iastore, 1))
    (kk : ∀ (H1 : Heap) (locs1 : List Loc), Wd G A s H1 locs1 (rw' G h (qA x k (upd (rA x k) j v))) → W p l e R s m args below meth c H1 locs1 cells slots Q (F0 m (pc + 1) ls rest)) : W p l e R s m args below meth c H locs cells slots Q (F0 m pc ls (.int v :: .int (nI j) :: .ref (h (k + 1)) :: rest)) := by
  have hm := List.contains_iff_mem.mp hk
  obtain ⟨q, hq⟩ := wl_get (L := rIx) (ad := h) (E := rE G h x) (i := k + 1) hm
  have hb := rL_lt k
  have e1 : ∀ x : Rg, rE G h x (k + 1) = .inl (G.2.1 0, rL k, .inl (rA x k)) := fun x => by simp [rE, h8]
  have hset := rw_qA (G := G) (k := k) (f := upd (rA x k) j v) hw.2.1 hm hq (e := .inl (G.2.1 0, rL k, .inl (upd (rA x k) j v))) (by rw [e1, rA_qA, if_pos rfl])
  rw [e1] at hq
  refine va_iast go.1 go.2.1 hw.2.2.2.1.1 hw.1 hw.2.1 hw.2.2.1 q 0 hq rfl (vp_in_nI hj hb) hdg (fun H1 locs1 hP hD hS => ?_)
  rw [nI_clamp (by omega), hset] at hP hD
  exact kk H1 locs1 ⟨hP, hD, hS, hw.2.2.2.1, hw.2.2.2.2⟩
/-- the flags 'isLost' -/
theorem aMz {j : Nat} (hj : j < 6) (go : Go l y0 co0 n0 rt0 p s m args meth c) (hw : Wd G A s H locs (rw' G h x)) (hdg : decode co0 pc = .ok (.baload, 1))
    (kk : W p l e R s m args below meth c H locs cells slots Q (F0 m (pc + 1) ls (.int (rA x 8 j) :: rest))) : W p l e R s m args below meth c H locs cells slots Q (F0 m pc ls (.int (nI j) :: .ref (h 9) :: rest)) := by
  obtain ⟨q, hq⟩ := wl_get (L := rIx) (ad := h) (E := rE G h x) (i := 9) (by decide)
  refine va_zald go.1 go.2.1 hw.2.2.2.1.1 hw.1 q 1 (cA := G.2.1 1) (n := 6) (f := rA x 8) hq rfl (vp_in_nI hj (by omega)) hdg ?_
  rw [nI_clamp (by omega)]
  exact kk
theorem sMz {j : Nat} {v : Int32} (hv : vp_nar .boolean v = v) (hj : j < 6) (go : Go l y0 co0 n0 rt0 p s m args meth c) (hw : Wd G A s H locs (rw' G h x)) (hdg : decode co0 pc = .ok (.bastore, 1))
    (kk : ∀ (H1 : Heap) (locs1 : List Loc), Wd G A s H1 locs1 (rw' G h (qA x 8 (upd (rA x 8) j v))) → W p l e R s m args below meth c H1 locs1 cells slots Q (F0 m (pc + 1) ls rest)) : W p l e R s m args below meth c H locs cells slots Q (F0 m pc ls (.int v :: .int (nI j) :: .ref (h 9) :: rest)) := by
  obtain ⟨q, hq⟩ := wl_get (L := rIx) (ad := h) (E := rE G h x) (i := 9) (by decide)
  have hset := rw_qA (G := G) (k := 8) (f := upd (rA x 8) j v) hw.2.1 (by decide) hq (e := .inl (G.2.1 1, 6, .inl (upd (rA x 8) j v))) rfl
  refine va_zast go.1 go.2.1 hw.2.2.2.1.1 hw.1 hw.2.1 hw.2.2.1 q 1 (cA := G.2.1 1) (n := 6) (f := rA x 8) hq rfl (vp_in_nI hj (by omega)) hdg (fun H1 locs1 hP hD hS => ?_)
  rw [hv, nI_clamp (by omega), hset] at hP hD
  exact kk H1 locs1 ⟨hP, hD, hS, hw.2.2.2.1, hw.2.2.2.2⟩
end RM
