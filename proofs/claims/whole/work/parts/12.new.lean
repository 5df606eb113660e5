/-! ===== what is made; calls with a part of the world ===== -/
theorem Wd.left {G : Cx} {A : Nat → Prop} {s : State} {H : Heap} {locs : List Loc} {a b : va_W} (hw : Wd G A s H locs (a ++ b)) : Wd G A s H locs a := by
  refine ⟨fun k q hk => hw.1 k q ?_, ⟨fun i j x y hx hy e => hw.2.1.1 i j x y ?_ ?_ e, fun k q hk => hw.2.1.2 k q ?_⟩, hw.2.2⟩
  · rw [List.getElem?_append_left (List.getElem?_eq_some_iff.mp hk).1]; exact hk
  · rw [List.getElem?_append_left (List.getElem?_eq_some_iff.mp hx).1]; exact hx
  · rw [List.getElem?_append_left (List.getElem?_eq_some_iff.mp hy).1]; exact hy
  · rw [List.getElem?_append_left (List.getElem?_eq_some_iff.mp hk).1]; exact hk
theorem at_right {a b : va_W} {k : Nat} {q : Nat × va_E} (hk : b[k]? = some q) : (a ++ b)[a.length + k]? = some q := by
  rw [List.getElem?_append_right (by omega), Nat.add_sub_cancel_left]; exact hk
theorem Wd.right {G : Cx} {A : Nat → Prop} {s : State} {H : Heap} {locs : List Loc} {a b : va_W} (hw : Wd G A s H locs (a ++ b)) : Wd G A s H locs b := by
  refine ⟨fun k q hk => hw.1 _ q (at_right hk), ⟨fun i j x y hx hy e => ?_, fun k q hk => hw.2.1.2 _ q (at_right hk)⟩, hw.2.2⟩
  have := hw.2.1.1 _ _ x y (at_right (a := a) hx) (at_right (a := a) hy) e
  omega
theorem Wd.swap {G : Cx} {A : Nat → Prop} {s : State} {H : Heap} {locs : List Loc} {a b : va_W} (hw : Wd G A s H locs (a ++ b)) : Wd G A s H locs (b ++ a) := by
  have h1 : va_P G.1 vwCl (([] ++ a) ++ b) H := hw.1
  have h2 : va_D A (([] ++ a) ++ b) := hw.2.1
  exact ⟨h1.swap, h2.swap, hw.2.2⟩
/-- behind a call that had the right part -/
theorem Wd.join {S : Type} {G : Cx} {A : Nat → Prop} {s t : State} {H H1 : Heap} {locs locs1 : List Loc} {wr wc : va_W} {wf : S → va_W} {u : S} (hw : Wd G A s H locs (wr ++ wc)) (ht : t.heap = H1) (hk : ∀ q : Nat, q < H.size → ¬ va_A wc H.size q → H1[q]? = H[q]?) (hB : PostW G wf (va_A wc H.size) u t) (hS : va_S A s.heap H1 locs1) : Wd G A s H1 locs1 (wr ++ wf u) := by
  have hF := hw.right.free
  have apart : ∀ (k : Nat) (q : Nat × va_E), wr[k]? = some q → q.1 < H.size ∧ ¬ va_A wc H.size q.1 := by
    intro k q hq
    have hq' : (wr ++ wc)[k]? = some q := by rw [List.getElem?_append_left (List.getElem?_eq_some_iff.mp hq).1]; exact hq
    have hl := (hw.1 k q hq').lt
    refine ⟨hl, fun h => ?_⟩
    rcases h with ⟨k2, e, h⟩ | h
    · have := hw.2.1.1 k _ q (q.1, e) hq' (at_right (a := wr) h) rfl
      have := (List.getElem?_eq_some_iff.mp hq).1
      omega
    · omega
  refine ⟨va_P.app (fun k q hq => ?_) (by rw [← ht]; exact hB.1), va_D.app hw.left.2.1 (hB.2.weaken (fun _ _ _ h => hF _ h)) (fun i j x y hx hy hxy => ?_), hS, hw.2.2.2.1, hw.2.2.2.2⟩
  · obtain ⟨g1, g2⟩ := apart k q hq
    exact (hw.left.1 k q hq).kept (hk q.1 g1 g2)
  · exact (apart i x hx).2 (by rw [hxy]; exact hB.2.2 j y hy)
section VF
variable {S : Type} {p : Program} {l : Launch} {e : Env} {R : Room} {s : State} {m : MethodId} {args : Array Value} {below : List Frame} {meth : Method} {c : Code} {H : Heap} {locs : List Loc} {cells slots : Nat} {Q : State → Prop}
variable {y0 : MethodName} {co0 : ByteArray} {n0 : Nat} {rt0 : Option FieldType} {G : Cx} {wf : S → va_W} {A : Nat → Prop} {x : S} {pc idx : Nat} {ls : Array Slot} {st0 rest As : List Value} {y : MethodName} {co : ByteArray} {n k : Nat} {rm : Room} {b : Nat} {wr : va_W}
theorem cal_ViF {rt : FieldType} {post : Int32 → S → Prop} (hM : Ci l G y co n rt rm wf (.ref b :: As) x post) (g : Go l y0 co0 n0 rt0 p s m args meth c) (hw : Wd G A s H locs (wr ++ wf x)) (hdg : decode co0 pc = .ok (.invokevirtual idx, 3)) (hL : Lk y0 idx y co n (some rt)) (hi : Cond.instanceMethod y ∈ gW) (hse : Cond.selects y.cls y y ∈ gW) (hK : Ky y As.length) (hR : rm.frames + 1 ≤ R.frames ∧ 8 + (n + 11) + rm.locals ≤ R.locals) (hrc : Rc (wf x) b y.cls) (hl : ls.size = n0) (hst : st0 = As.reverse ++ .ref b :: rest) (hcat : (rest.map fun v => v.category).sum ≤ 8) (hf : cells + rm.cells ≤ R.cells ∧ slots + rm.slots ≤ R.slots)
    (kk : ∀ (r : Int32) (u : S) (H1 : Heap) (locs1 : List Loc), post r u → Wd G A s H1 locs1 (wr ++ wf u) → W p l e R s m args below meth c H1 locs1 (cells + rm.cells) (slots + rm.slots) Q (F0 m (pc + 3) ls (.int r :: rest))) : W p l e R s m args below meth c H locs cells slots Q (F0 m pc ls st0) :=
  va_calli (va_runV (As := As) (rest := rest) ⟨g.1, g.2.1, g.2.2.2.1, g.2.2.2.2.1, g.2.2.2.2.2.1⟩ (hM H.size) ⟨callB_gW g hL hK hR, g.2.2.2.2.2.1 _ hi, g.2.2.2.2.2.1 _ hse⟩ ⟨blindW, hrc.cell hw.right, fun U hU hW => ⟨rfl, hw.right.pre hU hW⟩⟩ rfl rfl hl hst (lv_room hcat) hdg hf) hw.2.2.1 (fun q _ h => hw.right.free q h) hw.right.free (fun r u t H1 locs1 ht _ hp hB _ hk hS => kk r u H1 locs1 hp (hw.join ht hk hB hS))
theorem cal_IvF {post : S → Prop} (hM : Cv l G y co n rm wf (.ref b :: As) x post) (g : Go l y0 co0 n0 rt0 p s m args meth c) (hw : Wd G A s H locs (wr ++ wf x)) (hdg : decode co0 pc = .ok (.invokespecial idx, 3)) (hL : Lk y0 idx y co n none) (hy : y.name = "<init>") (hi : Cond.instanceMethod y ∈ gW) (hK : Ky y As.length) (hR : rm.frames + 1 ≤ R.frames ∧ 8 + (n + 11) + rm.locals ≤ R.locals) (hl : ls.size = n0) (hst : st0 = As.reverse ++ .ref b :: rest) (hcat : (rest.map fun v => v.category).sum ≤ 8) (hf : cells + rm.cells ≤ R.cells ∧ slots + rm.slots ≤ R.slots)
    (kk : ∀ (u : S) (H1 : Heap) (locs1 : List Loc), post u → Wd G A s H1 locs1 (wr ++ wf u) → W p l e R s m args below meth c H1 locs1 (cells + rm.cells) (slots + rm.slots) Q (F0 m (pc + 3) ls rest)) : W p l e R s m args below meth c H locs cells slots Q (F0 m pc ls st0) :=
  va_callv (va_runI (As := As) (rest := rest) ⟨g.1, g.2.1, g.2.2.2.1, g.2.2.2.2.1, g.2.2.2.2.2.1⟩ (hM H.size) ⟨callB_gW g hL hK hR, hy, g.2.2.2.2.2.1 _ hi⟩ ⟨blindW, fun U hU hW => ⟨rfl, hw.right.pre hU hW⟩⟩ rfl rfl hl hst (lv_room hcat) hdg hf) hw.2.2.1 (fun q _ h => hw.right.free q h) hw.right.free (fun u t H1 locs1 ht _ hp hB _ hk hS => kk u H1 locs1 hp (hw.join ht hk hB hS))
theorem cal_INvF {post : S → Prop} {host : String} (hM : Cv l G y co n rm wf (.ref b :: As) x post) (g : Go l y0 co0 n0 rt0 p s m args meth c) (hw : Wd G A s H locs (wr ++ wf x)) (hdg : decode co0 pc = .ok (.invokespecial idx, 3)) (hL : va_Nw (.methodLinkNest y0.cls idx y host) s ∧ Cond.initialized y.cls ∈ gW ∧ Cond.code y co n none ∈ gW) (hy : y.name = "<init>") (hi : Cond.instanceMethod y ∈ gW) (hK : Ky y As.length) (hR : rm.frames + 1 ≤ R.frames ∧ 8 + (n + 11) + rm.locals ≤ R.locals) (hl : ls.size = n0) (hst : st0 = As.reverse ++ .ref b :: rest) (hcat : (rest.map fun v => v.category).sum ≤ 8) (hf : cells + rm.cells ≤ R.cells ∧ slots + rm.slots ≤ R.slots)
    (kk : ∀ (u : S) (H1 : Heap) (locs1 : List Loc), post u → Wd G A s H1 locs1 (wr ++ wf u) → W p l e R s m args below meth c H1 locs1 (cells + rm.cells) (slots + rm.slots) Q (F0 m (pc + 3) ls rest)) : W p l e R s m args below meth c H locs cells slots Q (F0 m pc ls st0) :=
  va_callv (va_runIN (As := As) (rest := rest) ⟨g.1, g.2.1, g.2.2.2.1, g.2.2.2.2.1, g.2.2.2.2.2.1⟩ (hM H.size) ⟨va_cnB As.length g.2.2.2.2.2.1 (gW_of hL.2.2) rfl rfl rfl hL.1 (g.2.2.2.2.2.1 _ hL.2.1) hK hR, hy, g.2.2.2.2.2.1 _ hi⟩ ⟨blindW, fun U hU hW => ⟨rfl, hw.right.pre hU hW⟩⟩ rfl rfl hl hst (lv_room hcat) hdg hf) hw.2.2.1 (fun q _ h => hw.right.free q h) hw.right.free (fun u t H1 locs1 ht _ hp hB _ hk hS => kk u H1 locs1 hp (hw.join ht hk hB hS))
/-- Object() -/
theorem obj_i {a : Nat} (g : Go l y0 co0 n0 rt0 p s m args meth c) (hdg : decode co0 pc = .ok (.invokespecial idx, 3)) (hL : Cond.methodLink y0.cls idx Lib.objectInit ∈ gW) (hl : ls.size = n0) (h1 : 1 ≤ R.frames) (hcat : (rest.map fun v => v.category).sum + 12 ≤ R.locals)
    (kk : W p l e R s m args below meth c H locs cells slots Q (F0 m (pc + 3) ls rest)) : W p l e R s m args below meth c H locs cells slots Q (F0 m pc ls (.ref a :: rest)) :=
  W.objInit (g := F0 m pc ls (.ref a :: rest)) g.1 g.2.1 g.2.2.2.2.1 (g.2.2.2.2.2.1 _ hL) (g.2.2.2.2.2.1 _ q17) (g.2.2.2.2.2.1 _ q18) rfl (by rw [g.2.2.2.1]; exact hl) rfl hdg h1 (by show 2 * 0 + _ + 12 ≤ _; omega) kk
/-- new int[N], of a class that the tables know -/
theorem new_i {w : va_W} {v : Int32} {N : Nat} (g : Go l y0 co0 n0 rt0 p s m args meth c) (hw : Wd G A s H locs w) (hdg : decode co0 pc = .ok (.newarray .int, 2)) (hv : v = nI N) (hN : N ≤ 13200) (hc : cells + 1 ≤ R.cells) (hs : slots + N ≤ R.slots)
    (kk : ∀ (q : Nat) (H1 : Heap), Wd G A s H1 locs (w ++ [(q, .inl (G.2.1 0, N, .inl (fun _ => 0)))]) → W p l e R s m args below meth c H1 locs (cells + 1) (slots + N) Q (F0 m (pc + 2) ls (.ref q :: rest))) : W p l e R s m args below meth c H locs cells slots Q (F0 m pc ls (.int v :: rest)) := by
  subst hv
  refine va_newa g.1 g.2.1 (atype := .int) (g.2.2.2.2.2.1 _ q49) rfl hw.2.2.2.1.1 hw.1 hw.2.1 hw.2.2.1 hw.2.2.2.2 (a0 := (N, .inl (fun _ => 0))) (fun cA => rfl) (nI_pos (by omega)) (nI_clamp (by omega)) (by show N * 4 ≤ _; omega) hc hs hdg (fun q cA H1 hK hP hD hS => ?_)
  have e1 : cA = G.2.1 0 := Option.some.inj (((hK.2 4 (cA, .int) rfl).2 : s.vm.findClass ("[" ++ FieldType.int.toString) = some cA).symm.trans ((hK.2 0 (G.2.1 0, .int) rfl).2 : s.vm.findClass ("[" ++ FieldType.int.toString) = some (G.2.1 0)))
  subst e1
  exact kk q H1 ⟨hP, hD, hS, hw.2.2.2.1, hw.2.2.2.2⟩
theorem new_z {w : va_W} {v : Int32} {N : Nat} (g : Go l y0 co0 n0 rt0 p s m args meth c) (hw : Wd G A s H locs w) (hdg : decode co0 pc = .ok (.newarray .boolean, 2)) (hv : v = nI N) (hN : N ≤ 13200) (hc : cells + 1 ≤ R.cells) (hs : slots + N ≤ R.slots)
    (kk : ∀ (q : Nat) (H1 : Heap), Wd G A s H1 locs (w ++ [(q, .inl (G.2.1 1, N, .inl (fun _ => 0)))]) → W p l e R s m args below meth c H1 locs (cells + 1) (slots + N) Q (F0 m (pc + 2) ls (.ref q :: rest))) : W p l e R s m args below meth c H locs cells slots Q (F0 m pc ls (.int v :: rest)) := by
  subst hv
  refine va_newa g.1 g.2.1 (atype := .boolean) (g.2.2.2.2.2.1 _ q681) rfl hw.2.2.2.1.1 hw.1 hw.2.1 hw.2.2.1 hw.2.2.2.2 (a0 := (N, .inl (fun _ => 0))) (fun cA => rfl) (nI_pos (by omega)) (nI_clamp (by omega)) (by show N * 1 ≤ _; omega) hc hs hdg (fun q cA H1 hK hP hD hS => ?_)
  have e1 : cA = G.2.1 1 := Option.some.inj (((hK.2 4 (cA, .boolean) rfl).2 : s.vm.findClass ("[" ++ FieldType.boolean.toString) = some cA).symm.trans ((hK.2 1 (G.2.1 1, .boolean) rfl).2 : s.vm.findClass ("[" ++ FieldType.boolean.toString) = some (G.2.1 1)))
  subst e1
  exact kk q H1 ⟨hP, hD, hS, hw.2.2.2.1, hw.2.2.2.2⟩
theorem new_q {w : va_W} {C : String} {v : Int32} {N ix : Nat} (hix : (ix = 2 ∧ C = "LateChecks$Deal") ∨ (ix = 3 ∧ C = "LateChecks$Entry")) (g : Go l y0 co0 n0 rt0 p s m args meth c) (hw : Wd G A s H locs w) (hdg : decode co0 pc = .ok (.anewarray idx, 3)) (hL : Cond.classLink y0.cls idx C ∈ gW) (hv : v = nI N) (hN : N ≤ 13200) (hc : cells + 1 ≤ R.cells) (hs : slots + N ≤ R.slots)
    (kk : ∀ (q : Nat) (H1 : Heap), Wd G A s H1 locs (w ++ [(q, .inl (G.2.1 ix, N, aR (fun _ => none)))]) → W p l e R s m args below meth c H1 locs (cells + 1) (slots + N) Q (F0 m (pc + 3) ls (.ref q :: rest))) : W p l e R s m args below meth c H locs cells slots Q (F0 m pc ls (.int v :: rest)) := by
  subst hv
  have hAO : va_AO C s := by rcases hix with ⟨-, rfl⟩ | ⟨-, rfl⟩; exact hw.2.2.2.1.2.2.1.1; exact hw.2.2.2.1.2.2.1.2
  refine va_newq g.1 g.2.1 g.2.2.2.2.1 (g.2.2.2.2.2.1 _ hL) hAO hw.2.2.2.1.1 hw.1 hw.2.1 hw.2.2.1 hw.2.2.2.2 (nI_pos (by omega)) (nI_clamp (by omega)) (by omega) hc hs hdg (fun q cA H1 hK hP hD hS => ?_)
  have e1 : cA = G.2.1 ix := by
    obtain ⟨_, _, _, _, _, f1⟩ := (hK.2 4 (cA, .object C) rfl).2
    rcases hix with ⟨rfl, rfl⟩ | ⟨rfl, rfl⟩
    · obtain ⟨_, _, _, _, _, f2⟩ := (hK.2 2 (G.2.1 2, .object "LateChecks$Deal") rfl).2
      exact Option.some.inj (f1.symm.trans f2)
    · obtain ⟨_, _, _, _, _, f2⟩ := (hK.2 3 (G.2.1 3, .object "LateChecks$Entry") rfl).2
      exact Option.some.inj (f1.symm.trans f2)
  subst e1
  exact kk q H1 ⟨hP, hD, hS, hw.2.2.2.1, hw.2.2.2.2⟩
/-- a new object -/
theorem new_o {w : va_W} {C : String} {T : u_T} {N ci : Nat} {ty : Nat → FieldType} {fs : List Value} (hin : ∀ z ∈ u_ws C T N, z ∈ gW) (hty : ∀ k, k < N → parseFieldDescriptor (T k).2.2.1 = some (ty k)) (hcl : vwCl[ci]? = some (C, T, N)) (hfs : ∀ j, j < N → defaultValue (ty j) = vp_V fs j) (h2 : Cond.instantiable C N ∈ gW) (h3 : Cond.initialized C ∈ gW) (g : Go l y0 co0 n0 rt0 p s m args meth c) (hw : Wd G A s H locs w) (hdg : decode co0 pc = .ok (.new idx, 3)) (hL : Cond.classLink y0.cls idx C ∈ gW) (hc : cells + 1 ≤ R.cells) (hs : slots + N ≤ R.slots)
    (kk : ∀ (q : Nat) (H1 : Heap), Wd G A s H1 locs (w ++ [(q, .inr (ci, fs))]) → W p l e R s m args below meth c H1 locs (cells + 1) (slots + N) Q (F0 m (pc + 3) ls (.ref q :: rest))) : W p l e R s m args below meth c H locs cells slots Q (F0 m pc ls rest) :=
  va_new g.1 g.2.1 g.2.2.2.2.2.1 hin ty hty g.2.2.2.2.1 (g.2.2.2.2.2.1 _ hL) (g.2.2.2.2.2.1 _ h2) (g.2.2.2.2.2.1 _ h3) hw.2.2.2.1.1 hw.1 hw.2.1 hw.2.2.1 hw.2.2.2.2 hcl hfs hc hs hdg (fun q H1 hP hD hS => kk q H1 ⟨hP, hD, hS, hw.2.2.2.1, hw.2.2.2.2⟩)
/-- a field is written in a constructor: final, or not; the world as a list -/
theorem put_F {w w' : va_W} {a ci N k q0 : Nat} {T : u_T} {C : String} {ty0 : Nat → FieldType} {fs : List Value} {v : Value} {ty : FieldType} (hc : vwCl[ci]? = some (C, T, N)) (hin : ∀ w ∈ u_ws C T N, w ∈ gW) (hty : ∀ k, k < N → parseFieldDescriptor (T k).2.2.1 = some (ty0 k)) (hnm : ∀ a, a < N → ∀ b, b < N → a ≠ b → (T a).2.1 ≠ (T b).2.1) (he : w[q0]? = some (a, .inr (ci, fs))) (hset : w.set q0 (a, .inr (ci, fs.set k v)) = w') (hk : k < N) (hkl : k < fs.length) (hT : (T k).1 = y0.cls) (hCo : C = y0.cls) (hfin : (T k).2.2.2 = true) (hi : y0.name = "<init>") (hd : parseFieldDescriptor (T k).2.2.1 = some ty) (hn : narrow ty v = v) (hfit : fits ty v = true) (go : Go l y0 co0 n0 rt0 p s m args meth c) (hw : Wd G A s H locs w) (hdg : decode co0 pc = .ok (.putfield idx, 3)) (hl : Cond.fieldLink y0.cls idx C (T k).2.1 (T k).2.2.1 ∈ gW)
    (kk : ∀ (H1 : Heap) (locs1 : List Loc), Wd G A s H1 locs1 w' → W p l e R s m args below meth c H1 locs1 cells slots Q (F0 m (pc + 3) ls rest)) : W p l e R s m args below meth c H locs cells slots Q (F0 m pc ls (v :: .ref a :: rest)) := by
  refine va_putF go.1 go.2.1 go.2.2.2.2.2.1 hin ty0 hty hnm go.2.2.2.2.1 hw.2.2.2.1.1 hw.1 hw.2.1 hw.2.2.1 q0 he hc k hk (go.2.2.2.2.2.1 _ hl) (fun z hz => by rw [hT] at hz; rw [hCo]; exact hz) hfin (by rw [go.2.2.2.2.2.2.2]; exact hi) hT hd hn hfit hkl hdg (fun H1 locs1 hP hD hS => ?_)
  rw [hset] at hP hD
  exact kk H1 locs1 ⟨hP, hD, hS, hw.2.2.2.1, hw.2.2.2.2⟩
end VF
/-! ===== an entry is made ===== -/
def ew (G : Cx) (q0 : Nat) (u : Option (Nat × Nat)) : va_W := match u with
  | none => [(q0, .inr (1, [.int 0, .int 0, .int 0, .int 0, .int 0, .int 0, .null, .null]))]
  | some (q1, q2) => [(q0, .inr (1, [.int 0, .int 0, .int 0, .int 0, .int 0, .int 0, .ref q1, .ref q2])), (q1, .inl (G.2.1 0, 8, .inl (fun _ => 0))), (q2, .inl (G.2.1 0, 8, .inl (fun _ => 0)))]
set_option maxHeartbeats 4000000 in
set_option maxRecDepth 100000 in
theorem kX1_init (l : Launch) (G : Cx) (q0 : Nat) : Cv l G yX1_init cX1_init 1 ({ frames := 1, cells := 2, slots := 16, locals := 12 } : Room) (ew G q0) [.ref q0] none (fun u => ∃ q1 q2, u = some (q1, q2)) := by
  refine Cv.mk (by decide) (Nat.le_of_ble_eq_true rfl) ?_
  intro p e s m below meth c A ls go hw hl
  have hx := go.1
  have hb := go.2.1
  have hl : lv_has ls 1 [(0, .ref q0)] := hl
  refine lv_aload_n hx hb dX1_init_0 rfl (lv_at hl 0 rfl) ?_
  refine obj_i go dX1_init_1 q329 hl.1 (Nat.le_of_ble_eq_true rfl) (Nat.le_of_ble_eq_true rfl) ?_
  refine lv_aload_n hx hb dX1_init_4 rfl (lv_at hl 0 rfl) ?_
  refine lv_bipush (v := 8) hx hb dX1_init_5 (by decide) ?_
  refine new_i (N := 8) go hw dX1_init_7 rfl (by decide) (Nat.le_of_ble_eq_true rfl) (Nat.le_of_ble_eq_true rfl) (fun q1 H hw => ?_)
  refine put_F (ci := 1) (k := 6) (q0 := 0) (ty := .array .int) (v := .ref q1) (w' := [(q0, .inr (1, [.int 0, .int 0, .int 0, .int 0, .int 0, .int 0, .ref q1, .null])), (q1, .inl (G.2.1 0, 8, .inl (fun _ => 0)))]) rfl inX1 tyX1_ok nmX1 rfl rfl (by decide) (Nat.le_of_ble_eq_true rfl) rfl rfl rfl rfl (by decide +kernel) rfl rfl go hw dX1_init_9 q342 (fun H locs hw => ?_)
  refine lv_aload_n hx hb dX1_init_12 rfl (lv_at hl 0 rfl) ?_
  refine lv_bipush (v := 8) hx hb dX1_init_13 (by decide) ?_
  refine new_i (N := 8) go hw dX1_init_15 rfl (by decide) (Nat.le_of_ble_eq_true rfl) (Nat.le_of_ble_eq_true rfl) (fun q2 H hw => ?_)
  refine put_F (ci := 1) (k := 7) (q0 := 0) (ty := .array .int) (v := .ref q2) (w' := ew G q0 (some (q1, q2))) rfl inX1 tyX1_ok nmX1 rfl rfl (by decide) (Nat.le_of_ble_eq_true rfl) rfl rfl rfl rfl (by decide +kernel) rfl rfl go hw dX1_init_17 q344 (fun H locs hw => ?_)
  exact ret_v (wf := ew G q0) (u := some (q1, q2)) go hw dX1_init_20 ⟨q1, q2, rfl⟩
def addE (x : Sg) (q0 q1 q2 : Nat) : Sg := ((fun n k => if n = sN x then (if k = 0 then q0 else if k = 7 then q1 else q2) else x.1 n k), (fun o k => if o = 8 + sN x then 0 else x.2.1 o k), (fun o k => if o = 8 + sN x then (fun _ => 0) else x.2.2.1 o k), sN x + 1)
theorem sI_addE (x : Sg) (q0 q1 q2 o k : Nat) : sI (addE x q0 q1 q2) o k = if o = 8 + sN x then 0 else sI x o k := rfl
theorem sA_addE (x : Sg) (q0 q1 q2 o k : Nat) : sA (addE x q0 q1 q2) o k = if o = 8 + sN x then (fun _ => 0) else sA x o k := rfl
theorem sE_addE (x : Sg) (q0 q1 q2 n k : Nat) : sE (addE x q0 q1 q2) n k = if n = sN x then (if k = 0 then q0 else if k = 7 then q1 else q2) else sE x n k := rfl
theorem sN_addE (x : Sg) (q0 q1 q2 : Nat) : sN (addE x q0 q1 q2) = sN x + 1 := rfl
theorem cIx_lt {n : Nat} {i : Nat × Nat} (h : i ∈ cIx n) : i.1 < 8 + n := by
  rcases List.mem_append.mp h with h | h
  · simp only [List.mem_cons, List.not_mem_nil, or_false] at h
    rcases h with rfl | rfl | rfl | rfl | rfl | rfl | rfl | rfl | rfl <;> show _ < _ <;> dsimp only <;> omega
  · rcases List.mem_append.mp h with h | h
    · obtain ⟨d, hd, h⟩ := List.mem_flatMap.mp h
      have := List.mem_range.mp hd
      simp only [List.mem_cons, List.not_mem_nil, or_false] at h
      rcases h with rfl | rfl | rfl | rfl | rfl <;> show _ < _ <;> dsimp only <;> omega
    · obtain ⟨d, hd, h⟩ := List.mem_flatMap.mp h
      have := List.mem_range.mp hd
      simp only [List.mem_cons, List.not_mem_nil, or_false] at h
      rcases h with rfl | rfl | rfl <;> show _ < _ <;> dsimp only <;> omega
theorem cIx_s (n : Nat) : cIx (n + 1) = cIx n ++ [(8 + n, 0), (8 + n, 7), (8 + n, 8)] := by
  simp only [cIx, List.range_succ, List.flatMap_append, List.flatMap_cons, List.flatMap_nil, List.append_nil, List.append_assoc]
theorem cE_addE {G : Cx} {g : Nat → Nat → Nat} {x : Sg} {q0 q1 q2 : Nat} {i : Nat × Nat} (h : i.1 < 8 + sN x) (hi : i ≠ (0, 5)) : cE G g (addE x q0 q1 q2) i = cE G g x i := by
  obtain ⟨a, b⟩ := i
  have ha : ¬ a = 8 + sN x := by have : a < 8 + sN x := h; omega
  have e0 : ¬ (0 : Nat) = 8 + sN x := by omega
  have e1 : ¬ (1 : Nat) = 8 + sN x := by omega
  by_cases h0 : a = 0
  · subst h0
    have hb : ¬ b = 5 := fun q => hi (by rw [q])
    simp only [cE, c0, fX, sI_addE, sA_addE, e0, if_false, if_true, hb]
  · by_cases h1 : a = 1
    · subst h1
      simp only [cE, c1, fT, sI_addE, sA_addE, e1, if_false, if_true, h0]
    · by_cases h8 : a < 8
      · simp only [cE, c2, fD, sI_addE, sA_addE, ha, if_false, if_true, h0, h1, h8]
      · have hn : ¬ a - 8 = sN x := by omega
        simp only [cE, c3, fE, sI_addE, sA_addE, sE_addE, ha, hn, if_false, h0, h1, h8]
theorem cad_addE {g : Nat → Nat → Nat} {x : Sg} {q0 q1 q2 : Nat} {i : Nat × Nat} (h : i.1 < 8 + sN x) : cad g (addE x q0 q1 q2) i = cad g x i := by
  simp only [cad, sE_addE]
  by_cases h8 : i.1 < 8
  · simp only [h8, if_true]
  · have hn : ¬ i.1 - 8 = sN x := by omega
    simp only [h8, if_false, hn]
theorem cw_addE {G : Cx} {g : Nat → Nat → Nat} {x : Sg} {A : Nat → Prop} {q0 q1 q2 k : Nat} (hD : va_D A (cw G g x)) (hk : (cw G g x)[k]? = some (g 0 5, cE G g x (0, 5))) : (cw G g x).set k (g 0 5, .inl (G.2.1 3, 512, aR (va_up (entF x) (sN x) (some q0)))) ++ ew G q0 (some (q1, q2)) = cw G g (addE x q0 q1 q2) := by
  have e1 : va_up (entF x) (sN x) (some q0) = entF (addE x q0 q1 q2) := by
    funext n
    simp only [va_up, entF, sN_addE, sE_addE]
    by_cases h : n = sN x
    · subst h; simp
    · by_cases h2 : n < sN x
      · rw [if_neg h, if_pos h2, if_pos (by omega), if_neg h]
      · rw [if_neg h, if_neg h2, if_neg (by omega)]
  have hset := wl_set (E' := cE G g (addE x q0 q1 q2)) (i := (0, 5)) (e := .inl (G.2.1 3, 512, aR (va_up (entF x) (sN x) (some q0)))) hD (cIx_0 (by omega)) hk (by rw [e1]; rfl) (fun j hj hne => cE_addE (cIx_lt hj) hne)
  have hset' : (cw G g x).set k (g 0 5, .inl (G.2.1 3, 512, aR (va_up (entF x) (sN x) (some q0)))) = wl (cIx (sN x)) (cad g x) (cE G g (addE x q0 q1 q2)) := hset
  rw [hset']
  have e2 : wl (cIx (sN x)) (cad g x) (cE G g (addE x q0 q1 q2)) = wl (cIx (sN x)) (cad g (addE x q0 q1 q2)) (cE G g (addE x q0 q1 q2)) := List.map_congr_left (fun i hi => by rw [cad_addE (cIx_lt hi)])
  rw [e2, show cw G g (addE x q0 q1 q2) = wl (cIx (sN x + 1)) (cad g (addE x q0 q1 q2)) (cE G g (addE x q0 q1 q2)) from rfl, cIx_s]
  simp only [wl, List.map_append, List.map_cons, List.map_nil]
  congr 1
  simp only [cadE, cE_E, c3, fE, sE_addE, sI_addE, sA_addE, ew, Nat.add_sub_cancel_left, if_true]
  rfl
