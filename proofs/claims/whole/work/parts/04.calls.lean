/-! ===== calls by contract, the callee's world being the caller's ===== -/
theorem gW_of {y : MethodName} {co : ByteArray} {n : Nat} {rt : Option FieldType} (hc : Cond.code y co n rt ∈ gW) : GoodIn gW (.code y co n rt :: gW) := fun w h => by
  rcases List.mem_cons.mp h with h | h
  · subst h; exact ⟨hc, gW_good _ hc⟩
  · exact ⟨h, gW_good _ h⟩
theorem blindW {G : Cx} {av : List Value} {w : va_W} {sz : Nat} : FrameBlind (va_Pc av (PreW G w sz)) := fun a U g mk q => ⟨q.1, q.2.1, q.2.2.1, q.2.2.2.1, q.2.2.2.2.blind g mk a⟩
theorem blindK {G : Cx} {av : List Value} {A : Nat → Prop} : FrameBlind (va_Pc av (KT G A)) := fun a U g mk q => ⟨q.1, q.2.blind g mk a⟩
theorem Wd.free {G : Cx} {A : Nat → Prop} {s : State} {H : Heap} {locs : List Loc} {w : va_W} (hw : Wd G A s H locs w) : ∀ q, va_A w H.size q → A q := by
  intro q h
  rcases h with ⟨k, e, h⟩ | h
  · exact hw.2.1.2 k (q, e) h
  · exact hw.2.2.2.2 q (Nat.le_trans hw.2.2.1.1 h)
theorem Wd.pre {G : Cx} {A : Nat → Prop} {s U : State} {H : Heap} {locs : List Loc} {w : va_W} (hw : Wd G A s H locs w) (hU : U.heap = H) (hW : s.WarmedH U.vm) : PreW G w H.size U :=
  ⟨by rw [hU], by rw [hU]; exact hw.1, hw.2.1.weaken (fun _ _ _ _ => trivial), hw.2.2.2.1.call hw.2.2.1 hw.free hU hW⟩
theorem Wd.post {S : Type} {G : Cx} {A : Nat → Prop} {s t : State} {H H1 : Heap} {locs locs1 : List Loc} {w : va_W} {wf : S → va_W} {u : S} (hw : Wd G A s H locs w) (ht : t.heap = H1) (hB : PostW G wf (va_A w H.size) u t) (hS : va_S A s.heap H1 locs1) : Wd G A s H1 locs1 (wf u) :=
  ⟨by rw [← ht]; exact hB.1, hB.2.weaken (fun _ _ _ h => hw.free _ h), hS, hw.2.2.2.1, hw.2.2.2.2⟩
/-- a receiver of the world -/
def Rc (w : va_W) (b : Nat) (C : String) : Prop := ∃ (k ci : Nat) (q : vw_C) (fs : List Value), vwCl[ci]? = some q ∧ q.1 = C ∧ w[k]? = some (b, .inr (ci, fs))
theorem Rc.cell {w : va_W} {b : Nat} {C : String} {G : Cx} {A : Nat → Prop} {s : State} {H : Heap} {locs : List Loc} (h : Rc w b C) (hw : Wd G A s H locs w) : ∃ cell : Cell, H[b]? = some cell ∧ cell.vm.isStatics = false ∧ s.vm.findClass C = some cell.cls := by
  obtain ⟨k, ci, q, fs, h1, rfl, h3⟩ := h
  exact va_recv hw.2.2.2.1.1 hw.1 h1 h3
/-- what is asked of the tables for a call -/
def Lk (y0 : MethodName) (idx : Nat) (y : MethodName) (co : ByteArray) (n : Nat) (rt : Option FieldType) : Prop := Cond.methodLink y0.cls idx y ∈ gW ∧ Cond.initialized y.cls ∈ gW ∧ Cond.code y co n rt ∈ gW
def Ky (y : MethodName) (k : Nat) : Prop := y.cls ≠ "java/lang/invoke/MethodHandle" ∧ y.cls ≠ "java/lang/invoke/VarHandle" ∧ (parseMethodDescriptor y.desc).map (fun d => d.parameters.length) = some k
section VC
variable {S : Type} {p : Program} {l : Launch} {e : Env} {R : Room} {s : State} {m : MethodId} {args : Array Value} {below : List Frame} {meth : Method} {c : Code} {H : Heap} {locs : List Loc} {cells slots : Nat} {Q : State → Prop}
variable {y0 : MethodName} {co0 : ByteArray} {n0 : Nat} {rt0 : Option FieldType} {G : Cx} {wf : S → va_W} {A : Nat → Prop} {x : S} {pc idx : Nat} {ls : Array Slot} {st0 rest As : List Value} {y : MethodName} {co : ByteArray} {n k : Nat} {rm : Room} {b : Nat}
theorem callB_gW {rt : Option FieldType} (g : Go l y0 co0 n0 rt0 p s m args meth c) (hL : Lk y0 idx y co n rt) (hK : Ky y k) (hR : rm.frames + 1 ≤ R.frames ∧ 8 + (n + 11) + rm.locals ≤ R.locals) : CallB R s args y0.cls idx y co n rt (.code y co n rt :: gW) rm rm.cells rm.slots k :=
  callB_of k g.2.2.2.2.2.1 (gW_of hL.2.2) rfl rfl rfl (g.2.2.2.2.2.1 _ hL.2.1) (g.2.2.2.2.2.1 _ hL.1) hK hR
theorem cal_Vi {rt : FieldType} {post : Int32 → S → Prop} (hM : Ci l G y co n rt rm wf (.ref b :: As) x post) (g : Go l y0 co0 n0 rt0 p s m args meth c) (hw : Wd G A s H locs (wf x)) (hdg : decode co0 pc = .ok (.invokevirtual idx, 3)) (hL : Lk y0 idx y co n (some rt)) (hi : Cond.instanceMethod y ∈ gW) (hse : Cond.selects y.cls y y ∈ gW) (hK : Ky y As.length) (hR : rm.frames + 1 ≤ R.frames ∧ 8 + (n + 11) + rm.locals ≤ R.locals) (hrc : Rc (wf x) b y.cls) (hl : ls.size = n0) (hst : st0 = As.reverse ++ .ref b :: rest) (hcat : (rest.map fun v => v.category).sum ≤ 8) (hf : cells + rm.cells ≤ R.cells ∧ slots + rm.slots ≤ R.slots)
    (kk : ∀ (r : Int32) (u : S) (H1 : Heap) (locs1 : List Loc), post r u → Wd G A s H1 locs1 (wf u) → W p l e R s m args below meth c H1 locs1 (cells + rm.cells) (slots + rm.slots) Q (F0 m (pc + 3) ls (.int r :: rest))) : W p l e R s m args below meth c H locs cells slots Q (F0 m pc ls st0) :=
  va_calli (va_runV (As := As) (rest := rest) ⟨g.1, g.2.1, g.2.2.2.1, g.2.2.2.2.1, g.2.2.2.2.2.1⟩ (hM H.size) ⟨callB_gW g hL hK hR, g.2.2.2.2.2.1 _ hi, g.2.2.2.2.2.1 _ hse⟩ ⟨blindW, hrc.cell hw, fun U hU hW => ⟨rfl, hw.pre hU hW⟩⟩ rfl rfl hl hst (lv_room hcat) hdg hf) hw.2.2.1 (fun q _ h => hw.free q h) hw.free (fun r u t H1 locs1 ht _ hp hB _ _ hS => kk r u H1 locs1 hp (hw.post ht hB hS))
theorem cal_Vv {post : S → Prop} (hM : Cv l G y co n rm wf (.ref b :: As) x post) (g : Go l y0 co0 n0 rt0 p s m args meth c) (hw : Wd G A s H locs (wf x)) (hdg : decode co0 pc = .ok (.invokevirtual idx, 3)) (hL : Lk y0 idx y co n none) (hi : Cond.instanceMethod y ∈ gW) (hse : Cond.selects y.cls y y ∈ gW) (hK : Ky y As.length) (hR : rm.frames + 1 ≤ R.frames ∧ 8 + (n + 11) + rm.locals ≤ R.locals) (hrc : Rc (wf x) b y.cls) (hl : ls.size = n0) (hst : st0 = As.reverse ++ .ref b :: rest) (hcat : (rest.map fun v => v.category).sum ≤ 8) (hf : cells + rm.cells ≤ R.cells ∧ slots + rm.slots ≤ R.slots)
    (kk : ∀ (u : S) (H1 : Heap) (locs1 : List Loc), post u → Wd G A s H1 locs1 (wf u) → W p l e R s m args below meth c H1 locs1 (cells + rm.cells) (slots + rm.slots) Q (F0 m (pc + 3) ls rest)) : W p l e R s m args below meth c H locs cells slots Q (F0 m pc ls st0) :=
  va_callv (va_runV (As := As) (rest := rest) ⟨g.1, g.2.1, g.2.2.2.1, g.2.2.2.2.1, g.2.2.2.2.2.1⟩ (hM H.size) ⟨callB_gW g hL hK hR, g.2.2.2.2.2.1 _ hi, g.2.2.2.2.2.1 _ hse⟩ ⟨blindW, hrc.cell hw, fun U hU hW => ⟨rfl, hw.pre hU hW⟩⟩ rfl rfl hl hst (lv_room hcat) hdg hf) hw.2.2.1 (fun q _ h => hw.free q h) hw.free (fun u t H1 locs1 ht _ hp hB _ _ hS => kk u H1 locs1 hp (hw.post ht hB hS))
theorem cal_Vq {rt : FieldType} {post : Option Nat → S → Prop} (hM : Cq l G y co n rt rm wf (.ref b :: As) x post) (g : Go l y0 co0 n0 rt0 p s m args meth c) (hw : Wd G A s H locs (wf x)) (hdg : decode co0 pc = .ok (.invokevirtual idx, 3)) (hL : Lk y0 idx y co n (some rt)) (hi : Cond.instanceMethod y ∈ gW) (hse : Cond.selects y.cls y y ∈ gW) (hK : Ky y As.length) (hR : rm.frames + 1 ≤ R.frames ∧ 8 + (n + 11) + rm.locals ≤ R.locals) (hrc : Rc (wf x) b y.cls) (hl : ls.size = n0) (hst : st0 = As.reverse ++ .ref b :: rest) (hcat : (rest.map fun v => v.category).sum ≤ 8) (hf : cells + rm.cells ≤ R.cells ∧ slots + rm.slots ≤ R.slots)
    (kk : ∀ (r : Option Nat) (u : S) (H1 : Heap) (locs1 : List Loc), post r u → Wd G A s H1 locs1 (wf u) → W p l e R s m args below meth c H1 locs1 (cells + rm.cells) (slots + rm.slots) Q (F0 m (pc + 3) ls (va_rf r :: rest))) : W p l e R s m args below meth c H locs cells slots Q (F0 m pc ls st0) :=
  va_callq (va_runV (As := As) (rest := rest) ⟨g.1, g.2.1, g.2.2.2.1, g.2.2.2.2.1, g.2.2.2.2.2.1⟩ (hM H.size) ⟨callB_gW g hL hK hR, g.2.2.2.2.2.1 _ hi, g.2.2.2.2.2.1 _ hse⟩ ⟨blindW, hrc.cell hw, fun U hU hW => ⟨rfl, hw.pre hU hW⟩⟩ rfl rfl hl hst (lv_room hcat) hdg hf) hw.2.2.1 (fun q _ h => hw.free q h) hw.free (fun r u t H1 locs1 ht _ hp hB _ _ hS => kk r u H1 locs1 hp (hw.post ht hB hS))
/-- the same, where the end is told by an equation -/
theorem cal_Vi' {rt : FieldType} {v : Int32} {x' : S} (hM : Ci l G y co n rt rm wf (.ref b :: As) x (fun r u => r = v ∧ u = x')) (g : Go l y0 co0 n0 rt0 p s m args meth c) (hw : Wd G A s H locs (wf x)) (hdg : decode co0 pc = .ok (.invokevirtual idx, 3)) (hL : Lk y0 idx y co n (some rt)) (hi : Cond.instanceMethod y ∈ gW) (hse : Cond.selects y.cls y y ∈ gW) (hK : Ky y As.length) (hR : rm.frames + 1 ≤ R.frames ∧ 8 + (n + 11) + rm.locals ≤ R.locals) (hrc : Rc (wf x) b y.cls) (hl : ls.size = n0) (hst : st0 = As.reverse ++ .ref b :: rest) (hcat : (rest.map fun v => v.category).sum ≤ 8) (h0 : rm.cells = 0 ∧ rm.slots = 0) (hf : cells ≤ R.cells ∧ slots ≤ R.slots)
    (kk : ∀ (H1 : Heap) (locs1 : List Loc), Wd G A s H1 locs1 (wf x') → W p l e R s m args below meth c H1 locs1 cells slots Q (F0 m (pc + 3) ls (.int v :: rest))) : W p l e R s m args below meth c H locs cells slots Q (F0 m pc ls st0) := by
  refine cal_Vi hM g hw hdg hL hi hse hK hR hrc hl hst hcat (by rw [h0.1, h0.2]; exact hf) (fun r u H1 locs1 hp hw1 => ?_)
  obtain ⟨rfl, rfl⟩ := hp
  rw [h0.1, h0.2]
  exact kk H1 locs1 hw1
theorem cal_Vv' {x' : S} (hM : Cv l G y co n rm wf (.ref b :: As) x (fun u => u = x')) (g : Go l y0 co0 n0 rt0 p s m args meth c) (hw : Wd G A s H locs (wf x)) (hdg : decode co0 pc = .ok (.invokevirtual idx, 3)) (hL : Lk y0 idx y co n none) (hi : Cond.instanceMethod y ∈ gW) (hse : Cond.selects y.cls y y ∈ gW) (hK : Ky y As.length) (hR : rm.frames + 1 ≤ R.frames ∧ 8 + (n + 11) + rm.locals ≤ R.locals) (hrc : Rc (wf x) b y.cls) (hl : ls.size = n0) (hst : st0 = As.reverse ++ .ref b :: rest) (hcat : (rest.map fun v => v.category).sum ≤ 8) (h0 : rm.cells = 0 ∧ rm.slots = 0) (hf : cells ≤ R.cells ∧ slots ≤ R.slots)
    (kk : ∀ (H1 : Heap) (locs1 : List Loc), Wd G A s H1 locs1 (wf x') → W p l e R s m args below meth c H1 locs1 cells slots Q (F0 m (pc + 3) ls rest)) : W p l e R s m args below meth c H locs cells slots Q (F0 m pc ls st0) := by
  refine cal_Vv hM g hw hdg hL hi hse hK hR hrc hl hst hcat (by rw [h0.1, h0.2]; exact hf) (fun u H1 locs1 hp hw1 => ?_)
  subst hp
  rw [h0.1, h0.2]
  exact kk H1 locs1 hw1
/-- a call that changes nothing: static, by its own host; by a nest mate; on a text -/
theorem cs_run {post : Int32 → Prop} {a : Array Value} (hr : va_Run p l e R s m args below meth c H locs cells slots 0 0 (F0 m pc ls st0) rest (vp_Si post a) (fun _ => False))
    (kk : ∀ r : Int32, post r → W p l e R s m args below meth c H locs cells slots Q (F0 m (pc + 3) ls (.int r :: rest))) : W p l e R s m args below meth c H locs cells slots Q (F0 m pc ls st0) := by
  intro T hT X
  obtain ⟨v, st₀, t, T', L, h0, X', hL, e1, e2, ⟨r, hv, hp, hh⟩, st⟩ := hr T hT X
  cases hv
  obtain ⟨t2, a1, b1⟩ := kk r hp T' (by rw [e1, hh, h0]) (Stand.forget X' (fun q h => (hL q h).elim))
  exact ⟨t2, st t2 a1, b1⟩
theorem cs_runq {post : Option Nat → Prop} {a : Array Value} (hr : va_Run p l e R s m args below meth c H locs cells slots 0 0 (F0 m pc ls st0) rest (va_Sq post a) (fun _ => False))
    (kk : ∀ r : Option Nat, post r → W p l e R s m args below meth c H locs cells slots Q (F0 m (pc + 3) ls (va_rf r :: rest))) : W p l e R s m args below meth c H locs cells slots Q (F0 m pc ls st0) := by
  intro T hT X
  obtain ⟨v, st₀, t, T', L, h0, X', hL, e1, e2, ⟨r, hv, hp, hh⟩, st⟩ := hr T hT X
  cases hv
  obtain ⟨t2, a1, b1⟩ := kk r hp T' (by rw [e1, hh, h0]) (Stand.forget X' (fun q h => (hL q h).elim))
  exact ⟨t2, st t2 a1, b1⟩
theorem cs_runv {a : Array Value} (hr : va_Run p l e R s m args below meth c H locs cells slots 0 0 (F0 m pc ls st0) rest (va_Sv (fun _ => True) a) (fun _ => False))
    (kk : W p l e R s m args below meth c H locs cells slots Q (F0 m (pc + 3) ls rest)) : W p l e R s m args below meth c H locs cells slots Q (F0 m pc ls st0) := by
  intro T hT X
  obtain ⟨v, st₀, t, T', L, h0, X', hL, e1, e2, ⟨hv, hp, hh⟩, st⟩ := hr T hT X
  cases hv
  obtain ⟨t2, a1, b1⟩ := kk T' (by rw [e1, hh, h0]) (Stand.forget X' (fun q h => (hL q h).elim))
  exact ⟨t2, st t2 a1, b1⟩
theorem cal_S {rt : FieldType} {v : Int32} (hM : Si l G y co n rt rm As (fun r => r = v)) (g : Go l y0 co0 n0 rt0 p s m args meth c) (hS : va_S A s.heap H locs) (hk : KT G A s) (hdg : decode co0 pc = .ok (.invokestatic idx, 3)) (hL : Lk y0 idx y co n (some rt)) (hi : Cond.static y ∈ gW) (hK : Ky y As.length) (h0 : rm.cells = 0 ∧ rm.slots = 0) (hR : rm.frames + 1 ≤ R.frames ∧ 8 + (n + 11) + rm.locals ≤ R.locals) (hl : ls.size = n0) (hst : st0 = As.reverse ++ rest) (hcat : (rest.map fun v => v.category).sum ≤ 8) (hf : cells ≤ R.cells ∧ slots ≤ R.slots)
    (kk : W p l e R s m args below meth c H locs cells slots Q (F0 m (pc + 3) ls (.int v :: rest))) : W p l e R s m args below meth c H locs cells slots Q (F0 m pc ls st0) := by
  have cb := callB_gW (R := R) g hL hK hR
  rw [h0.1, h0.2] at cb
  exact cs_run (va_runS (As := As) (rest := rest) ⟨g.1, g.2.1, g.2.2.2.1, g.2.2.2.2.1, g.2.2.2.2.2.1⟩ (hM A) ⟨cb, g.2.2.2.2.2.1 _ hi⟩ ⟨blindK, fun U hU hW => ⟨rfl, hk.call hS (fun _ h => h) hU hW⟩⟩ rfl rfl hl hst (lv_room hcat) hdg hf) (fun r hr => by subst hr; exact kk)
theorem cal_SN {rt : FieldType} {v : Int32} {host : String} (hM : Si l G y co n rt rm As (fun r => r = v)) (g : Go l y0 co0 n0 rt0 p s m args meth c) (hS : va_S A s.heap H locs) (hk : KT G A s) (hdg : decode co0 pc = .ok (.invokestatic idx, 3)) (hL : va_Nw (.methodLinkNest y0.cls idx y host) s ∧ Cond.initialized y.cls ∈ gW ∧ Cond.code y co n (some rt) ∈ gW) (hi : Cond.static y ∈ gW) (hK : Ky y As.length) (h0 : rm.cells = 0 ∧ rm.slots = 0) (hR : rm.frames + 1 ≤ R.frames ∧ 8 + (n + 11) + rm.locals ≤ R.locals) (hl : ls.size = n0) (hst : st0 = As.reverse ++ rest) (hcat : (rest.map fun v => v.category).sum ≤ 8) (hf : cells ≤ R.cells ∧ slots ≤ R.slots)
    (kk : W p l e R s m args below meth c H locs cells slots Q (F0 m (pc + 3) ls (.int v :: rest))) : W p l e R s m args below meth c H locs cells slots Q (F0 m pc ls st0) :=
  cs_run (va_runSN (As := As) (rest := rest) ⟨g.1, g.2.1, g.2.2.2.1, g.2.2.2.2.1, g.2.2.2.2.2.1⟩ (hM A) ⟨va_cnB As.length g.2.2.2.2.2.1 (gW_of hL.2.2) rfl h0.1 h0.2 hL.1 (g.2.2.2.2.2.1 _ hL.2.1) hK hR, g.2.2.2.2.2.1 _ hi, trivial⟩ ⟨blindK, fun U hU hW => ⟨rfl, hk.call hS (fun _ h => h) hU hW⟩⟩ rfl rfl hl hst (lv_room hcat) hdg hf) (fun r hr => by subst hr; exact kk)
theorem cal_Sq {rt : FieldType} {v : Option Nat} (hM : Sq l G y co n rt rm As (fun r => r = v)) (g : Go l y0 co0 n0 rt0 p s m args meth c) (hS : va_S A s.heap H locs) (hk : KT G A s) (hdg : decode co0 pc = .ok (.invokestatic idx, 3)) (hL : Lk y0 idx y co n (some rt)) (hi : Cond.static y ∈ gW) (hK : Ky y As.length) (h0 : rm.cells = 0 ∧ rm.slots = 0) (hR : rm.frames + 1 ≤ R.frames ∧ 8 + (n + 11) + rm.locals ≤ R.locals) (hl : ls.size = n0) (hst : st0 = As.reverse ++ rest) (hcat : (rest.map fun v => v.category).sum ≤ 8) (hf : cells ≤ R.cells ∧ slots ≤ R.slots)
    (kk : W p l e R s m args below meth c H locs cells slots Q (F0 m (pc + 3) ls (va_rf v :: rest))) : W p l e R s m args below meth c H locs cells slots Q (F0 m pc ls st0) := by
  have cb := callB_gW (R := R) g hL hK hR
  rw [h0.1, h0.2] at cb
  exact cs_runq (va_runS (As := As) (rest := rest) ⟨g.1, g.2.1, g.2.2.2.1, g.2.2.2.2.1, g.2.2.2.2.2.1⟩ (hM A) ⟨cb, g.2.2.2.2.2.1 _ hi⟩ ⟨blindK, fun U hU hW => ⟨rfl, hk.call hS (fun _ h => h) hU hW⟩⟩ rfl rfl hl hst (lv_room hcat) hdg hf) (fun r hr => by subst hr; exact kk)
theorem cal_Sv (hM : Sv l G y co n rm As) (g : Go l y0 co0 n0 rt0 p s m args meth c) (hS : va_S A s.heap H locs) (hk : KT G A s) (hdg : decode co0 pc = .ok (.invokestatic idx, 3)) (hL : Lk y0 idx y co n none) (hi : Cond.static y ∈ gW) (hK : Ky y As.length) (h0 : rm.cells = 0 ∧ rm.slots = 0) (hR : rm.frames + 1 ≤ R.frames ∧ 8 + (n + 11) + rm.locals ≤ R.locals) (hl : ls.size = n0) (hst : st0 = As.reverse ++ rest) (hcat : (rest.map fun v => v.category).sum ≤ 8) (hf : cells ≤ R.cells ∧ slots ≤ R.slots)
    (kk : W p l e R s m args below meth c H locs cells slots Q (F0 m (pc + 3) ls rest)) : W p l e R s m args below meth c H locs cells slots Q (F0 m pc ls st0) := by
  have cb := callB_gW (R := R) g hL hK hR
  rw [h0.1, h0.2] at cb
  exact cs_runv (va_runS (As := As) (rest := rest) ⟨g.1, g.2.1, g.2.2.2.1, g.2.2.2.2.1, g.2.2.2.2.2.1⟩ (hM A) ⟨cb, g.2.2.2.2.2.1 _ hi⟩ ⟨blindK, fun U hU hW => ⟨rfl, hk.call hS (fun _ h => h) hU hW⟩⟩ rfl rfl hl hst (lv_room hcat) hdg hf) kk
theorem cal_VS {rt : FieldType} {v : Int32} (hM : Si l G y co n rt rm (.ref b :: As) (fun r => r = v)) (g : Go l y0 co0 n0 rt0 p s m args meth c) (hS : va_S A s.heap H locs) (hk : KT G A s) (hdg : decode co0 pc = .ok (.invokevirtual idx, 3)) (hL : Lk y0 idx y co n (some rt)) (hi : Cond.instanceMethod y ∈ gW) (hse : Cond.selects y.cls y y ∈ gW) (hK : Ky y As.length) (h0 : rm.cells = 0 ∧ rm.slots = 0) (hR : rm.frames + 1 ≤ R.frames ∧ 8 + (n + 11) + rm.locals ≤ R.locals) (hrc : ∃ cell : Cell, H[b]? = some cell ∧ cell.vm.isStatics = false ∧ s.vm.findClass y.cls = some cell.cls) (hl : ls.size = n0) (hst : st0 = As.reverse ++ .ref b :: rest) (hcat : (rest.map fun v => v.category).sum ≤ 8) (hf : cells ≤ R.cells ∧ slots ≤ R.slots)
    (kk : W p l e R s m args below meth c H locs cells slots Q (F0 m (pc + 3) ls (.int v :: rest))) : W p l e R s m args below meth c H locs cells slots Q (F0 m pc ls st0) := by
  have cb := callB_gW (R := R) g hL hK hR
  rw [h0.1, h0.2] at cb
  exact cs_run (va_runV (As := As) (rest := rest) ⟨g.1, g.2.1, g.2.2.2.1, g.2.2.2.2.1, g.2.2.2.2.2.1⟩ (hM A) ⟨cb, g.2.2.2.2.2.1 _ hi, g.2.2.2.2.2.1 _ hse⟩ ⟨blindK, hrc, fun U hU hW => ⟨rfl, hk.call hS (fun _ h => h) hU hW⟩⟩ rfl rfl hl hst (lv_room hcat) hdg hf) (fun r hr => by subst hr; exact kk)
end VC
