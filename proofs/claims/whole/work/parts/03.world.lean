/-! ===== pool numbers of the nest words and of the texts ===== -/
abbrev nwTi : Cond := .methodLinkNest "LateChecks" 9 yX2_init "LateChecks"
abbrev nwEi : Cond := .methodLinkNest "LateChecks" 288 yX1_init "LateChecks"
abbrev nwEb : Cond := .methodLinkNest "LateChecks$Entry" 48 yX3_bit "LateChecks"
abbrev nwDb : Cond := .methodLinkNest "LateChecks$Deal" 53 yX3_bit "LateChecks"
abbrev nwEh : Cond := .methodLinkNest "LateChecks$Entry" 52 yX3_has "LateChecks"
def entJ : List Nat := [88, 90, 92, 94, 96, 98, 100, 102, 104, 106, 108, 110, 112]
def txtJ : List String := ["all", "item", "limit", "begin", "read", "write", "send", "", "IV", "N", "D", "DI", "DIV"]
def lenJ : List Nat := [3, 4, 5, 5, 4, 5, 4, 0, 2, 1, 1, 2, 3]
def bytJ : List (List Int32) := [[97, 108, 108], [105, 116, 101, 109], [108, 105, 109, 105, 116], [98, 101, 103, 105, 110], [114, 101, 97, 100], [119, 114, 105, 116, 101], [115, 101, 110, 100], [], [73, 86], [78], [68], [68, 73], [68, 73, 86]]
/-! ===== what the tables say, carried by every contract ===== -/
abbrev Cx : Type := va_G × (Nat → ClassId) × (Nat → Nat) × (Nat → Nat)
def tysG (k : Nat → ClassId) : List (ClassId × FieldType) := [(k 0, .int), (k 1, .boolean), (k 2, .object "LateChecks$Deal"), (k 3, .object "LateChecks$Entry")]
def KN (U : State) : Prop := va_Nw nwTi U ∧ va_Nw nwEi U ∧ va_Nw nwEb U ∧ va_Nw nwDb U ∧ va_Nw nwEh U
def KJ (G : Cx) (A : Nat → Prop) (U : State) : Prop := vk_S 13 lenJ bytJ G.2.2.1 G.2.2.2 A U U.heap ∧ (∀ i, i < 13 → vk_R "LateChecks$Text" (entJ.getD i 0) (txtJ.getD i "") (G.2.2.1 i) U) ∧ va_Z "java/lang/String" "COMPACT_STRINGS" "Z" (.int 1) A U U.heap ∧ va_Zq "jdk/internal/util/Preconditions" "SIOOBE_FORMATTER" "Ljava/util/function/BiFunction;" A U U.heap
def KT (G : Cx) (A : Nat → Prop) (U : State) : Prop := va_K G.1 vwCl (tysG G.2.1) U ∧ KN U ∧ (va_AO "LateChecks$Deal" U ∧ va_AO "LateChecks$Entry" U) ∧ KJ G A U
theorem KN.warm {s U : State} (hW : s.WarmedH U.vm) (h : KN s) : KN U := ⟨va_Nw.warmM hW h.1, va_Nw.warmM hW h.2.1, va_Nw.warmM hW h.2.2.1, va_Nw.warmM hW h.2.2.2.1, va_Nw.warmM hW h.2.2.2.2⟩
theorem KN.same {u U : State} (hv : u.vm = U.vm) (h : KN u) : KN U := ⟨va_Nw.same rfl hv h.1, va_Nw.same rfl hv h.2.1, va_Nw.same rfl hv h.2.2.1, va_Nw.same rfl hv h.2.2.2.1, va_Nw.same rfl hv h.2.2.2.2⟩
theorem KT.call {G : Cx} {A A' : Nat → Prop} {s U : State} {H : Heap} {locs : List Loc} (h : KT G A s) (hS : va_S A s.heap H locs) (hA : ∀ q, A' q → A q) (hU : U.heap = H) (hW : s.WarmedH U.vm) : KT G A' U := by
  obtain ⟨h1, h2, ⟨a1, a2⟩, h4, h5, h6, h7⟩ := h
  have ha := hW.alike
  subst hU
  exact ⟨va_K.moved ha h1, h2.warm hW, ⟨a1.moved ha, a2.moved ha⟩, ((h4.kept hS.2.1).narrow hA).moved ha, fun i hi => (h5 i hi).warm hW, ((h6.kept hS.2.1).narrow hA).moved ha, ((h7.kept hS.2.1).narrow hA).moved ha⟩
theorem KT.blind {G : Cx} {A : Nat → Prop} {U : State} (g : JFrame) (mk : MethodId) (a : Array Value) (h : KT G A U) : KT G A (U.calling g mk a) := by
  obtain ⟨h1, h2, ⟨a1, a2⟩, h4, h5, h6, h7⟩ := h
  have ha : U.vm.Alike (U.calling g mk a).vm := Vm.Alike.refl U.vm
  exact ⟨va_K.moved ha h1, h2.same rfl, ⟨a1.moved ha, a2.moved ha⟩, h4.moved ha, fun i hi => (h5 i hi).same rfl, h6.moved ha, h7.moved ha⟩
/-! ===== a world, and what a method may rely on while it runs ===== -/
def Wd (G : Cx) (A : Nat → Prop) (s : State) (H : Heap) (locs : List Loc) (w : va_W) : Prop := va_P G.1 vwCl w H ∧ va_D A w ∧ va_S A s.heap H locs ∧ KT G A s ∧ ∀ q, s.heap.size ≤ q → A q
def PreW (G : Cx) (w : va_W) (sz : Nat) (U : State) : Prop := U.heap.size = sz ∧ va_P G.1 vwCl w U.heap ∧ va_D (fun _ => True) w ∧ KT G (va_A w sz) U
def PostW {S : Type} (G : Cx) (wf : S → va_W) (A : Nat → Prop) (u : S) (t : State) : Prop := va_P G.1 vwCl (wf u) t.heap ∧ va_D A (wf u)
/-- contracts: an int (or boolean), nothing, a reference or null -/
def Ci {S : Type} (l : Launch) (G : Cx) (y : MethodName) (co : ByteArray) (n : Nat) (rt : FieldType) (rm : Room) (wf : S → va_W) (av : List Value) (x : S) (post : Int32 → S → Prop) : Prop := ∀ sz, Met l y (.code y co n (some rt) :: gW) rm (va_Pc av (PreW G (wf x) sz)) (va_Qi post (PostW G wf (va_A (wf x) sz)) (va_A (wf x) sz)) rm.cells rm.slots (va_A (wf x) sz)
def Cv {S : Type} (l : Launch) (G : Cx) (y : MethodName) (co : ByteArray) (n : Nat) (rm : Room) (wf : S → va_W) (av : List Value) (x : S) (post : S → Prop) : Prop := ∀ sz, Met l y (.code y co n none :: gW) rm (va_Pc av (PreW G (wf x) sz)) (va_Qv post (PostW G wf (va_A (wf x) sz)) (va_A (wf x) sz)) rm.cells rm.slots (va_A (wf x) sz)
def Cq {S : Type} (l : Launch) (G : Cx) (y : MethodName) (co : ByteArray) (n : Nat) (rt : FieldType) (rm : Room) (wf : S → va_W) (av : List Value) (x : S) (post : Option Nat → S → Prop) : Prop := ∀ sz, Met l y (.code y co n (some rt) :: gW) rm (va_Pc av (PreW G (wf x) sz)) (va_Qq post (PostW G wf (va_A (wf x) sz)) (va_A (wf x) sz)) rm.cells rm.slots (va_A (wf x) sz)
/-- of a method that changes nothing and has no world but the texts -/
def Si (l : Launch) (G : Cx) (y : MethodName) (co : ByteArray) (n : Nat) (rt : FieldType) (rm : Room) (av : List Value) (post : Int32 → Prop) : Prop := ∀ A : Nat → Prop, Met l y (.code y co n (some rt) :: gW) rm (va_Pc av (KT G A)) (vp_Si post) 0 0 (fun _ => False)
def Sq (l : Launch) (G : Cx) (y : MethodName) (co : ByteArray) (n : Nat) (rt : FieldType) (rm : Room) (av : List Value) (post : Option Nat → Prop) : Prop := ∀ A : Nat → Prop, Met l y (.code y co n (some rt) :: gW) rm (va_Pc av (KT G A)) (va_Sq post) 0 0 (fun _ => False)
def Sv (l : Launch) (G : Cx) (y : MethodName) (co : ByteArray) (n : Nat) (rm : Room) (av : List Value) : Prop := ∀ A : Nat → Prop, Met l y (.code y co n none :: gW) rm (va_Pc av (KT G A)) (va_Sv (fun _ => True)) 0 0 (fun _ => False)
/-- how a method's proof begins -/
def Go (l : Launch) (y : MethodName) (co : ByteArray) (n : Nat) (rt : Option FieldType) (p : Program) (s : State) (m : MethodId) (args : Array Value) (meth : Method) (c : Code) : Prop := p.tables.exec = Jvm.exec ∧ c.code = co ∧ meth.sig.returnType = rt ∧ c.maxLocals = n ∧ s.vm.findClass y.cls = some m.cls ∧ (∀ w ∈ gW, w.before args s = true) ∧ meth.locks = false ∧ meth.name = y.name
theorem Wd.of {G : Cx} {w : va_W} {s : State} (hP : va_P G.1 vwCl w s.heap) (hD : va_D (fun _ => True) w) (hK : KT G (va_A w s.heap.size) s) : Wd G (va_A w s.heap.size) s s.heap [] w := ⟨hP, hD.self, va_S.rf, hK, fun _ h => Or.inr h⟩
theorem Go.of {l : Launch} {y : MethodName} {co : ByteArray} {n : Nat} {rt : Option FieldType} {rm : Room} {p : Program} {e : Env} {s : State} {m : MethodId} {args : Array Value} {below : List Frame} {meth : Method} {c : Code} {s₁ : State} (B : BodyLoose p l y (headSpec (.code y co n rt :: gW) rm) co n rt e s m args below meth c s₁) (hml : c.maxLocals = n) : Go l y co n rt p s m args meth c :=
  ⟨B.exec, B.bytes, B.returns, hml, findClass_of_methodNamed B.named, fun w h => atoms_spec (ws := .code y co n rt :: gW) B.pre w (List.mem_cons_of_mem _ h), B.notSynchronized, (name_of_methodNamed B.named B.method).1⟩
section VB
variable {S : Type} {l : Launch} {G : Cx} {y : MethodName} {co : ByteArray} {n : Nat} {rm : Room} {wf : S → va_W} {av : List Value} {x : S}
theorem Ci.mk {rt : FieldType} {post : Int32 → S → Prop} (hy : plainName y.cls = true) (hlen : (lg_sl av).length ≤ n)
    (body : ∀ (p : Program) (e : Env) (s : State) (m : MethodId) (below : List Frame) (meth : Method) (c : Code) (A : Nat → Prop) (ls : Array Slot), Go l y co n (some rt) p s m av.toArray meth c → Wd G A s s.heap [] (wf x) → lv_has ls n (lv_args 0 av) →
      W p l e rm s m av.toArray below meth c s.heap [] 0 0 (MQ below (va_Qi post (PostW G wf A) A) av.toArray s rm.cells rm.slots A) (F0 m 0 ls [])) : Ci l G y co n rt rm wf av x post := by
  intro sz
  refine Met.ofW (cc := co) (maxL := n) (ret := some rt) hy rfl ?_
  intro p e s m args below meth c s₁ B hml hv
  obtain ⟨rfl, hsz, hP, hD, hK⟩ := hv
  subst hsz
  rw [lg_entry_eq]
  exact body p e s m below meth c _ _ (Go.of B hml) (Wd.of hP hD hK) (lv_entry av hlen)
theorem Cv.mk {post : S → Prop} (hy : plainName y.cls = true) (hlen : (lg_sl av).length ≤ n)
    (body : ∀ (p : Program) (e : Env) (s : State) (m : MethodId) (below : List Frame) (meth : Method) (c : Code) (A : Nat → Prop) (ls : Array Slot), Go l y co n none p s m av.toArray meth c → Wd G A s s.heap [] (wf x) → lv_has ls n (lv_args 0 av) →
      W p l e rm s m av.toArray below meth c s.heap [] 0 0 (MQ below (va_Qv post (PostW G wf A) A) av.toArray s rm.cells rm.slots A) (F0 m 0 ls [])) : Cv l G y co n rm wf av x post := by
  intro sz
  refine Met.ofW (cc := co) (maxL := n) (ret := none) hy rfl ?_
  intro p e s m args below meth c s₁ B hml hv
  obtain ⟨rfl, hsz, hP, hD, hK⟩ := hv
  subst hsz
  rw [lg_entry_eq]
  exact body p e s m below meth c _ _ (Go.of B hml) (Wd.of hP hD hK) (lv_entry av hlen)
theorem Cq.mk {rt : FieldType} {post : Option Nat → S → Prop} (hy : plainName y.cls = true) (hlen : (lg_sl av).length ≤ n)
    (body : ∀ (p : Program) (e : Env) (s : State) (m : MethodId) (below : List Frame) (meth : Method) (c : Code) (A : Nat → Prop) (ls : Array Slot), Go l y co n (some rt) p s m av.toArray meth c → Wd G A s s.heap [] (wf x) → lv_has ls n (lv_args 0 av) →
      W p l e rm s m av.toArray below meth c s.heap [] 0 0 (MQ below (va_Qq post (PostW G wf A) A) av.toArray s rm.cells rm.slots A) (F0 m 0 ls [])) : Cq l G y co n rt rm wf av x post := by
  intro sz
  refine Met.ofW (cc := co) (maxL := n) (ret := some rt) hy rfl ?_
  intro p e s m args below meth c s₁ B hml hv
  obtain ⟨rfl, hsz, hP, hD, hK⟩ := hv
  subst hsz
  rw [lg_entry_eq]
  exact body p e s m below meth c _ _ (Go.of B hml) (Wd.of hP hD hK) (lv_entry av hlen)
theorem Si.mk {rt : FieldType} {post : Int32 → Prop} (hy : plainName y.cls = true) (hlen : (lg_sl av).length ≤ n)
    (body : ∀ (p : Program) (e : Env) (s : State) (m : MethodId) (below : List Frame) (meth : Method) (c : Code) (A : Nat → Prop) (ls : Array Slot), Go l y co n (some rt) p s m av.toArray meth c → KT G A s → lv_has ls n (lv_args 0 av) →
      W p l e rm s m av.toArray below meth c s.heap [] 0 0 (MQ below (vp_Si post) av.toArray s 0 0 (fun _ => False)) (F0 m 0 ls [])) : Si l G y co n rt rm av post := by
  intro A
  refine Met.ofW (cc := co) (maxL := n) (ret := some rt) hy rfl ?_
  intro p e s m args below meth c s₁ B hml hv
  obtain ⟨rfl, hk⟩ := hv
  rw [lg_entry_eq]
  exact body p e s m below meth c A _ (Go.of B hml) hk (lv_entry av hlen)
theorem Sq.mk {rt : FieldType} {post : Option Nat → Prop} (hy : plainName y.cls = true) (hlen : (lg_sl av).length ≤ n)
    (body : ∀ (p : Program) (e : Env) (s : State) (m : MethodId) (below : List Frame) (meth : Method) (c : Code) (A : Nat → Prop) (ls : Array Slot), Go l y co n (some rt) p s m av.toArray meth c → KT G A s → lv_has ls n (lv_args 0 av) →
      W p l e rm s m av.toArray below meth c s.heap [] 0 0 (MQ below (va_Sq post) av.toArray s 0 0 (fun _ => False)) (F0 m 0 ls [])) : Sq l G y co n rt rm av post := by
  intro A
  refine Met.ofW (cc := co) (maxL := n) (ret := some rt) hy rfl ?_
  intro p e s m args below meth c s₁ B hml hv
  obtain ⟨rfl, hk⟩ := hv
  rw [lg_entry_eq]
  exact body p e s m below meth c A _ (Go.of B hml) hk (lv_entry av hlen)
theorem Sv.mk (hy : plainName y.cls = true) (hlen : (lg_sl av).length ≤ n)
    (body : ∀ (p : Program) (e : Env) (s : State) (m : MethodId) (below : List Frame) (meth : Method) (c : Code) (A : Nat → Prop) (ls : Array Slot), Go l y co n none p s m av.toArray meth c → KT G A s → lv_has ls n (lv_args 0 av) →
      W p l e rm s m av.toArray below meth c s.heap [] 0 0 (MQ below (va_Sv (fun _ => True)) av.toArray s 0 0 (fun _ => False)) (F0 m 0 ls [])) : Sv l G y co n rm av := by
  intro A
  refine Met.ofW (cc := co) (maxL := n) (ret := none) hy rfl ?_
  intro p e s m args below meth c s₁ B hml hv
  obtain ⟨rfl, hk⟩ := hv
  rw [lg_entry_eq]
  exact body p e s m below meth c A _ (Go.of B hml) hk (lv_entry av hlen)
end VB
/-! ===== ends ===== -/
section VE
variable {S : Type} {p : Program} {l : Launch} {e : Env} {R : Room} {s : State} {m : MethodId} {args : Array Value} {below : List Frame} {meth : Method} {c : Code} {H : Heap} {locs : List Loc} {cells slots : Nat} {y : MethodName} {co : ByteArray} {n : Nat} {G : Cx} {wf : S → va_W} {A : Nat → Prop} {u : S} {pc : Nat} {ls : Array Slot}
theorem ret_i {post : Int32 → S → Prop} {r : Int32} (g : Go l y co n (some .int) p s m args meth c) (hw : Wd G A s H locs (wf u)) (hdg : decode co pc = .ok (.ireturn, 1)) (hp : post r u) : W p l e R s m args below meth c H locs cells slots (MQ below (va_Qi post (PostW G wf A) A) args s cells slots A) (F0 m pc ls [.int r]) :=
  W.iret g.1 g.2.1 g.2.2.1 (fun t ht _ => ⟨⟨r, u, rfl, hp, by rw [ht]; exact hw.1, hw.2.1⟩, hw.2.2.1.F ht⟩) hw.2.2.1.2.2 hdg (hlocks := g.2.2.2.2.2.2.1)
theorem ret_z {post : Int32 → S → Prop} {r : Int32} (g : Go l y co n (some .boolean) p s m args meth c) (hw : Wd G A s H locs (wf u)) (hdg : decode co pc = .ok (.ireturn, 1)) (hn : narrow .boolean (.int r) = .int r) (hp : post r u) : W p l e R s m args below meth c H locs cells slots (MQ below (va_Qi post (PostW G wf A) A) args s cells slots A) (F0 m pc ls [.int r]) :=
  W.zret g.1 g.2.1 g.2.2.1 hn (fun t ht _ => ⟨⟨r, u, rfl, hp, by rw [ht]; exact hw.1, hw.2.1⟩, hw.2.2.1.F ht⟩) hw.2.2.1.2.2 hdg (hlocks := g.2.2.2.2.2.2.1)
theorem ret_v {post : S → Prop} (g : Go l y co n none p s m args meth c) (hw : Wd G A s H locs (wf u)) (hdg : decode co pc = .ok (.return_, 1)) (hp : post u) : W p l e R s m args below meth c H locs cells slots (MQ below (va_Qv post (PostW G wf A) A) args s cells slots A) (F0 m pc ls []) :=
  W.vret g.1 g.2.1 g.2.2.1 (fun t ht _ => ⟨⟨u, rfl, hp, by rw [ht]; exact hw.1, hw.2.1⟩, hw.2.2.1.F ht⟩) hw.2.2.1.2.2 hdg (hlocks := g.2.2.2.2.2.2.1)
theorem ret_q {post : Option Nat → S → Prop} {C : String} {r : Option Nat} (g : Go l y co n (some (.object C)) p s m args meth c) (hw : Wd G A s H locs (wf u)) (hdg : decode co pc = .ok (.areturn, 1)) (hp : post r u) : W p l e R s m args below meth c H locs cells slots (MQ below (va_Qq post (PostW G wf A) A) args s cells slots A) (F0 m pc ls [va_rf r]) :=
  W.aret g.1 g.2.1 g.2.2.1 (Or.inl ⟨_, rfl⟩) (va_rf_or r) (fun t ht _ => ⟨⟨r, u, rfl, hp, by rw [ht]; exact hw.1, hw.2.1⟩, hw.2.2.1.F ht⟩) hw.2.2.1.2.2 hdg (hlocks := g.2.2.2.2.2.2.1)
theorem ret_si {post : Int32 → Prop} {r : Int32} (g : Go l y co n (some .int) p s m args meth c) (hdg : decode co pc = .ok (.ireturn, 1)) (hp : post r) : W p l e R s m args below meth c s.heap [] 0 0 (MQ below (vp_Si post) args s 0 0 (fun _ => False)) (F0 m pc ls [.int r]) :=
  W.iret g.1 g.2.1 g.2.2.1 (fun t ht _ => ⟨r, rfl, hp, ht⟩) (fun _ h => by cases h) hdg (hlocks := g.2.2.2.2.2.2.1)
theorem ret_sz {post : Int32 → Prop} {r : Int32} (g : Go l y co n (some .boolean) p s m args meth c) (hdg : decode co pc = .ok (.ireturn, 1)) (hn : narrow .boolean (.int r) = .int r) (hp : post r) : W p l e R s m args below meth c s.heap [] 0 0 (MQ below (vp_Si post) args s 0 0 (fun _ => False)) (F0 m pc ls [.int r]) :=
  W.zret g.1 g.2.1 g.2.2.1 hn (fun t ht _ => ⟨r, rfl, hp, ht⟩) (fun _ h => by cases h) hdg (hlocks := g.2.2.2.2.2.2.1)
theorem ret_sc {ty : FieldType} {post : Int32 → Prop} {r : Int32} (g : Go l y co n (some ty) p s m args meth c) (hdg : decode co pc = .ok (.ireturn, 1)) (hn : narrow ty (.int r) = .int r) (hp : post r) : W p l e R s m args below meth c s.heap [] 0 0 (MQ below (vp_Si post) args s 0 0 (fun _ => False)) (F0 m pc ls [.int r]) :=
  W.zret g.1 g.2.1 g.2.2.1 hn (fun t ht _ => ⟨r, rfl, hp, ht⟩) (fun _ h => by cases h) hdg (hlocks := g.2.2.2.2.2.2.1)
theorem ret_sv (g : Go l y co n none p s m args meth c) (hdg : decode co pc = .ok (.return_, 1)) : W p l e R s m args below meth c s.heap [] 0 0 (MQ below (va_Sv (fun _ => True)) args s 0 0 (fun _ => False)) (F0 m pc ls []) :=
  W.vret g.1 g.2.1 g.2.2.1 (fun t ht _ => ⟨rfl, trivial, ht⟩) (fun _ h => by cases h) hdg (hlocks := g.2.2.2.2.2.2.1)
theorem ret_sq {C : String} {post : Option Nat → Prop} {r : Option Nat} (g : Go l y co n (some (.object C)) p s m args meth c) (hdg : decode co pc = .ok (.areturn, 1)) (hp : post r) : W p l e R s m args below meth c s.heap [] 0 0 (MQ below (va_Sq post) args s 0 0 (fun _ => False)) (F0 m pc ls [va_rf r]) :=
  W.aret g.1 g.2.1 g.2.2.1 (Or.inl ⟨_, rfl⟩) (va_rf_or r) (fun t ht _ => ⟨r, rfl, hp, ht⟩) (fun _ h => by cases h) hdg (hlocks := g.2.2.2.2.2.2.1)
end VE
