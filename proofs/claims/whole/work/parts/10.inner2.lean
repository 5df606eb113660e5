/-! ===== the rest of the class's inner methods; the public ones that make nothing ===== -/
section VQ2
variable {S : Type} {p : Program} {l : Launch} {e : Env} {R : Room} {s : State} {m : MethodId} {args : Array Value} {below : List Frame} {meth : Method} {c : Code} {H : Heap} {locs : List Loc} {cells slots : Nat} {Q : State → Prop}
variable {y0 : MethodName} {co0 : ByteArray} {n0 : Nat} {rt0 : Option FieldType} {G : Cx} {wf : S → va_W} {A : Nat → Prop} {x : S} {pc idx : Nat} {ls : Array Slot} {st0 rest As : List Value} {y : MethodName} {co : ByteArray} {n k : Nat} {rm : Room} {b : Nat}
theorem cal_Vq' {rt : FieldType} {v : Option Nat} {x' : S} (hM : Cq l G y co n rt rm wf (.ref b :: As) x (fun r u => r = v ∧ u = x')) (g : Go l y0 co0 n0 rt0 p s m args meth c) (hw : Wd G A s H locs (wf x)) (hdg : decode co0 pc = .ok (.invokevirtual idx, 3)) (hL : Lk y0 idx y co n (some rt)) (hi : Cond.instanceMethod y ∈ gW) (hse : Cond.selects y.cls y y ∈ gW) (hK : Ky y As.length) (hR : rm.frames + 1 ≤ R.frames ∧ 8 + (n + 11) + rm.locals ≤ R.locals) (hrc : Rc (wf x) b y.cls) (hl : ls.size = n0) (hst : st0 = As.reverse ++ .ref b :: rest) (hcat : (rest.map fun v => v.category).sum ≤ 8) (h0 : rm.cells = 0 ∧ rm.slots = 0) (hf : cells ≤ R.cells ∧ slots ≤ R.slots)
    (kk : ∀ (H1 : Heap) (locs1 : List Loc), Wd G A s H1 locs1 (wf x') → W p l e R s m args below meth c H1 locs1 cells slots Q (F0 m (pc + 3) ls (va_rf v :: rest))) : W p l e R s m args below meth c H locs cells slots Q (F0 m pc ls st0) := by
  refine cal_Vq hM g hw hdg hL hi hse hK hR hrc hl hst hcat (by rw [h0.1, h0.2]; exact hf) (fun r u H1 locs1 hp hw1 => ?_)
  obtain ⟨rfl, rfl⟩ := hp
  rw [h0.1, h0.2]
  exact kk H1 locs1 hw1
end VQ2
theorem inB_cl {n : Nat} {x N : Int32} (h : inB N x = true) (hN : N = nI n) (hn : n < 2 ^ 31) : x = nI x.toNatClampNeg ∧ x.toNatClampNeg < n := by
  obtain ⟨j, hj, rfl⟩ := inB_of h hN hn
  rw [nI_clamp (by omega)]
  exact ⟨rfl, hj⟩
theorem dm_N (b : Int32) (x : Sg) (o : Nat) : ∀ n, sI (foS (dmS b) x n) o 0 = sI x o 0
  | 0 => rfl
  | n + 1 => by
    rw [foS, dmS]
    split
    · rw [sI_ne (by omega)]; exact dm_N b x o n
    · exact dm_N b x o n
def okE (c : Nat) (k : Int32) : Bool := !decide (k < 1) && !decide (nI c < k)
theorem okE_of {c : Nat} {k : Int32} (h : okE c k = true) (hc : c ≤ 512) : ∃ n, n < c ∧ k = nI (n + 1) := by
  simp only [okE, Bool.and_eq_true, Bool.not_eq_true', decide_eq_false_iff_not] at h
  have h0 : ¬ k < 0 := fun q => h.1 (Int32.lt_trans q (by decide))
  obtain ⟨j, hj, rfl⟩ := nI_of h0
  have h1 : 1 ≤ j := by
    rcases Nat.lt_or_ge j 1 with q | q
    · exact absurd (nI_lt (b := 1) q (by decide)) h.1
    · exact q
  have h2 : j ≤ c := by
    rcases Nat.lt_or_ge c j with q | q
    · exact absurd (nI_lt q hj) h.2
    · exact q
  exact ⟨j - 1, by omega, by rw [Nat.sub_add_cancel h1]⟩
def fwP (x : Sg) (v k : Nat) : Bool := inB 6 (saI x (nI k)) && decide (sA x (2 + (saI x (nI k)).toNatClampNeg) 12 v = -1)
def fwI (x : Sg) (v : Nat) : Int32 := if fstN (fwP x v) 6 < 6 then saI x (nI (fstN (fwP x v) 6)) else -1
theorem fwI_no {x : Sg} {v : Nat} (h : ∀ j, j < 6 → fwP x v j = false) : fwI x v = -1 := by rw [fwI, fstN_no h, if_neg (by omega)]
theorem fwI_at {x : Sg} {v i : Nat} (hp : fwP x v i = true) (hn : ∀ j, j < i → fwP x v j = false) (h : i < 6) : fwI x v = saI x (nI i) := by rw [fwI, fstN_at hp hn h, if_pos h]
def avI (x : Sg) : Int32 := foI (fun i a => a + sA x 0 1 i) 0 8
def apC (x : Sg) (t : Nat) (v : Int32) : Sg := pI (pA x 1 0 (upd (sA x 1 0) t v)) 1 1 (nI (t + 1))
def wrC (x : Sg) (t : Nat) (v : Int32) : Int32 × Sg := if v < 0 ∨ ¬ v ≤ 255 then (-3, x) else if t < 200 then (nI (t + 1), apC x t v) else (-5, x)
def itC (x : Sg) (a w : Int32) : Int32 := if inB 8 a = true then (if w = 0 then sA x 0 1 a.toNatClampNeg else if w = 1 then sA x 0 2 a.toNatClampNeg else -3) else -2
def liC (x : Sg) (n : Int32) : Int32 × Sg := if n < 1 ∨ ¬ n ≤ 9 then (-3, x) else (sI x 0 6, pI x 0 6 n)
def beC (x : Sg) (a : Int32) : Int32 × Sg := if inB 6 a = true then (if sI x (2 + a.toNatClampNeg) 1 = 0 then (sI x 0 7 + 1, opD (pI x 0 7 (sI x 0 7 + 1)) a.toNatClampNeg (sI x 0 5) (sI x 0 7 + 1) 0) else (-4, x)) else (-2, x)
def reC (x : Sg) (a : Int32) : Int32 × Sg := if inB 6 a = true then (if sI x (2 + a.toNatClampNeg) 8 = 0 then (-4, x) else (sI x (2 + a.toNatClampNeg) 4 + 1, opD x a.toNatClampNeg (sI x 0 5) (sI x (2 + a.toNatClampNeg) 3) (sI x (2 + a.toNatClampNeg) 4 + 1))) else (-2, x)
def rdC (x : Sg) (a b : Int32) : Int32 × Sg :=
  if inB 6 a = true ∧ inB 8 b = true then
    let d := a.toNatClampNeg
    let i := b.toNatClampNeg
    if sI x (2 + d) 1 = 1 then
      if hasB (sI x (2 + d) 6) b = true then (sA x (2 + d) 11 i, x)
      else if hasB (sI x (2 + d) 5) b = true then (sA x (2 + d) 9 i, x)
      else (sA x 0 1 i, noD x d i (sA x 0 1 i) (sA x 0 2 i))
    else (-4, x)
  else (-2, x)
def bcI (x : Int32) : Int32 :=
  let u (a : Int32) (k : Int32) : Int32 := (a.toUInt32 >>> (Int32.toUInt32 k &&& Int32.toUInt32 31)).toInt32
  let a := x - (u x 1 &&& 1431655765)
  let b := (a &&& 858993459) + (u a 2 &&& 858993459)
  let c := (b + u b 4) &&& 252645135
  let d := c + u c 8
  let e := d + u d 16
  e &&& 63
def laS (x : Sg) (d i : Nat) (v : Int32) : Sg := pA (pI x (2 + d) 6 (sI x (2 + d) 6 ||| bt (nI i))) (2 + d) 11 (upd (sA x (2 + d) 11) i v)
def laC (x : Sg) (a b v : Int32) : Int32 × Sg :=
  if inB 6 a = true ∧ inB 8 b = true then
    if vaB v = true then
      if sI x (2 + a.toNatClampNeg) 1 = 1 then (bcI (sI x (2 + a.toNatClampNeg) 6 ||| bt b), laS x a.toNatClampNeg b.toNatClampNeg v) else (-4, x)
    else (-3, x)
  else (-2, x)
def peC (x : Sg) (a w : Int32) : Int32 := if inB 6 a = true then ftI x a.toNatClampNeg w else -2
def abC (x : Sg) (a : Int32) : Int32 × Sg := if inB 6 a = true then (if sI x (2 + a.toNatClampNeg) 1 = 1 ∨ sI x (2 + a.toNatClampNeg) 1 = 2 then (nI (howM (loS x a.toNatClampNeg (-1)) 1), loS x a.toNatClampNeg (-1)) else (-4, x)) else (-2, x)
def swF (x : Sg) : Nat → Sg × Nat
  | 0 => (x, 0)
  | n + 1 => if sI (swF x n).1 (2 + n) 1 = 1 ∧ ¬ stl (swF x n).1 n = 0 then (loS (swF x n).1 n (-11), (swF x n).2 + 1) else swF x n
def snC (x : Sg) (a : Int32) : Int32 × Sg := if inB 6 a = true then (if sI x (2 + a.toNatClampNeg) 1 = 1 then (sI x 0 8 + 1, seD (pI x 0 8 (sI x 0 8 + 1)) a.toNatClampNeg (sI x 0 8 + 1)) else (-4, x)) else (-2, x)
def voC (x : Sg) (v : Int32) : Int32 × Sg :=
  if inB 2 v = true then
    let d := (fwI x v.toNatClampNeg).toNatClampNeg
    if inB 6 (fwI x v.toNatClampNeg) = true then (bI (opI x v.toNatClampNeg d), pA x (2 + d) 12 (upd (sA x (2 + d) 12) v.toNatClampNeg (bI (opI x v.toNatClampNeg d)))) else (-4, x)
  else (-2, x)
def dlC (x : Sg) (d : Nat) (w : Int32) : Int32 :=
  if w = 0 then sI x (2 + d) 1 else if w = 1 then sI x (2 + d) 2 else if w = 2 then sI x (2 + d) 3 else if w = 3 then sI x (2 + d) 4 else if w = 4 then sI x (2 + d) 5 else if w = 5 then sI x (2 + d) 6 else if w = 6 then (if sI x (2 + d) 8 = 0 then 0 else 1) else if w = 7 then bI (stB x d) else if w = 8 then stl x d else if w = 9 then crs x d else if w = 10 then riv x d else if w = 11 then sI x (2 + d) 7 else -3
def deC (x : Sg) (a w : Int32) : Int32 := if inB 6 a = true then dlC x a.toNatClampNeg w else -2
def ntC (x : Sg) (a b w : Int32) : Int32 :=
  if inB 6 a = true ∧ inB 8 b = true then
    if w = 0 then (if hasB (sI x (2 + a.toNatClampNeg) 5) b = true then sA x (2 + a.toNatClampNeg) 9 b.toNatClampNeg else -1)
    else if w = 1 then (if hasB (sI x (2 + a.toNatClampNeg) 5) b = true then sA x (2 + a.toNatClampNeg) 10 b.toNatClampNeg else -1)
    else if w = 2 then (if hasB (sI x (2 + a.toNatClampNeg) 6) b = true then sA x (2 + a.toNatClampNeg) 11 b.toNatClampNeg else -1)
    else -3
  else -2
def seC (x : Sg) (k : Int32) : Int32 := if saI x k = -1 then -2 else saI x k
def baC (x : Sg) (v a : Int32) : Int32 := if inB 2 v = true ∧ inB 6 a = true then (if sI x (2 + a.toNatClampNeg) 1 = 3 then sA x (2 + a.toNatClampNeg) 12 v.toNatClampNeg else -4) else -2
def lgC (x : Sg) (c : Nat) (k w : Int32) : Int32 :=
  if okE c k = true then
    let o := 8 + (k.toNatClampNeg - 1)
    if w = 0 then sI x o 0 else if w = 1 then sI x o 1 else if w = 2 then sI x o 2 else if w = 3 then sI x o 3 else if w = 4 then sI x o 4 else if w = 5 then sI x o 5 else -3
  else -2
def ldC (x : Sg) (c : Nat) (k b w : Int32) : Int32 :=
  if okE c k = true ∧ inB 8 b = true then
    let o := 8 + (k.toNatClampNeg - 1)
    if w = 0 then (if hasB (sI x o 3) b = true then sA x o 6 b.toNatClampNeg else -1)
    else if w = 1 then (if hasB (sI x o 4) b = true then sA x o 7 b.toNatClampNeg else -1)
    else -3
  else -2
def bhC (x : Sg) (c : Nat) (k j : Int32) : Int32 :=
  if okE c k = true ∧ okE c j = true ∧ j < k then
    let a := 8 + (k.toNatClampNeg - 1)
    let b := 8 + (j.toNatClampNeg - 1)
    let r1 := bI (hnB x (k.toNatClampNeg - 1) j)
    let r2 := if sI x a 4 &&& sI x b 4 = 0 then r1 else r1 ||| 2
    if sI x a 4 &&& sI x b 3 = 0 then r2 else r2 ||| 4
  else -2
def coC (x : Sg) (w : Int32) : Int32 :=
  if w = 0 then sI x 0 5 else if w = 1 then nI (howM x 1) else if w = 2 then nI (howM x 3) else if w = 3 then nI (howM x 2) else if w = 4 then sI x 0 9 else if w = 5 then sI x 0 10 else if w = 6 then sI x 0 11 else if w = 7 then sI x 0 7 else if w = 8 then sI x 0 6 else if w = 9 then sI x 1 1 else if w = 10 then avI x else -3

set_option maxHeartbeats 4000000 in
set_option maxRecDepth 100000 in
theorem kJ6_bitCount_0f7a4 (l : Launch) (G : Cx) (x : Int32) : Si l G yJ6_bitCount_0f7a4 cJ6_bitCount_0f7a4 1 .int (Rm 0 0) [.int x] (fun r => r = bcI x) := by
  refine Si.mk (by decide) (Nat.le_of_ble_eq_true rfl) ?_
  intro p e s m below meth c A ls go hk hl
  have hS : va_S A s.heap s.heap [] := va_S.rf
  have hx := go.1
  have hb := go.2.1
  have hl : lv_has ls 1 [(0, .int x)] := hl
  refine lv_iload_n hx hb dJ6_bitCount_0f7a4_0 rfl (lv_at hl 0 rfl) ?_
  refine lv_iload_n hx hb dJ6_bitCount_0f7a4_1 rfl (lv_at hl 0 rfl) ?_
  refine lv_iconst (v := 1) hx hb dJ6_bitCount_0f7a4_2 (by decide) ?_
  refine lv_iushr hx hb dJ6_bitCount_0f7a4_3 rfl ?_
  refine lv_ldcw (v := 1431655765) hx hb go.2.2.2.2.1 (go.2.2.2.2.2.1 _ q409) dJ6_bitCount_0f7a4_4 ?_
  refine lv_iand hx hb dJ6_bitCount_0f7a4_7 ?_
  refine lv_isub hx hb dJ6_bitCount_0f7a4_8 ?_
  refine lv_topi (fun y1 ey1 => ?_)
  refine lv_istore_n (lv' := [(0, .int y1)]) hx hb dJ6_bitCount_0f7a4_9 rfl hl (by decide) rfl (fun ls hl => ?_)
  refine lv_iload_n hx hb dJ6_bitCount_0f7a4_10 rfl (lv_at hl 0 rfl) ?_
  refine lv_ldcw (v := 858993459) hx hb go.2.2.2.2.1 (go.2.2.2.2.2.1 _ q410) dJ6_bitCount_0f7a4_11 ?_
  refine lv_iand hx hb dJ6_bitCount_0f7a4_14 ?_
  refine lv_iload_n hx hb dJ6_bitCount_0f7a4_15 rfl (lv_at hl 0 rfl) ?_
  refine lv_iconst (v := 2) hx hb dJ6_bitCount_0f7a4_16 (by decide) ?_
  refine lv_iushr hx hb dJ6_bitCount_0f7a4_17 rfl ?_
  refine lv_ldcw (v := 858993459) hx hb go.2.2.2.2.1 (go.2.2.2.2.2.1 _ q410) dJ6_bitCount_0f7a4_18 ?_
  refine lv_iand hx hb dJ6_bitCount_0f7a4_21 ?_
  refine lv_iadd hx hb dJ6_bitCount_0f7a4_22 ?_
  refine lv_topi (fun y2 ey2 => ?_)
  refine lv_istore_n (lv' := [(0, .int y2)]) hx hb dJ6_bitCount_0f7a4_23 rfl hl (by decide) rfl (fun ls hl => ?_)
  refine lv_iload_n hx hb dJ6_bitCount_0f7a4_24 rfl (lv_at hl 0 rfl) ?_
  refine lv_iload_n hx hb dJ6_bitCount_0f7a4_25 rfl (lv_at hl 0 rfl) ?_
  refine lv_iconst (v := 4) hx hb dJ6_bitCount_0f7a4_26 (by decide) ?_
  refine lv_iushr hx hb dJ6_bitCount_0f7a4_27 rfl ?_
  refine lv_iadd hx hb dJ6_bitCount_0f7a4_28 ?_
  refine lv_ldcw (v := 252645135) hx hb go.2.2.2.2.1 (go.2.2.2.2.2.1 _ q411) dJ6_bitCount_0f7a4_29 ?_
  refine lv_iand hx hb dJ6_bitCount_0f7a4_32 ?_
  refine lv_topi (fun y3 ey3 => ?_)
  refine lv_istore_n (lv' := [(0, .int y3)]) hx hb dJ6_bitCount_0f7a4_33 rfl hl (by decide) rfl (fun ls hl => ?_)
  refine lv_iload_n hx hb dJ6_bitCount_0f7a4_34 rfl (lv_at hl 0 rfl) ?_
  refine lv_iload_n hx hb dJ6_bitCount_0f7a4_35 rfl (lv_at hl 0 rfl) ?_
  refine lv_bipush (v := 8) hx hb dJ6_bitCount_0f7a4_36 (by decide) ?_
  refine lv_iushr hx hb dJ6_bitCount_0f7a4_38 rfl ?_
  refine lv_iadd hx hb dJ6_bitCount_0f7a4_39 ?_
  refine lv_topi (fun y4 ey4 => ?_)
  refine lv_istore_n (lv' := [(0, .int y4)]) hx hb dJ6_bitCount_0f7a4_40 rfl hl (by decide) rfl (fun ls hl => ?_)
  refine lv_iload_n hx hb dJ6_bitCount_0f7a4_41 rfl (lv_at hl 0 rfl) ?_
  refine lv_iload_n hx hb dJ6_bitCount_0f7a4_42 rfl (lv_at hl 0 rfl) ?_
  refine lv_bipush (v := 16) hx hb dJ6_bitCount_0f7a4_43 (by decide) ?_
  refine lv_iushr hx hb dJ6_bitCount_0f7a4_45 rfl ?_
  refine lv_iadd hx hb dJ6_bitCount_0f7a4_46 ?_
  refine lv_topi (fun y5 ey5 => ?_)
  refine lv_istore_n (lv' := [(0, .int y5)]) hx hb dJ6_bitCount_0f7a4_47 rfl hl (by decide) rfl (fun ls hl => ?_)
  refine lv_iload_n hx hb dJ6_bitCount_0f7a4_48 rfl (lv_at hl 0 rfl) ?_
  refine lv_bipush (v := 63) hx hb dJ6_bitCount_0f7a4_49 (by decide) ?_
  refine lv_iand hx hb dJ6_bitCount_0f7a4_51 ?_
  refine ret_si go dJ6_bitCount_0f7a4_52 ?_
  subst_vars; rfl

set_option maxHeartbeats 4000000 in
set_option maxRecDepth 100000 in
theorem kX3_doomAll (l : Launch) (G : Cx) (g : Nat → Nat → Nat) (x : Sg) (hN : Nm x) (b : Int32) : Cv l G yX3_doomAll cX3_doomAll 6 (Rm 2 41) (cw G g) [.ref (g 0 0), .int b] x (fun u => u = dmA x b) := by
  refine Cv.mk (by decide) (Nat.le_of_ble_eq_true rfl) ?_
  intro p e s m below meth c A ls go hw hl
  generalize s.heap = H at hw ⊢
  generalize ([] : List Loc) = locs at hw ⊢
  have hx := go.1
  have hb := go.2.1
  have hl : lv_has ls 6 [(0, .ref (g 0 0)), (1, .int b)] := hl
  refine lv_aload_n hx hb dX3_doomAll_0 rfl (lv_at hl 0 rfl) ?_
  refine gX (k := 3) (v := .ref (g 0 4)) rfl (by decide) rfl go hw dX3_doomAll_1 q130 ?_
  refine lv_astore_n (lv' := [(2, .ref (g 0 4)), (0, .ref (g 0 0)), (1, .int b)]) hx hb dX3_doomAll_4 rfl hl (by decide) rfl (fun ls hl => ?_)
  refine lv_aload_n hx hb dX3_doomAll_5 rfl (lv_at hl 0 rfl) ?_
  refine lDl go hw dX3_doomAll_6 ?_
  refine lv_istore_n (lv' := [(3, .int (nI 6)), (2, .ref (g 0 4)), (0, .ref (g 0 0)), (1, .int b)]) hx hb dX3_doomAll_7 rfl hl (by decide) rfl (fun ls hl => ?_)
  refine lv_iconst (v := 0) hx hb dX3_doomAll_8 (by decide) ?_
  refine lv_istore (lv' := [(4, .int 0), (3, .int (nI 6)), (2, .ref (g 0 4)), (0, .ref (g 0 0)), (1, .int b)]) hx hb dX3_doomAll_9 hl (by decide) rfl (fun ls hl => ?_)
  rw [show x = foS (dmS b) x 0 from by rfl] at hw
  have hl0 : lv_has ls 6 [(0, .ref (g 0 0)), (1, .int b), (2, .ref (g 0 4)), (3, .int (nI 6)), (4, .int (nI 0))] := lv_to (lv_sub (l' := [(0, .ref (g 0 0)), (1, .int b), (2, .ref (g 0 4)), (3, .int (nI 6)), (4, .int 0)]) hl [3, 4, 2, 1, 0] rfl) (lr (lr (lr (lr (lc (show (0 : Int32) = nI 0 from rfl) rfl)))))
  refine loop_up (N := 6) (P := fun i H locs ls => Wd G A s H locs (cw G g (foS (dmS b) x i)) ∧ lv_has ls 6 [(0, .ref (g 0 0)), (1, .int b), (2, .ref (g 0 4)), (3, .int (nI 6)), (4, .int (nI i))]) (X := fun H locs ls => W p l e (Rm 2 41) s m ([.ref (g 0 0), .int b] : List Value).toArray below meth c H locs 0 0 (MQ below (va_Qv (fun u => u = dmA x b) (PostW G (cw G g) A) A) ([.ref (g 0 0), .int b] : List Value).toArray s (Rm 2 41).cells (Rm 2 41).slots A) (F0 m 11 ls [])) ?_ 0 (by omega) H locs ls ⟨hw, hl0⟩
  clear hl0 hl hw
  intro i hi ih H locs ls hP
  obtain ⟨hw, hl⟩ := hP
  refine lv_iload hx hb dX3_doomAll_11 (lv_at hl 4 rfl) ?_
  refine lv_iload_n hx hb dX3_doomAll_13 rfl (lv_at hl 3 rfl) ?_
  refine lv_icmp_ge (tgt := 47) hx hb dX3_doomAll_14 (by decide) (fun h14 => ?_) (fun h14 => ?_)
  · skip
    have hE : i = 6 := lp_end h14 rfl rfl hi (by decide)
    subst hE
    refine ret_v (wf := cw G g) go hw dX3_doomAll_47 ?_
    rfl
  · skip
    have hlt : i < 6 := lp_in h14 rfl rfl hi (by decide)
    refine lv_aload_n hx hb dX3_doomAll_17 rfl (lv_at hl 2 rfl) ?_
    refine lv_iload hx hb dX3_doomAll_18 (lv_at hl 4 rfl) ?_
    refine aDl (d := i) (by exact hlt) go hw dX3_doomAll_20 ?_
    refine lv_astore (lv' := [(5, .ref (g (2 + i) 0)), (0, .ref (g 0 0)), (1, .int b), (2, .ref (g 0 4)), (3, .int (nI 6)), (4, .int (nI i))]) hx hb dX3_doomAll_21 hl (by decide) rfl (fun ls hl => ?_)
    refine lv_iload_n hx hb dX3_doomAll_23 rfl (lv_at hl 2 rfl) ?_
    refine lv_aload hx hb dX3_doomAll_24 (lv_at hl 0 rfl) ?_
    refine gDi (d := i) (k := 0) (v := sI (foS (dmS b) x i) (2 + i) 0) hlt (by decide) rfl go hw dX3_doomAll_26 q61 ?_
    refine toI (show sI (foS (dmS b) x i) (2 + i) 0 = nI i from by rw [dm_N]; exact hN i hlt) ?_
    refine cal_S (kX3_has l G b (nI i)) go hw.2.2.1 hw.2.2.2.1 dX3_doomAll_29 (And.intro q393 (And.intro q1 q395)) q394 kyX3_has ⟨rfl, rfl⟩ ⟨Nat.le_of_ble_eq_true rfl, Nat.le_of_ble_eq_true rfl⟩ hl.1 rfl (Nat.le_of_ble_eq_true rfl) ⟨Nat.le_of_ble_eq_true rfl, Nat.le_of_ble_eq_true rfl⟩ ?_
    refine lv_if_eq (tgt := 41) hx hb dX3_doomAll_32 (by decide) (fun h32 => ?_) (fun h32 => ?_)
    · skip
      have h32 := bI_0 h32
      refine lv_iinc (v := nI (i + 1)) (lv' := [(4, .int (nI (i + 1))), (5, .ref (g (2 + i) 0)), (0, .ref (g 0 0)), (1, .int b), (2, .ref (g 0 4)), (3, .int (nI 6))]) hx hb dX3_doomAll_41 hl (k := 5) rfl (nI_1 _) (by decide) rfl (fun ls hl => ?_)
      refine lv_goto (tgt := 11) hx hb dX3_doomAll_44 (by decide) ?_
      have hl9 : lv_has ls 6 [(0, .ref (g 0 0)), (1, .int b), (2, .ref (g 0 4)), (3, .int (nI 6)), (4, .int (nI (i + 1)))] := lv_sub hl [2, 3, 4, 5, 0] rfl
      rw [show foS (dmS b) x i = foS (dmS b) x (i + 1) from by simp [foS, dmS, *]] at hw
      exact ih _ _ _ (by omega) ⟨hw, hl9⟩
    · skip
      have h32 := bI_1 h32
      refine lv_aload hx hb dX3_doomAll_35 (lv_at hl 0 rfl) ?_
      refine lv_iconst (v := 2) hx hb dX3_doomAll_37 (by decide) ?_
      refine pD (d := i) (k := 1) hlt ⟨by decide, by decide⟩ go hw dX3_doomAll_38 q63 (fun H locs hw => ?_)
      refine lv_iinc (v := nI (i + 1)) (lv' := [(4, .int (nI (i + 1))), (5, .ref (g (2 + i) 0)), (0, .ref (g 0 0)), (1, .int b), (2, .ref (g 0 4)), (3, .int (nI 6))]) hx hb dX3_doomAll_41 hl (k := 5) rfl (nI_1 _) (by decide) rfl (fun ls hl => ?_)
      refine lv_goto (tgt := 11) hx hb dX3_doomAll_44 (by decide) ?_
      have hl9 : lv_has ls 6 [(0, .ref (g 0 0)), (1, .int b), (2, .ref (g 0 4)), (3, .int (nI 6)), (4, .int (nI (i + 1)))] := lv_sub hl [2, 3, 4, 5, 0] rfl
      rw [show pI (foS (dmS b) x i) (2 + i) 1 2 = foS (dmS b) x (i + 1) from by simp [foS, dmS, *]] at hw
      exact ih _ _ _ (by omega) ⟨hw, hl9⟩

set_option maxHeartbeats 4000000 in
set_option maxRecDepth 100000 in
theorem kX3_lose (l : Launch) (G : Cx) (g : Nat → Nat → Nat) (x : Sg) (d : Nat) (hd : d < 6) (w : Int32) : Ci l G yX3_lose cX3_lose 3 .int (Rm 1 21) (cw G g) [.ref (g 0 0), .ref (g (2 + d) 0), .int w] x (fun r u => r = w ∧ u = loS x d w) := by
  refine Ci.mk (by decide) (Nat.le_of_ble_eq_true rfl) ?_
  intro p e s m below meth c A ls go hw hl
  generalize s.heap = H at hw ⊢
  generalize ([] : List Loc) = locs at hw ⊢
  have hx := go.1
  have hb := go.2.1
  have hl : lv_has ls 3 [(0, .ref (g 0 0)), (1, .ref (g (2 + d) 0)), (2, .int w)] := hl
  refine lv_aload_n hx hb dX3_lose_0 rfl (lv_at hl 0 rfl) ?_
  refine lv_dup hx hb dX3_lose_1 rfl ?_
  refine gXi (k := 9) (v := sI x 0 9) ⟨by decide, by decide⟩ rfl go hw dX3_lose_2 q136 ?_
  refine lv_iconst (v := 1) hx hb dX3_lose_5 (by decide) ?_
  refine lv_iadd hx hb dX3_lose_6 ?_
  refine pX (k := 9) ⟨by decide, by decide⟩ go hw dX3_lose_7 q136 (fun H locs hw => ?_)
  refine lv_iload_n hx hb dX3_lose_10 rfl (lv_at hl 2 rfl) ?_
  refine lv_bipush (v := (-12)) hx hb dX3_lose_11 (by decide) ?_
  refine lv_icmp_ne (tgt := 26) hx hb dX3_lose_13 (by decide) (fun h13 => ?_) (fun h13 => ?_)
  · skip
    refine lv_iload_n hx hb dX3_lose_26 rfl (lv_at hl 2 rfl) ?_
    refine lv_bipush (v := (-13)) hx hb dX3_lose_27 (by decide) ?_
    refine lv_icmp_ne (tgt := 42) hx hb dX3_lose_29 (by decide) (fun h29 => ?_) (fun h29 => ?_)
    · skip
      refine lv_aload_n hx hb dX3_lose_42 rfl (lv_at hl 1 rfl) ?_
      refine lv_iconst (v := 1) hx hb dX3_lose_43 (by decide) ?_
      refine cal_Vv' (kX0_becomeFree l G g (pI x 0 9 ((sI x 0 9) + 1)) d hd true) go hw dX3_lose_44 (And.intro q123 (And.intro q3 q126)) q124 q125 kyX0_becomeFree ⟨Nat.le_of_ble_eq_true rfl, Nat.le_of_ble_eq_true rfl⟩ (rc_D hd) hl.1 rfl (Nat.le_of_ble_eq_true rfl) ⟨rfl, rfl⟩ ⟨Nat.le_of_ble_eq_true rfl, Nat.le_of_ble_eq_true rfl⟩ (fun H locs hw => ?_)
      refine lv_iload_n hx hb dX3_lose_47 rfl (lv_at hl 2 rfl) ?_
      refine ret_i (wf := cw G g) go hw dX3_lose_48 ?_
      exact ⟨rfl, by simp [loS, *]⟩
    · skip
      refine lv_aload_n hx hb dX3_lose_32 rfl (lv_at hl 0 rfl) ?_
      refine lv_dup hx hb dX3_lose_33 rfl ?_
      refine gXi (k := 11) (v := sI x 0 11) ⟨by decide, by decide⟩ ((sI_ne (by omega)).trans rfl) go hw dX3_lose_34 q138 ?_
      refine lv_iconst (v := 1) hx hb dX3_lose_37 (by decide) ?_
      refine lv_iadd hx hb dX3_lose_38 ?_
      refine pX (k := 11) ⟨by decide, by decide⟩ go hw dX3_lose_39 q138 (fun H locs hw => ?_)
      refine lv_aload_n hx hb dX3_lose_42 rfl (lv_at hl 1 rfl) ?_
      refine lv_iconst (v := 1) hx hb dX3_lose_43 (by decide) ?_
      refine cal_Vv' (kX0_becomeFree l G g (pI (pI x 0 9 ((sI x 0 9) + 1)) 0 11 ((sI x 0 11) + 1)) d hd true) go hw dX3_lose_44 (And.intro q123 (And.intro q3 q126)) q124 q125 kyX0_becomeFree ⟨Nat.le_of_ble_eq_true rfl, Nat.le_of_ble_eq_true rfl⟩ (rc_D hd) hl.1 rfl (Nat.le_of_ble_eq_true rfl) ⟨rfl, rfl⟩ ⟨Nat.le_of_ble_eq_true rfl, Nat.le_of_ble_eq_true rfl⟩ (fun H locs hw => ?_)
      refine lv_iload_n hx hb dX3_lose_47 rfl (lv_at hl 2 rfl) ?_
      refine ret_i (wf := cw G g) go hw dX3_lose_48 ?_
      exact ⟨rfl, by simp [loS, *]⟩
  · skip
    refine lv_aload_n hx hb dX3_lose_16 rfl (lv_at hl 0 rfl) ?_
    refine lv_dup hx hb dX3_lose_17 rfl ?_
    refine gXi (k := 10) (v := sI x 0 10) ⟨by decide, by decide⟩ ((sI_ne (by omega)).trans rfl) go hw dX3_lose_18 q137 ?_
    refine lv_iconst (v := 1) hx hb dX3_lose_21 (by decide) ?_
    refine lv_iadd hx hb dX3_lose_22 ?_
    refine pX (k := 10) ⟨by decide, by decide⟩ go hw dX3_lose_23 q137 (fun H locs hw => ?_)
    refine lv_iload_n hx hb dX3_lose_26 rfl (lv_at hl 2 rfl) ?_
    refine lv_bipush (v := (-13)) hx hb dX3_lose_27 (by decide) ?_
    refine lv_icmp_ne (tgt := 42) hx hb dX3_lose_29 (by decide) (fun _ => ?_) (fun q => absurd (h13.symm.trans q) (by decide))
    refine lv_aload_n hx hb dX3_lose_42 rfl (lv_at hl 1 rfl) ?_
    refine lv_iconst (v := 1) hx hb dX3_lose_43 (by decide) ?_
    refine cal_Vv' (kX0_becomeFree l G g (pI (pI x 0 9 ((sI x 0 9) + 1)) 0 10 ((sI x 0 10) + 1)) d hd true) go hw dX3_lose_44 (And.intro q123 (And.intro q3 q126)) q124 q125 kyX0_becomeFree ⟨Nat.le_of_ble_eq_true rfl, Nat.le_of_ble_eq_true rfl⟩ (rc_D hd) hl.1 rfl (Nat.le_of_ble_eq_true rfl) ⟨rfl, rfl⟩ ⟨Nat.le_of_ble_eq_true rfl, Nat.le_of_ble_eq_true rfl⟩ (fun H locs hw => ?_)
    refine lv_iload_n hx hb dX3_lose_47 rfl (lv_at hl 2 rfl) ?_
    refine ret_i (wf := cw G g) go hw dX3_lose_48 ?_
    exact ⟨rfl, by simp [loS, *]⟩

set_option maxHeartbeats 4000000 in
set_option maxRecDepth 100000 in
theorem kX3_change (l : Launch) (G : Cx) (g : Nat → Nat → Nat) (x : Sg) (i : Nat) (hi : i < 8) (v : Int32) : Cv l G yX3_change cX3_change 3 (Rm 0 0) (cw G g) [.ref (g 0 0), .int (nI i), .int v] x (fun u => u = chS x i v) := by
  refine Cv.mk (by decide) (Nat.le_of_ble_eq_true rfl) ?_
  intro p e s m below meth c A ls go hw hl
  generalize s.heap = H at hw ⊢
  generalize ([] : List Loc) = locs at hw ⊢
  have hx := go.1
  have hb := go.2.1
  have hl : lv_has ls 3 [(0, .ref (g 0 0)), (1, .int (nI i)), (2, .int v)] := hl
  refine lv_aload_n hx hb dX3_change_0 rfl (lv_at hl 0 rfl) ?_
  refine gX (k := 1) (v := .ref (g 0 2)) rfl (by decide) rfl go hw dX3_change_1 q128 ?_
  refine lv_iload_n hx hb dX3_change_4 rfl (lv_at hl 1 rfl) ?_
  refine lv_iload_n hx hb dX3_change_5 rfl (lv_at hl 2 rfl) ?_
  refine sX (k := 1) (j := i) (by decide) (by exact hi) go hw dX3_change_6 (fun H locs hw => ?_)
  refine lv_aload_n hx hb dX3_change_7 rfl (lv_at hl 0 rfl) ?_
  refine gX (k := 2) (v := .ref (g 0 3)) rfl (by decide) rfl go hw dX3_change_8 q129 ?_
  refine lv_iload_n hx hb dX3_change_11 rfl (lv_at hl 1 rfl) ?_
  refine lv_aload_n hx hb dX3_change_12 rfl (lv_at hl 0 rfl) ?_
  refine gXi (k := 5) (v := sI x 0 5) ⟨by decide, by decide⟩ ((sI_pA _ _ _ _ _ _).trans rfl) go hw dX3_change_13 q132 ?_
  refine sX (k := 2) (j := i) (by decide) (by exact hi) go hw dX3_change_16 (fun H locs hw => ?_)
  rw [show sA (pA x 0 1 (upd (sA x 0 1) i v)) 0 2 = sA x 0 2 from ((sA_ne (by omega)).trans rfl)] at hw
  refine ret_v (wf := cw G g) go hw dX3_change_17 ?_
  rfl

set_option maxHeartbeats 4000000 in
set_option maxRecDepth 100000 in
theorem kX3_sentBefore (l : Launch) (G : Cx) (g : Nat → Nat → Nat) (x : Sg) (d : Nat) (hd : d < 6) : Ci l G yX3_sentBefore cX3_sentBefore 7 .int (Rm 0 0) (cw G g) [.ref (g 0 0), .ref (g (2 + d) 0)] x (fun r u => r = nI (sbN x d) ∧ u = x) := by
  refine Ci.mk (by decide) (Nat.le_of_ble_eq_true rfl) ?_
  intro p e s m below meth c A ls go hw hl
  generalize s.heap = H at hw ⊢
  generalize ([] : List Loc) = locs at hw ⊢
  have hx := go.1
  have hb := go.2.1
  have hl : lv_has ls 7 [(0, .ref (g 0 0)), (1, .ref (g (2 + d) 0))] := hl
  refine lv_iconst (v := 0) hx hb dX3_sentBefore_0 (by decide) ?_
  refine lv_istore_n (lv' := [(2, .int 0), (0, .ref (g 0 0)), (1, .ref (g (2 + d) 0))]) hx hb dX3_sentBefore_1 rfl hl (by decide) rfl (fun ls hl => ?_)
  refine lv_aload_n hx hb dX3_sentBefore_2 rfl (lv_at hl 1 rfl) ?_
  refine gX (k := 3) (v := .ref (g 0 4)) rfl (by decide) rfl go hw dX3_sentBefore_3 q130 ?_
  refine lv_astore_n (lv' := [(3, .ref (g 0 4)), (2, .int 0), (0, .ref (g 0 0)), (1, .ref (g (2 + d) 0))]) hx hb dX3_sentBefore_6 rfl hl (by decide) rfl (fun ls hl => ?_)
  refine lv_aload_n hx hb dX3_sentBefore_7 rfl (lv_at hl 0 rfl) ?_
  refine lDl go hw dX3_sentBefore_8 ?_
  refine lv_istore (lv' := [(4, .int (nI 6)), (3, .ref (g 0 4)), (2, .int 0), (0, .ref (g 0 0)), (1, .ref (g (2 + d) 0))]) hx hb dX3_sentBefore_9 hl (by decide) rfl (fun ls hl => ?_)
  refine lv_iconst (v := 0) hx hb dX3_sentBefore_11 (by decide) ?_
  refine lv_istore (lv' := [(5, .int 0), (4, .int (nI 6)), (3, .ref (g 0 4)), (2, .int 0), (0, .ref (g 0 0)), (1, .ref (g (2 + d) 0))]) hx hb dX3_sentBefore_12 hl (by decide) rfl (fun ls hl => ?_)
  have hl0 : lv_has ls 7 [(0, .ref (g 0 0)), (1, .ref (g (2 + d) 0)), (2, .int (nI (cntB (fun e => decide (sI x (2 + e) 1 = 3) && !decide (sI x (2 + d) 7 ≤ sI x (2 + e) 7)) 0))), (3, .ref (g 0 4)), (4, .int (nI 6)), (5, .int (nI 0))] := lv_to (lv_sub (l' := [(0, .ref (g 0 0)), (1, .ref (g (2 + d) 0)), (2, .int 0), (3, .ref (g 0 4)), (4, .int (nI 6)), (5, .int 0)]) hl [4, 5, 3, 2, 1, 0] rfl) (lr (lr (lc (show (0 : Int32) = nI (cntB (fun e => decide (sI x (2 + e) 1 = 3) && !decide (sI x (2 + d) 7 ≤ sI x (2 + e) 7)) 0) from rfl) (lr (lr (lc (show (0 : Int32) = nI 0 from rfl) rfl))))))
  refine loop_up (N := 6) (P := fun i H locs ls => Wd G A s H locs (cw G g x) ∧ lv_has ls 7 [(0, .ref (g 0 0)), (1, .ref (g (2 + d) 0)), (2, .int (nI (cntB (fun e => decide (sI x (2 + e) 1 = 3) && !decide (sI x (2 + d) 7 ≤ sI x (2 + e) 7)) i))), (3, .ref (g 0 4)), (4, .int (nI 6)), (5, .int (nI i))]) (X := fun H locs ls => W p l e (Rm 0 0) s m ([.ref (g 0 0), .ref (g (2 + d) 0)] : List Value).toArray below meth c H locs 0 0 (MQ below (va_Qi (fun r u => r = nI (sbN x d) ∧ u = x) (PostW G (cw G g) A) A) ([.ref (g 0 0), .ref (g (2 + d) 0)] : List Value).toArray s (Rm 0 0).cells (Rm 0 0).slots A) (F0 m 14 ls [])) ?_ 0 (by omega) H locs ls ⟨hw, hl0⟩
  clear hl0 hl hw
  intro i hi ih H locs ls hP
  obtain ⟨hw, hl⟩ := hP
  refine lv_iload hx hb dX3_sentBefore_14 (lv_at hl 5 rfl) ?_
  refine lv_iload hx hb dX3_sentBefore_16 (lv_at hl 4 rfl) ?_
  refine lv_icmp_ge (tgt := 57) hx hb dX3_sentBefore_18 (by decide) (fun h18 => ?_) (fun h18 => ?_)
  · skip
    have hE : i = 6 := lp_end h18 rfl rfl hi (by decide)
    subst hE
    refine lv_iload_n hx hb dX3_sentBefore_57 rfl (lv_at hl 2 rfl) ?_
    refine ret_i (wf := cw G g) go hw dX3_sentBefore_58 ?_
    exact ⟨rfl, rfl⟩
  · skip
    have hlt : i < 6 := lp_in h18 rfl rfl hi (by decide)
    refine lv_aload_n hx hb dX3_sentBefore_21 rfl (lv_at hl 3 rfl) ?_
    refine lv_iload hx hb dX3_sentBefore_22 (lv_at hl 5 rfl) ?_
    refine aDl (d := i) (by exact hlt) go hw dX3_sentBefore_24 ?_
    refine lv_astore (lv' := [(6, .ref (g (2 + i) 0)), (0, .ref (g 0 0)), (1, .ref (g (2 + d) 0)), (2, .int (nI (cntB (fun e => decide (sI x (2 + e) 1 = 3) && !decide (sI x (2 + d) 7 ≤ sI x (2 + e) 7)) i))), (3, .ref (g 0 4)), (4, .int (nI 6)), (5, .int (nI i))]) hx hb dX3_sentBefore_25 hl (by decide) rfl (fun ls hl => ?_)
    refine lv_aload hx hb dX3_sentBefore_27 (lv_at hl 0 rfl) ?_
    refine gDi (d := i) (k := 1) (v := sI x (2 + i) 1) hlt (by decide) rfl go hw dX3_sentBefore_29 q63 ?_
    refine lv_iconst (v := 3) hx hb dX3_sentBefore_32 (by decide) ?_
    refine lv_icmp_ne (tgt := 51) hx hb dX3_sentBefore_33 (by decide) (fun h33 => ?_) (fun h33 => ?_)
    · skip
      refine lv_iinc (v := nI (i + 1)) (lv' := [(5, .int (nI (i + 1))), (6, .ref (g (2 + i) 0)), (0, .ref (g 0 0)), (1, .ref (g (2 + d) 0)), (2, .int (nI (cntB (fun e => decide (sI x (2 + e) 1 = 3) && !decide (sI x (2 + d) 7 ≤ sI x (2 + e) 7)) i))), (3, .ref (g 0 4)), (4, .int (nI 6))]) hx hb dX3_sentBefore_51 hl (k := 6) rfl (nI_1 _) (by decide) rfl (fun ls hl => ?_)
      refine lv_goto (tgt := 14) hx hb dX3_sentBefore_54 (by decide) ?_
      have hl9 : lv_has ls 7 [(0, .ref (g 0 0)), (1, .ref (g (2 + d) 0)), (2, .int (nI (cntB (fun e => decide (sI x (2 + e) 1 = 3) && !decide (sI x (2 + d) 7 ≤ sI x (2 + e) 7)) (i + 1)))), (3, .ref (g 0 4)), (4, .int (nI 6)), (5, .int (nI (i + 1)))] := lv_to (lv_sub (l' := [(0, .ref (g 0 0)), (1, .ref (g (2 + d) 0)), (2, .int (nI (cntB (fun e => decide (sI x (2 + e) 1 = 3) && !decide (sI x (2 + d) 7 ≤ sI x (2 + e) 7)) i))), (3, .ref (g 0 4)), (4, .int (nI 6)), (5, .int (nI (i + 1)))]) hl [2, 3, 4, 5, 6, 0] rfl) (lr (lr (lc (show (nI (cntB (fun e => decide (sI x (2 + e) 1 = 3) && !decide (sI x (2 + d) 7 ≤ sI x (2 + e) 7)) i) : Int32) = nI (cntB (fun e => decide (sI x (2 + e) 1 = 3) && !decide (sI x (2 + d) 7 ≤ sI x (2 + e) 7)) (i + 1)) from by first | exact cntB_t (by simp [*]) | exact cntB_f (by simp [*])) (lr (lr (lr rfl))))))
      exact ih _ _ _ (by omega) ⟨hw, hl9⟩
    · skip
      refine lv_aload hx hb dX3_sentBefore_36 (lv_at hl 0 rfl) ?_
      refine gDi (d := i) (k := 7) (v := sI x (2 + i) 7) hlt (by decide) rfl go hw dX3_sentBefore_38 q79 ?_
      refine lv_aload_n hx hb dX3_sentBefore_41 rfl (lv_at hl 2 rfl) ?_
      refine gDi (d := d) (k := 7) (v := sI x (2 + d) 7) hd (by decide) rfl go hw dX3_sentBefore_42 q79 ?_
      refine lv_icmp_ge (tgt := 51) hx hb dX3_sentBefore_45 (by decide) (fun h45 => ?_) (fun h45 => ?_)
      · skip
        refine lv_iinc (v := nI (i + 1)) (lv' := [(5, .int (nI (i + 1))), (6, .ref (g (2 + i) 0)), (0, .ref (g 0 0)), (1, .ref (g (2 + d) 0)), (2, .int (nI (cntB (fun e => decide (sI x (2 + e) 1 = 3) && !decide (sI x (2 + d) 7 ≤ sI x (2 + e) 7)) i))), (3, .ref (g 0 4)), (4, .int (nI 6))]) hx hb dX3_sentBefore_51 hl (k := 6) rfl (nI_1 _) (by decide) rfl (fun ls hl => ?_)
        refine lv_goto (tgt := 14) hx hb dX3_sentBefore_54 (by decide) ?_
        have hl9 : lv_has ls 7 [(0, .ref (g 0 0)), (1, .ref (g (2 + d) 0)), (2, .int (nI (cntB (fun e => decide (sI x (2 + e) 1 = 3) && !decide (sI x (2 + d) 7 ≤ sI x (2 + e) 7)) (i + 1)))), (3, .ref (g 0 4)), (4, .int (nI 6)), (5, .int (nI (i + 1)))] := lv_to (lv_sub (l' := [(0, .ref (g 0 0)), (1, .ref (g (2 + d) 0)), (2, .int (nI (cntB (fun e => decide (sI x (2 + e) 1 = 3) && !decide (sI x (2 + d) 7 ≤ sI x (2 + e) 7)) i))), (3, .ref (g 0 4)), (4, .int (nI 6)), (5, .int (nI (i + 1)))]) hl [2, 3, 4, 5, 6, 0] rfl) (lr (lr (lc (show (nI (cntB (fun e => decide (sI x (2 + e) 1 = 3) && !decide (sI x (2 + d) 7 ≤ sI x (2 + e) 7)) i) : Int32) = nI (cntB (fun e => decide (sI x (2 + e) 1 = 3) && !decide (sI x (2 + d) 7 ≤ sI x (2 + e) 7)) (i + 1)) from by first | exact cntB_t (by simp [*]) | exact cntB_f (by simp [*])) (lr (lr (lr rfl))))))
        exact ih _ _ _ (by omega) ⟨hw, hl9⟩
      · skip
        refine lv_iinc (v := nI (cntB (fun e => decide (sI x (2 + e) 1 = 3) && !decide (sI x (2 + d) 7 ≤ sI x (2 + e) 7)) i) + 1) (lv' := [(2, .int (nI (cntB (fun e => decide (sI x (2 + e) 1 = 3) && !decide (sI x (2 + d) 7 ≤ sI x (2 + e) 7)) i) + 1)), (6, .ref (g (2 + i) 0)), (0, .ref (g 0 0)), (1, .ref (g (2 + d) 0)), (3, .ref (g 0 4)), (4, .int (nI 6)), (5, .int (nI i))]) hx hb dX3_sentBefore_48 hl (k := 3) rfl rfl (by decide) rfl (fun ls hl => ?_)
        refine lv_iinc (v := nI (i + 1)) (lv' := [(5, .int (nI (i + 1))), (2, .int (nI (cntB (fun e => decide (sI x (2 + e) 1 = 3) && !decide (sI x (2 + d) 7 ≤ sI x (2 + e) 7)) i) + 1)), (6, .ref (g (2 + i) 0)), (0, .ref (g 0 0)), (1, .ref (g (2 + d) 0)), (3, .ref (g 0 4)), (4, .int (nI 6))]) hx hb dX3_sentBefore_51 hl (k := 6) rfl (nI_1 _) (by decide) rfl (fun ls hl => ?_)
        refine lv_goto (tgt := 14) hx hb dX3_sentBefore_54 (by decide) ?_
        have hl9 : lv_has ls 7 [(0, .ref (g 0 0)), (1, .ref (g (2 + d) 0)), (2, .int (nI (cntB (fun e => decide (sI x (2 + e) 1 = 3) && !decide (sI x (2 + d) 7 ≤ sI x (2 + e) 7)) (i + 1)))), (3, .ref (g 0 4)), (4, .int (nI 6)), (5, .int (nI (i + 1)))] := lv_to (lv_sub (l' := [(0, .ref (g 0 0)), (1, .ref (g (2 + d) 0)), (2, .int (nI (cntB (fun e => decide (sI x (2 + e) 1 = 3) && !decide (sI x (2 + d) 7 ≤ sI x (2 + e) 7)) i) + 1)), (3, .ref (g 0 4)), (4, .int (nI 6)), (5, .int (nI (i + 1)))]) hl [3, 4, 1, 5, 6, 0] rfl) (lr (lr (lc (show (nI (cntB (fun e => decide (sI x (2 + e) 1 = 3) && !decide (sI x (2 + d) 7 ≤ sI x (2 + e) 7)) i) + 1 : Int32) = nI (cntB (fun e => decide (sI x (2 + e) 1 = 3) && !decide (sI x (2 + d) 7 ≤ sI x (2 + e) 7)) (i + 1)) from by first | exact cntB_t (by simp [*]) | exact cntB_f (by simp [*])) (lr (lr (lr rfl))))))
        exact ih _ _ _ (by omega) ⟨hw, hl9⟩

set_option maxHeartbeats 4000000 in
set_option maxRecDepth 100000 in
theorem kX3_sentAt (l : Launch) (G : Cx) (g : Nat → Nat → Nat) (x : Sg) (hN : Nm x) (k : Int32) : Ci l G yX3_sentAt cX3_sentAt 6 .int (Rm 1 26) (cw G g) [.ref (g 0 0), .int k] x (fun r u => r = saI x k ∧ u = x) := by
  refine Ci.mk (by decide) (Nat.le_of_ble_eq_true rfl) ?_
  intro p e s m below meth c A ls go hw hl
  generalize s.heap = H at hw ⊢
  generalize ([] : List Loc) = locs at hw ⊢
  have hx := go.1
  have hb := go.2.1
  have hl : lv_has ls 6 [(0, .ref (g 0 0)), (1, .int k)] := hl
  refine lv_aload_n hx hb dX3_sentAt_0 rfl (lv_at hl 0 rfl) ?_
  refine gX (k := 3) (v := .ref (g 0 4)) rfl (by decide) rfl go hw dX3_sentAt_1 q130 ?_
  refine lv_astore_n (lv' := [(2, .ref (g 0 4)), (0, .ref (g 0 0)), (1, .int k)]) hx hb dX3_sentAt_4 rfl hl (by decide) rfl (fun ls hl => ?_)
  refine lv_aload_n hx hb dX3_sentAt_5 rfl (lv_at hl 0 rfl) ?_
  refine lDl go hw dX3_sentAt_6 ?_
  refine lv_istore_n (lv' := [(3, .int (nI 6)), (2, .ref (g 0 4)), (0, .ref (g 0 0)), (1, .int k)]) hx hb dX3_sentAt_7 rfl hl (by decide) rfl (fun ls hl => ?_)
  refine lv_iconst (v := 0) hx hb dX3_sentAt_8 (by decide) ?_
  refine lv_istore (lv' := [(4, .int 0), (3, .int (nI 6)), (2, .ref (g 0 4)), (0, .ref (g 0 0)), (1, .int k)]) hx hb dX3_sentAt_9 hl (by decide) rfl (fun ls hl => ?_)
  have hl0 : lv_has ls 6 [(0, .ref (g 0 0)), (1, .int k), (2, .ref (g 0 4)), (3, .int (nI 6)), (4, .int (nI 0))] := lv_to (lv_sub (l' := [(0, .ref (g 0 0)), (1, .int k), (2, .ref (g 0 4)), (3, .int (nI 6)), (4, .int 0)]) hl [3, 4, 2, 1, 0] rfl) (lr (lr (lr (lr (lc (show (0 : Int32) = nI 0 from rfl) rfl)))))
  refine loop_up (N := 6) (P := fun i H locs ls => Wd G A s H locs (cw G g x) ∧ lv_has ls 6 [(0, .ref (g 0 0)), (1, .int k), (2, .ref (g 0 4)), (3, .int (nI 6)), (4, .int (nI i))] ∧ (∀ j, j < i → (fun d => decide (sI x (2 + d) 1 = 3) && decide (nI (sbN x d) = k)) j = false)) (X := fun H locs ls => W p l e (Rm 1 26) s m ([.ref (g 0 0), .int k] : List Value).toArray below meth c H locs 0 0 (MQ below (va_Qi (fun r u => r = saI x k ∧ u = x) (PostW G (cw G g) A) A) ([.ref (g 0 0), .int k] : List Value).toArray s (Rm 1 26).cells (Rm 1 26).slots A) (F0 m 11 ls [])) ?_ 0 (by omega) H locs ls ⟨hw, hl0, (fun j hj => absurd hj (by omega))⟩
  clear hl0 hl hw
  intro i hi ih H locs ls hP
  obtain ⟨hw, hl, hE0⟩ := hP
  refine lv_iload hx hb dX3_sentAt_11 (lv_at hl 4 rfl) ?_
  refine lv_iload_n hx hb dX3_sentAt_13 rfl (lv_at hl 3 rfl) ?_
  refine lv_icmp_ge (tgt := 54) hx hb dX3_sentAt_14 (by decide) (fun h14 => ?_) (fun h14 => ?_)
  · skip
    have hE : i = 6 := lp_end h14 rfl rfl hi (by decide)
    subst hE
    refine lv_iconst (v := (-1)) hx hb dX3_sentAt_54 (by decide) ?_
    refine ret_i (wf := cw G g) go hw dX3_sentAt_55 ?_
    exact ⟨(fstI_no hE0).symm, rfl⟩
  · skip
    have hlt : i < 6 := lp_in h14 rfl rfl hi (by decide)
    refine lv_aload_n hx hb dX3_sentAt_17 rfl (lv_at hl 2 rfl) ?_
    refine lv_iload hx hb dX3_sentAt_18 (lv_at hl 4 rfl) ?_
    refine aDl (d := i) (by exact hlt) go hw dX3_sentAt_20 ?_
    refine lv_astore (lv' := [(5, .ref (g (2 + i) 0)), (0, .ref (g 0 0)), (1, .int k), (2, .ref (g 0 4)), (3, .int (nI 6)), (4, .int (nI i))]) hx hb dX3_sentAt_21 hl (by decide) rfl (fun ls hl => ?_)
    refine lv_aload hx hb dX3_sentAt_23 (lv_at hl 0 rfl) ?_
    refine gDi (d := i) (k := 1) (v := sI x (2 + i) 1) hlt (by decide) rfl go hw dX3_sentAt_25 q63 ?_
    refine lv_iconst (v := 3) hx hb dX3_sentAt_28 (by decide) ?_
    refine lv_icmp_ne (tgt := 48) hx hb dX3_sentAt_29 (by decide) (fun h29 => ?_) (fun h29 => ?_)
    · skip
      refine lv_iinc (v := nI (i + 1)) (lv' := [(4, .int (nI (i + 1))), (5, .ref (g (2 + i) 0)), (0, .ref (g 0 0)), (1, .int k), (2, .ref (g 0 4)), (3, .int (nI 6))]) hx hb dX3_sentAt_48 hl (k := 5) rfl (nI_1 _) (by decide) rfl (fun ls hl => ?_)
      refine lv_goto (tgt := 11) hx hb dX3_sentAt_51 (by decide) ?_
      have hl9 : lv_has ls 6 [(0, .ref (g 0 0)), (1, .int k), (2, .ref (g 0 4)), (3, .int (nI 6)), (4, .int (nI (i + 1)))] := lv_sub hl [2, 3, 4, 5, 0] rfl
      exact ih _ _ _ (by omega) ⟨hw, hl9, (lt_s hE0 (by simp [*]))⟩
    · skip
      refine lv_aload_n hx hb dX3_sentAt_32 rfl (lv_at hl 1 rfl) ?_
      refine lv_aload hx hb dX3_sentAt_33 (lv_at hl 0 rfl) ?_
      refine cal_Vi' (kX3_sentBefore l G g x i hlt) go hw dX3_sentAt_35 (And.intro q512 (And.intro q1 q515)) q514 qs17 kyX3_sentBefore ⟨Nat.le_of_ble_eq_true rfl, Nat.le_of_ble_eq_true rfl⟩ rc_X hl.1 rfl (Nat.le_of_ble_eq_true rfl) ⟨rfl, rfl⟩ ⟨Nat.le_of_ble_eq_true rfl, Nat.le_of_ble_eq_true rfl⟩ (fun H locs hw => ?_)
      refine lv_iload_n hx hb dX3_sentAt_38 rfl (lv_at hl 2 rfl) ?_
      refine lv_icmp_ne (tgt := 48) hx hb dX3_sentAt_39 (by decide) (fun h39 => ?_) (fun h39 => ?_)
      · skip
        refine lv_iinc (v := nI (i + 1)) (lv' := [(4, .int (nI (i + 1))), (5, .ref (g (2 + i) 0)), (0, .ref (g 0 0)), (1, .int k), (2, .ref (g 0 4)), (3, .int (nI 6))]) hx hb dX3_sentAt_48 hl (k := 5) rfl (nI_1 _) (by decide) rfl (fun ls hl => ?_)
        refine lv_goto (tgt := 11) hx hb dX3_sentAt_51 (by decide) ?_
        have hl9 : lv_has ls 6 [(0, .ref (g 0 0)), (1, .int k), (2, .ref (g 0 4)), (3, .int (nI 6)), (4, .int (nI (i + 1)))] := lv_sub hl [2, 3, 4, 5, 0] rfl
        exact ih _ _ _ (by omega) ⟨hw, hl9, (lt_s hE0 (by simp [*]))⟩
      · skip
        refine lv_aload hx hb dX3_sentAt_42 (lv_at hl 0 rfl) ?_
        refine gDi (d := i) (k := 0) (v := sI x (2 + i) 0) hlt (by decide) rfl go hw dX3_sentAt_44 q61 ?_
        refine toI (show sI x (2 + i) 0 = nI i from by exact hN i hlt) ?_
        refine ret_i (wf := cw G g) go hw dX3_sentAt_47 ?_
        exact ⟨(fstI_at (p := (fun d => decide (sI x (2 + d) 1 = 3) && decide (nI (sbN x d) = k))) (i := i) (by simp [*]) hE0 hlt).symm, rfl⟩

set_option maxHeartbeats 4000000 in
set_option maxRecDepth 100000 in
theorem kX3_firstWithoutVote (l : Launch) (G : Cx) (g : Nat → Nat → Nat) (x : Sg) (hN : Nm x) (v : Nat) (hv : v < 2) : Ci l G yX3_firstWithoutVote cX3_firstWithoutVote 4 .int (Rm 2 51) (cw G g) [.ref (g 0 0), .int (nI v)] x (fun r u => r = fwI x v ∧ u = x) := by
  refine Ci.mk (by decide) (Nat.le_of_ble_eq_true rfl) ?_
  intro p e s m below meth c A ls go hw hl
  generalize s.heap = H at hw ⊢
  generalize ([] : List Loc) = locs at hw ⊢
  have hx := go.1
  have hb := go.2.1
  have hl : lv_has ls 4 [(0, .ref (g 0 0)), (1, .int (nI v))] := hl
  refine lv_iconst (v := 0) hx hb dX3_firstWithoutVote_0 (by decide) ?_
  refine lv_istore_n (lv' := [(2, .int 0), (0, .ref (g 0 0)), (1, .int (nI v))]) hx hb dX3_firstWithoutVote_1 rfl hl (by decide) rfl (fun ls hl => ?_)
  have hl0 : lv_has ls 4 [(0, .ref (g 0 0)), (1, .int (nI v)), (2, .int (nI 0))] := lv_to (lv_sub (l' := [(0, .ref (g 0 0)), (1, .int (nI v)), (2, .int 0)]) hl [1, 2, 0] rfl) (lr (lr (lc (show (0 : Int32) = nI 0 from rfl) rfl)))
  refine loop_up (N := 6) (P := fun i H locs ls => Wd G A s H locs (cw G g x) ∧ lv_has ls 4 [(0, .ref (g 0 0)), (1, .int (nI v)), (2, .int (nI i))] ∧ (∀ j, j < i → fwP x v j = false)) (X := fun H locs ls => W p l e (Rm 2 51) s m ([.ref (g 0 0), .int (nI v)] : List Value).toArray below meth c H locs 0 0 (MQ below (va_Qi (fun r u => r = fwI x v ∧ u = x) (PostW G (cw G g) A) A) ([.ref (g 0 0), .int (nI v)] : List Value).toArray s (Rm 2 51).cells (Rm 2 51).slots A) (F0 m 2 ls [])) ?_ 0 (by omega) H locs ls ⟨hw, hl0, (fun j hj => absurd hj (by omega))⟩
  clear hl0 hl hw
  intro i hi ih H locs ls hP
  obtain ⟨hw, hl, hE0⟩ := hP
  refine lv_iload_n hx hb dX3_firstWithoutVote_2 rfl (lv_at hl 2 rfl) ?_
  refine lv_bipush (v := 6) hx hb dX3_firstWithoutVote_3 (by decide) ?_
  refine lv_icmp_ge (tgt := 44) hx hb dX3_firstWithoutVote_5 (by decide) (fun h5 => ?_) (fun h5 => ?_)
  · skip
    have hE : i = 6 := lp_end h5 rfl rfl hi (by decide)
    subst hE
    refine lv_iconst (v := (-1)) hx hb dX3_firstWithoutVote_44 (by decide) ?_
    refine ret_i (wf := cw G g) go hw dX3_firstWithoutVote_45 ?_
    exact ⟨(fwI_no hE0).symm, rfl⟩
  · skip
    have hlt : i < 6 := lp_in h5 rfl rfl hi (by decide)
    refine lv_aload_n hx hb dX3_firstWithoutVote_8 rfl (lv_at hl 0 rfl) ?_
    refine lv_iload_n hx hb dX3_firstWithoutVote_9 rfl (lv_at hl 2 rfl) ?_
    refine cal_Vi' (kX3_sentAt l G g x hN (nI i)) go hw dX3_firstWithoutVote_10 (And.intro q508 (And.intro q1 q511)) q510 qs16 kyX3_sentAt ⟨Nat.le_of_ble_eq_true rfl, Nat.le_of_ble_eq_true rfl⟩ rc_X hl.1 rfl (Nat.le_of_ble_eq_true rfl) ⟨rfl, rfl⟩ ⟨Nat.le_of_ble_eq_true rfl, Nat.le_of_ble_eq_true rfl⟩ (fun H locs hw => ?_)
    refine lv_istore_n (lv' := [(3, .int (saI x (nI i))), (0, .ref (g 0 0)), (1, .int (nI v)), (2, .int (nI i))]) hx hb dX3_firstWithoutVote_13 rfl hl (by decide) rfl (fun ls hl => ?_)
    refine lv_iload_n hx hb dX3_firstWithoutVote_14 rfl (lv_at hl 0 rfl) ?_
    refine cal_S (kX3_isDeal l G (saI x (nI i))) go hw.2.2.1 hw.2.2.2.1 dX3_firstWithoutVote_15 (And.intro q382 (And.intro q1 q384)) q383 kyX3_isDeal ⟨rfl, rfl⟩ ⟨Nat.le_of_ble_eq_true rfl, Nat.le_of_ble_eq_true rfl⟩ hl.1 rfl (Nat.le_of_ble_eq_true rfl) ⟨Nat.le_of_ble_eq_true rfl, Nat.le_of_ble_eq_true rfl⟩ ?_
    refine lv_if_eq (tgt := 38) hx hb dX3_firstWithoutVote_18 (by decide) (fun h18 => ?_) (fun h18 => ?_)
    · skip
      have h18 := bI_0 h18
      refine lv_iinc (v := nI (i + 1)) (lv' := [(2, .int (nI (i + 1))), (3, .int (saI x (nI i))), (0, .ref (g 0 0)), (1, .int (nI v))]) hx hb dX3_firstWithoutVote_38 hl (k := 3) rfl (nI_1 _) (by decide) rfl (fun ls hl => ?_)
      refine lv_goto (tgt := 2) hx hb dX3_firstWithoutVote_41 (by decide) ?_
      have hl9 : lv_has ls 4 [(0, .ref (g 0 0)), (1, .int (nI v)), (2, .int (nI (i + 1)))] := lv_sub hl [2, 3, 0] rfl
      exact ih _ _ _ (by omega) ⟨hw, hl9, (lt_s hE0 (by simp [fwP, *]))⟩
    · skip
      have h18 := bI_1 h18
      refine lv_aload_n hx hb dX3_firstWithoutVote_21 rfl (lv_at hl 1 rfl) ?_
      refine gX (k := 3) (v := .ref (g 0 4)) rfl (by decide) rfl go hw dX3_firstWithoutVote_22 q130 ?_
      refine lv_iload_n hx hb dX3_firstWithoutVote_25 rfl (lv_at hl 0 rfl) ?_
      refine toI (show (saI x (nI i) : Int32) = nI ((saI x (nI i)).toNatClampNeg) from by exact (inB_cl (n := 6) h18 rfl (by decide)).1) ?_
      refine aDl (d := (saI x (nI i)).toNatClampNeg) (by exact (inB_cl (n := 6) h18 rfl (by decide)).2) go hw dX3_firstWithoutVote_26 ?_
      refine gD (d := (saI x (nI i)).toNatClampNeg) (k := 12) (v := .ref (g (2 + ((saI x (nI i)).toNatClampNeg)) 13)) (inB_cl (n := 6) h18 rfl (by decide)).2 rfl (by decide) rfl go hw dX3_firstWithoutVote_27 q91 ?_
      refine lv_iload_n hx hb dX3_firstWithoutVote_30 rfl (lv_at hl 2 rfl) ?_
      refine aD (d := (saI x (nI i)).toNatClampNeg) (k := 12) (j := v) (inB_cl (n := 6) h18 rfl (by decide)).2 (by decide) (by exact hv) go hw dX3_firstWithoutVote_31 ?_
      refine lv_iconst (v := (-1)) hx hb dX3_firstWithoutVote_32 (by decide) ?_
      refine lv_icmp_ne (tgt := 38) hx hb dX3_firstWithoutVote_33 (by decide) (fun h33 => ?_) (fun h33 => ?_)
      · skip
        refine lv_iinc (v := nI (i + 1)) (lv' := [(2, .int (nI (i + 1))), (3, .int (saI x (nI i))), (0, .ref (g 0 0)), (1, .int (nI v))]) hx hb dX3_firstWithoutVote_38 hl (k := 3) rfl (nI_1 _) (by decide) rfl (fun ls hl => ?_)
        refine lv_goto (tgt := 2) hx hb dX3_firstWithoutVote_41 (by decide) ?_
        have hl9 : lv_has ls 4 [(0, .ref (g 0 0)), (1, .int (nI v)), (2, .int (nI (i + 1)))] := lv_sub hl [2, 3, 0] rfl
        exact ih _ _ _ (by omega) ⟨hw, hl9, (lt_s hE0 (by simp [fwP, *]))⟩
      · skip
        refine lv_iload_n hx hb dX3_firstWithoutVote_36 rfl (lv_at hl 0 rfl) ?_
        refine ret_i (wf := cw G g) go hw dX3_firstWithoutVote_37 ?_
        exact ⟨(fwI_at (i := i) (by simp [fwP, *]) hE0 hlt).symm, rfl⟩

set_option maxHeartbeats 4000000 in
set_option maxRecDepth 100000 in
theorem kX3_promisedBefore (l : Launch) (G : Cx) (g : Nat → Nat → Nat) (x : Sg) (v : Nat) (hv : v < 2) (d : Nat) (hd : d < 6) : Ci l G yX3_promisedBefore cX3_promisedBefore 8 .int (Rm 0 0) (cw G g) [.ref (g 0 0), .int (nI v), .ref (g (2 + d) 0)] x (fun r u => r = prI x v d ∧ u = x) := by
  refine Ci.mk (by decide) (Nat.le_of_ble_eq_true rfl) ?_
  intro p e s m below meth c A ls go hw hl
  generalize s.heap = H at hw ⊢
  generalize ([] : List Loc) = locs at hw ⊢
  have hx := go.1
  have hb := go.2.1
  have hl : lv_has ls 8 [(0, .ref (g 0 0)), (1, .int (nI v)), (2, .ref (g (2 + d) 0))] := hl
  refine lv_iconst (v := 0) hx hb dX3_promisedBefore_0 (by decide) ?_
  refine lv_istore_n (lv' := [(3, .int 0), (0, .ref (g 0 0)), (1, .int (nI v)), (2, .ref (g (2 + d) 0))]) hx hb dX3_promisedBefore_1 rfl hl (by decide) rfl (fun ls hl => ?_)
  refine lv_aload_n hx hb dX3_promisedBefore_2 rfl (lv_at hl 1 rfl) ?_
  refine gX (k := 3) (v := .ref (g 0 4)) rfl (by decide) rfl go hw dX3_promisedBefore_3 q130 ?_
  refine lv_astore (lv' := [(4, .ref (g 0 4)), (3, .int 0), (0, .ref (g 0 0)), (1, .int (nI v)), (2, .ref (g (2 + d) 0))]) hx hb dX3_promisedBefore_6 hl (by decide) rfl (fun ls hl => ?_)
  refine lv_aload hx hb dX3_promisedBefore_8 (lv_at hl 0 rfl) ?_
  refine lDl go hw dX3_promisedBefore_10 ?_
  refine lv_istore (lv' := [(5, .int (nI 6)), (4, .ref (g 0 4)), (3, .int 0), (0, .ref (g 0 0)), (1, .int (nI v)), (2, .ref (g (2 + d) 0))]) hx hb dX3_promisedBefore_11 hl (by decide) rfl (fun ls hl => ?_)
  refine lv_iconst (v := 0) hx hb dX3_promisedBefore_13 (by decide) ?_
  refine lv_istore (lv' := [(6, .int 0), (5, .int (nI 6)), (4, .ref (g 0 4)), (3, .int 0), (0, .ref (g 0 0)), (1, .int (nI v)), (2, .ref (g (2 + d) 0))]) hx hb dX3_promisedBefore_14 hl (by decide) rfl (fun ls hl => ?_)
  have hl0 : lv_has ls 8 [(0, .ref (g 0 0)), (1, .int (nI v)), (2, .ref (g (2 + d) 0)), (3, .int (foI (fun e a => if sI x (2 + e) 1 = 3 ∧ ¬ sI x (2 + d) 7 ≤ sI x (2 + e) 7 ∧ sA x (2 + e) 12 v = 1 then a ||| sI x (2 + e) 6 else a) 0 0)), (4, .ref (g 0 4)), (5, .int (nI 6)), (6, .int (nI 0))] := lv_to (lv_sub (l' := [(0, .ref (g 0 0)), (1, .int (nI v)), (2, .ref (g (2 + d) 0)), (3, .int 0), (4, .ref (g 0 4)), (5, .int (nI 6)), (6, .int 0)]) hl [4, 5, 6, 3, 2, 1, 0] rfl) (lr (lr (lr (lc (show (0 : Int32) = foI (fun e a => if sI x (2 + e) 1 = 3 ∧ ¬ sI x (2 + d) 7 ≤ sI x (2 + e) 7 ∧ sA x (2 + e) 12 v = 1 then a ||| sI x (2 + e) 6 else a) 0 0 from rfl) (lr (lr (lc (show (0 : Int32) = nI 0 from rfl) rfl)))))))
  refine loop_up (N := 6) (P := fun i H locs ls => Wd G A s H locs (cw G g x) ∧ lv_has ls 8 [(0, .ref (g 0 0)), (1, .int (nI v)), (2, .ref (g (2 + d) 0)), (3, .int (foI (fun e a => if sI x (2 + e) 1 = 3 ∧ ¬ sI x (2 + d) 7 ≤ sI x (2 + e) 7 ∧ sA x (2 + e) 12 v = 1 then a ||| sI x (2 + e) 6 else a) 0 i)), (4, .ref (g 0 4)), (5, .int (nI 6)), (6, .int (nI i))]) (X := fun H locs ls => W p l e (Rm 0 0) s m ([.ref (g 0 0), .int (nI v), .ref (g (2 + d) 0)] : List Value).toArray below meth c H locs 0 0 (MQ below (va_Qi (fun r u => r = prI x v d ∧ u = x) (PostW G (cw G g) A) A) ([.ref (g 0 0), .int (nI v), .ref (g (2 + d) 0)] : List Value).toArray s (Rm 0 0).cells (Rm 0 0).slots A) (F0 m 16 ls [])) ?_ 0 (by omega) H locs ls ⟨hw, hl0⟩
  clear hl0 hl hw
  intro i hi ih H locs ls hP
  obtain ⟨hw, hl⟩ := hP
  refine lv_iload hx hb dX3_promisedBefore_16 (lv_at hl 6 rfl) ?_
  refine lv_iload hx hb dX3_promisedBefore_18 (lv_at hl 5 rfl) ?_
  refine lv_icmp_ge (tgt := 76) hx hb dX3_promisedBefore_20 (by decide) (fun h20 => ?_) (fun h20 => ?_)
  · skip
    have hE : i = 6 := lp_end h20 rfl rfl hi (by decide)
    subst hE
    refine lv_iload_n hx hb dX3_promisedBefore_76 rfl (lv_at hl 3 rfl) ?_
    refine ret_i (wf := cw G g) go hw dX3_promisedBefore_77 ?_
    exact ⟨rfl, rfl⟩
  · skip
    have hlt : i < 6 := lp_in h20 rfl rfl hi (by decide)
    refine lv_aload hx hb dX3_promisedBefore_23 (lv_at hl 4 rfl) ?_
    refine lv_iload hx hb dX3_promisedBefore_25 (lv_at hl 6 rfl) ?_
    refine aDl (d := i) (by exact hlt) go hw dX3_promisedBefore_27 ?_
    refine lv_astore (lv' := [(7, .ref (g (2 + i) 0)), (0, .ref (g 0 0)), (1, .int (nI v)), (2, .ref (g (2 + d) 0)), (3, .int (foI (fun e a => if sI x (2 + e) 1 = 3 ∧ ¬ sI x (2 + d) 7 ≤ sI x (2 + e) 7 ∧ sA x (2 + e) 12 v = 1 then a ||| sI x (2 + e) 6 else a) 0 i)), (4, .ref (g 0 4)), (5, .int (nI 6)), (6, .int (nI i))]) hx hb dX3_promisedBefore_28 hl (by decide) rfl (fun ls hl => ?_)
    refine lv_aload hx hb dX3_promisedBefore_30 (lv_at hl 0 rfl) ?_
    refine gDi (d := i) (k := 1) (v := sI x (2 + i) 1) hlt (by decide) rfl go hw dX3_promisedBefore_32 q63 ?_
    refine lv_iconst (v := 3) hx hb dX3_promisedBefore_35 (by decide) ?_
    refine lv_icmp_ne (tgt := 70) hx hb dX3_promisedBefore_36 (by decide) (fun h36 => ?_) (fun h36 => ?_)
    · skip
      refine lv_iinc (v := nI (i + 1)) (lv' := [(6, .int (nI (i + 1))), (7, .ref (g (2 + i) 0)), (0, .ref (g 0 0)), (1, .int (nI v)), (2, .ref (g (2 + d) 0)), (3, .int (foI (fun e a => if sI x (2 + e) 1 = 3 ∧ ¬ sI x (2 + d) 7 ≤ sI x (2 + e) 7 ∧ sA x (2 + e) 12 v = 1 then a ||| sI x (2 + e) 6 else a) 0 i)), (4, .ref (g 0 4)), (5, .int (nI 6))]) hx hb dX3_promisedBefore_70 hl (k := 7) rfl (nI_1 _) (by decide) rfl (fun ls hl => ?_)
      refine lv_goto (tgt := 16) hx hb dX3_promisedBefore_73 (by decide) ?_
      have hl9 : lv_has ls 8 [(0, .ref (g 0 0)), (1, .int (nI v)), (2, .ref (g (2 + d) 0)), (3, .int (foI (fun e a => if sI x (2 + e) 1 = 3 ∧ ¬ sI x (2 + d) 7 ≤ sI x (2 + e) 7 ∧ sA x (2 + e) 12 v = 1 then a ||| sI x (2 + e) 6 else a) 0 (i + 1))), (4, .ref (g 0 4)), (5, .int (nI 6)), (6, .int (nI (i + 1)))] := lv_to (lv_sub (l' := [(0, .ref (g 0 0)), (1, .int (nI v)), (2, .ref (g (2 + d) 0)), (3, .int (foI (fun e a => if sI x (2 + e) 1 = 3 ∧ ¬ sI x (2 + d) 7 ≤ sI x (2 + e) 7 ∧ sA x (2 + e) 12 v = 1 then a ||| sI x (2 + e) 6 else a) 0 i)), (4, .ref (g 0 4)), (5, .int (nI 6)), (6, .int (nI (i + 1)))]) hl [2, 3, 4, 5, 6, 7, 0] rfl) (lr (lr (lr (lc (show (foI (fun e a => if sI x (2 + e) 1 = 3 ∧ ¬ sI x (2 + d) 7 ≤ sI x (2 + e) 7 ∧ sA x (2 + e) 12 v = 1 then a ||| sI x (2 + e) 6 else a) 0 i : Int32) = foI (fun e a => if sI x (2 + e) 1 = 3 ∧ ¬ sI x (2 + d) 7 ≤ sI x (2 + e) 7 ∧ sA x (2 + e) 12 v = 1 then a ||| sI x (2 + e) 6 else a) 0 (i + 1) from by simp [foI, *]) (lr (lr (lr rfl)))))))
      exact ih _ _ _ (by omega) ⟨hw, hl9⟩
    · skip
      refine lv_aload hx hb dX3_promisedBefore_39 (lv_at hl 0 rfl) ?_
      refine gDi (d := i) (k := 7) (v := sI x (2 + i) 7) hlt (by decide) rfl go hw dX3_promisedBefore_41 q79 ?_
      refine lv_aload_n hx hb dX3_promisedBefore_44 rfl (lv_at hl 3 rfl) ?_
      refine gDi (d := d) (k := 7) (v := sI x (2 + d) 7) hd (by decide) rfl go hw dX3_promisedBefore_45 q79 ?_
      refine lv_icmp_ge (tgt := 70) hx hb dX3_promisedBefore_48 (by decide) (fun h48 => ?_) (fun h48 => ?_)
      · skip
        refine lv_iinc (v := nI (i + 1)) (lv' := [(6, .int (nI (i + 1))), (7, .ref (g (2 + i) 0)), (0, .ref (g 0 0)), (1, .int (nI v)), (2, .ref (g (2 + d) 0)), (3, .int (foI (fun e a => if sI x (2 + e) 1 = 3 ∧ ¬ sI x (2 + d) 7 ≤ sI x (2 + e) 7 ∧ sA x (2 + e) 12 v = 1 then a ||| sI x (2 + e) 6 else a) 0 i)), (4, .ref (g 0 4)), (5, .int (nI 6))]) hx hb dX3_promisedBefore_70 hl (k := 7) rfl (nI_1 _) (by decide) rfl (fun ls hl => ?_)
        refine lv_goto (tgt := 16) hx hb dX3_promisedBefore_73 (by decide) ?_
        have hl9 : lv_has ls 8 [(0, .ref (g 0 0)), (1, .int (nI v)), (2, .ref (g (2 + d) 0)), (3, .int (foI (fun e a => if sI x (2 + e) 1 = 3 ∧ ¬ sI x (2 + d) 7 ≤ sI x (2 + e) 7 ∧ sA x (2 + e) 12 v = 1 then a ||| sI x (2 + e) 6 else a) 0 (i + 1))), (4, .ref (g 0 4)), (5, .int (nI 6)), (6, .int (nI (i + 1)))] := lv_to (lv_sub (l' := [(0, .ref (g 0 0)), (1, .int (nI v)), (2, .ref (g (2 + d) 0)), (3, .int (foI (fun e a => if sI x (2 + e) 1 = 3 ∧ ¬ sI x (2 + d) 7 ≤ sI x (2 + e) 7 ∧ sA x (2 + e) 12 v = 1 then a ||| sI x (2 + e) 6 else a) 0 i)), (4, .ref (g 0 4)), (5, .int (nI 6)), (6, .int (nI (i + 1)))]) hl [2, 3, 4, 5, 6, 7, 0] rfl) (lr (lr (lr (lc (show (foI (fun e a => if sI x (2 + e) 1 = 3 ∧ ¬ sI x (2 + d) 7 ≤ sI x (2 + e) 7 ∧ sA x (2 + e) 12 v = 1 then a ||| sI x (2 + e) 6 else a) 0 i : Int32) = foI (fun e a => if sI x (2 + e) 1 = 3 ∧ ¬ sI x (2 + d) 7 ≤ sI x (2 + e) 7 ∧ sA x (2 + e) 12 v = 1 then a ||| sI x (2 + e) 6 else a) 0 (i + 1) from by simp [foI, *]) (lr (lr (lr rfl)))))))
        exact ih _ _ _ (by omega) ⟨hw, hl9⟩
      · skip
        refine lv_aload hx hb dX3_promisedBefore_51 (lv_at hl 0 rfl) ?_
        refine gD (d := i) (k := 12) (v := .ref (g (2 + i) 13)) hlt rfl (by decide) rfl go hw dX3_promisedBefore_53 q91 ?_
        refine lv_iload_n hx hb dX3_promisedBefore_56 rfl (lv_at hl 2 rfl) ?_
        refine aD (d := i) (k := 12) (j := v) hlt (by decide) (by exact hv) go hw dX3_promisedBefore_57 ?_
        refine lv_iconst (v := 1) hx hb dX3_promisedBefore_58 (by decide) ?_
        refine lv_icmp_ne (tgt := 70) hx hb dX3_promisedBefore_59 (by decide) (fun h59 => ?_) (fun h59 => ?_)
        · skip
          refine lv_iinc (v := nI (i + 1)) (lv' := [(6, .int (nI (i + 1))), (7, .ref (g (2 + i) 0)), (0, .ref (g 0 0)), (1, .int (nI v)), (2, .ref (g (2 + d) 0)), (3, .int (foI (fun e a => if sI x (2 + e) 1 = 3 ∧ ¬ sI x (2 + d) 7 ≤ sI x (2 + e) 7 ∧ sA x (2 + e) 12 v = 1 then a ||| sI x (2 + e) 6 else a) 0 i)), (4, .ref (g 0 4)), (5, .int (nI 6))]) hx hb dX3_promisedBefore_70 hl (k := 7) rfl (nI_1 _) (by decide) rfl (fun ls hl => ?_)
          refine lv_goto (tgt := 16) hx hb dX3_promisedBefore_73 (by decide) ?_
          have hl9 : lv_has ls 8 [(0, .ref (g 0 0)), (1, .int (nI v)), (2, .ref (g (2 + d) 0)), (3, .int (foI (fun e a => if sI x (2 + e) 1 = 3 ∧ ¬ sI x (2 + d) 7 ≤ sI x (2 + e) 7 ∧ sA x (2 + e) 12 v = 1 then a ||| sI x (2 + e) 6 else a) 0 (i + 1))), (4, .ref (g 0 4)), (5, .int (nI 6)), (6, .int (nI (i + 1)))] := lv_to (lv_sub (l' := [(0, .ref (g 0 0)), (1, .int (nI v)), (2, .ref (g (2 + d) 0)), (3, .int (foI (fun e a => if sI x (2 + e) 1 = 3 ∧ ¬ sI x (2 + d) 7 ≤ sI x (2 + e) 7 ∧ sA x (2 + e) 12 v = 1 then a ||| sI x (2 + e) 6 else a) 0 i)), (4, .ref (g 0 4)), (5, .int (nI 6)), (6, .int (nI (i + 1)))]) hl [2, 3, 4, 5, 6, 7, 0] rfl) (lr (lr (lr (lc (show (foI (fun e a => if sI x (2 + e) 1 = 3 ∧ ¬ sI x (2 + d) 7 ≤ sI x (2 + e) 7 ∧ sA x (2 + e) 12 v = 1 then a ||| sI x (2 + e) 6 else a) 0 i : Int32) = foI (fun e a => if sI x (2 + e) 1 = 3 ∧ ¬ sI x (2 + d) 7 ≤ sI x (2 + e) 7 ∧ sA x (2 + e) 12 v = 1 then a ||| sI x (2 + e) 6 else a) 0 (i + 1) from by simp [foI, *]) (lr (lr (lr rfl)))))))
          exact ih _ _ _ (by omega) ⟨hw, hl9⟩
        · skip
          refine lv_iload_n hx hb dX3_promisedBefore_62 rfl (lv_at hl 4 rfl) ?_
          refine lv_aload hx hb dX3_promisedBefore_63 (lv_at hl 0 rfl) ?_
          refine gDi (d := i) (k := 6) (v := sI x (2 + i) 6) hlt (by decide) rfl go hw dX3_promisedBefore_65 q77 ?_
          refine lv_ior hx hb dX3_promisedBefore_68 ?_
          refine lv_istore_n (lv' := [(3, .int ((foI (fun e a => if sI x (2 + e) 1 = 3 ∧ ¬ sI x (2 + d) 7 ≤ sI x (2 + e) 7 ∧ sA x (2 + e) 12 v = 1 then a ||| sI x (2 + e) 6 else a) 0 i) ||| (sI x (2 + i) 6))), (7, .ref (g (2 + i) 0)), (0, .ref (g 0 0)), (1, .int (nI v)), (2, .ref (g (2 + d) 0)), (4, .ref (g 0 4)), (5, .int (nI 6)), (6, .int (nI i))]) hx hb dX3_promisedBefore_69 rfl hl (by decide) rfl (fun ls hl => ?_)
          refine lv_iinc (v := nI (i + 1)) (lv' := [(6, .int (nI (i + 1))), (3, .int ((foI (fun e a => if sI x (2 + e) 1 = 3 ∧ ¬ sI x (2 + d) 7 ≤ sI x (2 + e) 7 ∧ sA x (2 + e) 12 v = 1 then a ||| sI x (2 + e) 6 else a) 0 i) ||| (sI x (2 + i) 6))), (7, .ref (g (2 + i) 0)), (0, .ref (g 0 0)), (1, .int (nI v)), (2, .ref (g (2 + d) 0)), (4, .ref (g 0 4)), (5, .int (nI 6))]) hx hb dX3_promisedBefore_70 hl (k := 7) rfl (nI_1 _) (by decide) rfl (fun ls hl => ?_)
          refine lv_goto (tgt := 16) hx hb dX3_promisedBefore_73 (by decide) ?_
          have hl9 : lv_has ls 8 [(0, .ref (g 0 0)), (1, .int (nI v)), (2, .ref (g (2 + d) 0)), (3, .int (foI (fun e a => if sI x (2 + e) 1 = 3 ∧ ¬ sI x (2 + d) 7 ≤ sI x (2 + e) 7 ∧ sA x (2 + e) 12 v = 1 then a ||| sI x (2 + e) 6 else a) 0 (i + 1))), (4, .ref (g 0 4)), (5, .int (nI 6)), (6, .int (nI (i + 1)))] := lv_to (lv_sub (l' := [(0, .ref (g 0 0)), (1, .int (nI v)), (2, .ref (g (2 + d) 0)), (3, .int ((foI (fun e a => if sI x (2 + e) 1 = 3 ∧ ¬ sI x (2 + d) 7 ≤ sI x (2 + e) 7 ∧ sA x (2 + e) 12 v = 1 then a ||| sI x (2 + e) 6 else a) 0 i) ||| (sI x (2 + i) 6))), (4, .ref (g 0 4)), (5, .int (nI 6)), (6, .int (nI (i + 1)))]) hl [3, 4, 5, 1, 6, 7, 0] rfl) (lr (lr (lr (lc (show ((foI (fun e a => if sI x (2 + e) 1 = 3 ∧ ¬ sI x (2 + d) 7 ≤ sI x (2 + e) 7 ∧ sA x (2 + e) 12 v = 1 then a ||| sI x (2 + e) 6 else a) 0 i) ||| (sI x (2 + i) 6) : Int32) = foI (fun e a => if sI x (2 + e) 1 = 3 ∧ ¬ sI x (2 + d) 7 ≤ sI x (2 + e) 7 ∧ sA x (2 + e) 12 v = 1 then a ||| sI x (2 + e) 6 else a) 0 (i + 1) from by simp [foI, *]) (lr (lr (lr rfl)))))))
          exact ih _ _ _ (by omega) ⟨hw, hl9⟩

set_option maxHeartbeats 4000000 in
set_option maxRecDepth 100000 in
theorem kX3_opinion (l : Launch) (G : Cx) (g : Nat → Nat → Nat) (x : Sg) (v : Nat) (hv : v < 2) (d : Nat) (hd : d < 6) : Ci l G yX3_opinion cX3_opinion 4 .int (Rm 3 64) (cw G g) [.ref (g 0 0), .int (nI v), .ref (g (2 + d) 0)] x (fun r u => r = bI (opI x v d) ∧ u = x) := by
  refine Ci.mk (by decide) (Nat.le_of_ble_eq_true rfl) ?_
  intro p e s m below meth c A ls go hw hl
  generalize s.heap = H at hw ⊢
  generalize ([] : List Loc) = locs at hw ⊢
  have hx := go.1
  have hb := go.2.1
  have hl : lv_has ls 4 [(0, .ref (g 0 0)), (1, .int (nI v)), (2, .ref (g (2 + d) 0))] := hl
  refine lv_aload_n hx hb dX3_opinion_0 rfl (lv_at hl 0 rfl) ?_
  refine lv_aload_n hx hb dX3_opinion_1 rfl (lv_at hl 2 rfl) ?_
  refine cal_Vi' (kX3_staleOf l G g x d hd) go hw dX3_opinion_2 (And.intro q441 (And.intro q1 q444)) q443 qs6 kyX3_staleOf ⟨Nat.le_of_ble_eq_true rfl, Nat.le_of_ble_eq_true rfl⟩ rc_X hl.1 rfl (Nat.le_of_ble_eq_true rfl) ⟨rfl, rfl⟩ ⟨Nat.le_of_ble_eq_true rfl, Nat.le_of_ble_eq_true rfl⟩ (fun H locs hw => ?_)
  refine lv_aload_n hx hb dX3_opinion_5 rfl (lv_at hl 2 rfl) ?_
  refine gDi (d := d) (k := 5) (v := sI x (2 + d) 5) hd (by decide) rfl go hw dX3_opinion_6 q74 ?_
  refine lv_aload_n hx hb dX3_opinion_9 rfl (lv_at hl 0 rfl) ?_
  refine lv_iload_n hx hb dX3_opinion_10 rfl (lv_at hl 1 rfl) ?_
  refine lv_aload_n hx hb dX3_opinion_11 rfl (lv_at hl 2 rfl) ?_
  refine cal_Vi' (kX3_promisedBefore l G g x v (by omega) d hd) go hw dX3_opinion_12 (And.intro q520 (And.intro q1 q523)) q522 qs19 kyX3_promisedBefore ⟨Nat.le_of_ble_eq_true rfl, Nat.le_of_ble_eq_true rfl⟩ rc_X hl.1 rfl (Nat.le_of_ble_eq_true rfl) ⟨rfl, rfl⟩ ⟨Nat.le_of_ble_eq_true rfl, Nat.le_of_ble_eq_true rfl⟩ (fun H locs hw => ?_)
  refine lv_iand hx hb dX3_opinion_15 ?_
  refine lv_ior hx hb dX3_opinion_16 ?_
  refine lv_istore_n (lv' := [(3, .int ((stl x d) ||| ((sI x (2 + d) 5) &&& (prI x v d)))), (0, .ref (g 0 0)), (1, .int (nI v)), (2, .ref (g (2 + d) 0))]) hx hb dX3_opinion_17 rfl hl (by decide) rfl (fun ls hl => ?_)
  refine lv_iload_n hx hb dX3_opinion_18 rfl (lv_at hl 0 rfl) ?_
  refine lv_iload_n hx hb dX3_opinion_19 rfl (lv_at hl 2 rfl) ?_
  refine cal_S (kX3_itemsOf l G (nI v)) go hw.2.2.1 hw.2.2.2.1 dX3_opinion_20 (And.intro q524 (And.intro q1 q526)) q525 kyX3_itemsOf ⟨rfl, rfl⟩ ⟨Nat.le_of_ble_eq_true rfl, Nat.le_of_ble_eq_true rfl⟩ hl.1 rfl (Nat.le_of_ble_eq_true rfl) ⟨Nat.le_of_ble_eq_true rfl, Nat.le_of_ble_eq_true rfl⟩ ?_
  refine lv_iand hx hb dX3_opinion_23 ?_
  refine lv_if_ne (tgt := 31) hx hb dX3_opinion_24 (by decide) (fun h24 => ?_) (fun h24 => ?_)
  · skip
    refine lv_iconst (v := 0) hx hb dX3_opinion_31 (by decide) ?_
    refine ret_i (wf := cw G g) go hw dX3_opinion_32 ?_
    exact ⟨by simp [opI, bI, *], rfl⟩
  · skip
    refine lv_iconst (v := 1) hx hb dX3_opinion_27 (by decide) ?_
    refine lv_goto (tgt := 32) hx hb dX3_opinion_28 (by decide) ?_
    refine ret_i (wf := cw G g) go hw dX3_opinion_32 ?_
    exact ⟨by simp [opI, bI, *], rfl⟩

set_option maxHeartbeats 4000000 in
set_option maxRecDepth 100000 in
theorem kX3_foretell (l : Launch) (G : Cx) (g : Nat → Nat → Nat) (x : Sg) (hN : Nm x) (d : Nat) (hd : d < 6) (w : Int32) : Ci l G yX3_foretell cX3_foretell 3 .int (Rm 3 72) (cw G g) [.ref (g 0 0), .ref (g (2 + d) 0), .int w] x (fun r u => r = ftI x d w ∧ u = x) := by
  refine Ci.mk (by decide) (Nat.le_of_ble_eq_true rfl) ?_
  intro p e s m below meth c A ls go hw hl
  generalize s.heap = H at hw ⊢
  generalize ([] : List Loc) = locs at hw ⊢
  have hx := go.1
  have hb := go.2.1
  have hl : lv_has ls 3 [(0, .ref (g 0 0)), (1, .ref (g (2 + d) 0)), (2, .int w)] := hl
  refine lv_iload_n hx hb dX3_foretell_0 rfl (lv_at hl 2 rfl) ?_
  refine lv_if_lt (tgt := 9) hx hb dX3_foretell_1 (by decide) (fun h1 => ?_) (fun h1 => ?_)
  · skip
    refine lv_bipush (v := (-3)) hx hb dX3_foretell_9 (by decide) ?_
    refine ret_i (wf := cw G g) go hw dX3_foretell_11 ?_
    exact ⟨by simp [ftI, *], rfl⟩
  · skip
    refine lv_iload_n hx hb dX3_foretell_4 rfl (lv_at hl 2 rfl) ?_
    refine lv_iconst (v := 2) hx hb dX3_foretell_5 (by decide) ?_
    refine lv_icmp_le (tgt := 12) hx hb dX3_foretell_6 (by decide) (fun h6 => ?_) (fun h6 => ?_)
    · skip
      refine lv_aload_n hx hb dX3_foretell_12 rfl (lv_at hl 1 rfl) ?_
      refine gDi (d := d) (k := 1) (v := sI x (2 + d) 1) hd (by decide) rfl go hw dX3_foretell_13 q63 ?_
      refine lv_iconst (v := 1) hx hb dX3_foretell_16 (by decide) ?_
      refine lv_icmp_ne (tgt := 28) hx hb dX3_foretell_17 (by decide) (fun h17 => ?_) (fun h17 => ?_)
      · skip
        refine lv_bipush (v := (-4)) hx hb dX3_foretell_28 (by decide) ?_
        refine ret_i (wf := cw G g) go hw dX3_foretell_30 ?_
        exact ⟨by simp [ftI, *], rfl⟩
      · skip
        refine lv_aload_n hx hb dX3_foretell_20 rfl (lv_at hl 0 rfl) ?_
        refine lv_iconst (v := 3) hx hb dX3_foretell_21 (by decide) ?_
        refine cal_Vi' (kX3_howMany l G g x 3) go hw dX3_foretell_22 (And.intro q317 (And.intro q1 q320)) q319 qs2 kyX3_howMany ⟨Nat.le_of_ble_eq_true rfl, Nat.le_of_ble_eq_true rfl⟩ rc_X hl.1 rfl (Nat.le_of_ble_eq_true rfl) ⟨rfl, rfl⟩ ⟨Nat.le_of_ble_eq_true rfl, Nat.le_of_ble_eq_true rfl⟩ (fun H locs hw => ?_)
        refine lv_if_le (tgt := 31) hx hb dX3_foretell_25 (by decide) (fun h25 => ?_) (fun h25 => ?_)
        · skip
          refine lv_aload_n hx hb dX3_foretell_31 rfl (lv_at hl 0 rfl) ?_
          refine gXi (k := 5) (v := sI x 0 5) ⟨by decide, by decide⟩ rfl go hw dX3_foretell_32 q132 ?_
          refine lv_sipush (v := 512) hx hb dX3_foretell_35 (by decide) ?_
          refine lv_icmp_lt (tgt := 44) hx hb dX3_foretell_38 (by decide) (fun h38 => ?_) (fun h38 => ?_)
          · skip
            refine lv_aload_n hx hb dX3_foretell_44 rfl (lv_at hl 0 rfl) ?_
            refine lv_aload_n hx hb dX3_foretell_45 rfl (lv_at hl 1 rfl) ?_
            refine cal_Vi' (kX3_staleOf l G g x d hd) go hw dX3_foretell_46 (And.intro q441 (And.intro q1 q444)) q443 qs6 kyX3_staleOf ⟨Nat.le_of_ble_eq_true rfl, Nat.le_of_ble_eq_true rfl⟩ rc_X hl.1 rfl (Nat.le_of_ble_eq_true rfl) ⟨rfl, rfl⟩ ⟨Nat.le_of_ble_eq_true rfl, Nat.le_of_ble_eq_true rfl⟩ (fun H locs hw => ?_)
            refine lv_if_eq (tgt := 55) hx hb dX3_foretell_49 (by decide) (fun h49 => ?_) (fun h49 => ?_)
            · skip
              refine lv_iload_n hx hb dX3_foretell_55 rfl (lv_at hl 2 rfl) ?_
              refine lv_if_ne (tgt := 70) hx hb dX3_foretell_56 (by decide) (fun h56 => ?_) (fun h56 => ?_)
              · skip
                refine lv_iload_n hx hb dX3_foretell_70 rfl (lv_at hl 2 rfl) ?_
                refine lv_iconst (v := 2) hx hb dX3_foretell_71 (by decide) ?_
                refine lv_icmp_ne (tgt := 88) hx hb dX3_foretell_72 (by decide) (fun h72 => ?_) (fun h72 => ?_)
                · skip
                  refine lv_aload_n hx hb dX3_foretell_88 rfl (lv_at hl 0 rfl) ?_
                  refine gXi (k := 5) (v := sI x 0 5) ⟨by decide, by decide⟩ rfl go hw dX3_foretell_89 q132 ?_
                  refine lv_iconst (v := 1) hx hb dX3_foretell_92 (by decide) ?_
                  refine lv_iadd hx hb dX3_foretell_93 ?_
                  refine ret_i (wf := cw G g) go hw dX3_foretell_94 ?_
                  exact ⟨by simp [ftI, *], rfl⟩
                · skip
                  refine lv_aload_n hx hb dX3_foretell_75 rfl (lv_at hl 0 rfl) ?_
                  refine lv_aload_n hx hb dX3_foretell_76 rfl (lv_at hl 1 rfl) ?_
                  refine cal_Vi' (kX3_mustYield l G g x hN d hd) go hw dX3_foretell_77 (And.intro q449 (And.intro q1 q452)) q451 qs8 kyX3_mustYield ⟨Nat.le_of_ble_eq_true rfl, Nat.le_of_ble_eq_true rfl⟩ rc_X hl.1 rfl (Nat.le_of_ble_eq_true rfl) ⟨rfl, rfl⟩ ⟨Nat.le_of_ble_eq_true rfl, Nat.le_of_ble_eq_true rfl⟩ (fun H locs hw => ?_)
                  refine lv_if_eq (tgt := 88) hx hb dX3_foretell_80 (by decide) (fun h80 => ?_) (fun h80 => ?_)
                  · skip
                    have h80 := bI_0 h80
                    refine lv_aload_n hx hb dX3_foretell_88 rfl (lv_at hl 0 rfl) ?_
                    refine gXi (k := 5) (v := sI x 0 5) ⟨by decide, by decide⟩ rfl go hw dX3_foretell_89 q132 ?_
                    refine lv_iconst (v := 1) hx hb dX3_foretell_92 (by decide) ?_
                    refine lv_iadd hx hb dX3_foretell_93 ?_
                    refine ret_i (wf := cw G g) go hw dX3_foretell_94 ?_
                    exact ⟨by simp [ftI, *], rfl⟩
                  · skip
                    have h80 := bI_1 h80
                    refine lv_bipush (v := (-13)) hx hb dX3_foretell_83 (by decide) ?_
                    refine lv_goto (tgt := 94) hx hb dX3_foretell_85 (by decide) ?_
                    refine ret_i (wf := cw G g) go hw dX3_foretell_94 ?_
                    exact ⟨by simp [ftI, *], rfl⟩
              · skip
                refine lv_aload_n hx hb dX3_foretell_59 rfl (lv_at hl 0 rfl) ?_
                refine lv_aload_n hx hb dX3_foretell_60 rfl (lv_at hl 1 rfl) ?_
                refine cal_Vi' (kX3_crossedOf l G g x d hd) go hw dX3_foretell_61 (And.intro q445 (And.intro q1 q448)) q447 qs7 kyX3_crossedOf ⟨Nat.le_of_ble_eq_true rfl, Nat.le_of_ble_eq_true rfl⟩ rc_X hl.1 rfl (Nat.le_of_ble_eq_true rfl) ⟨rfl, rfl⟩ ⟨Nat.le_of_ble_eq_true rfl, Nat.le_of_ble_eq_true rfl⟩ (fun H locs hw => ?_)
                refine lv_if_eq (tgt := 70) hx hb dX3_foretell_64 (by decide) (fun h64 => ?_) (fun h64 => ?_)
                · skip
                  refine lv_iload_n hx hb dX3_foretell_70 rfl (lv_at hl 2 rfl) ?_
                  refine lv_iconst (v := 2) hx hb dX3_foretell_71 (by decide) ?_
                  refine lv_icmp_ne (tgt := 88) hx hb dX3_foretell_72 (by decide) (fun _ => ?_) (fun q => absurd (h56.symm.trans q) (by decide))
                  refine lv_aload_n hx hb dX3_foretell_88 rfl (lv_at hl 0 rfl) ?_
                  refine gXi (k := 5) (v := sI x 0 5) ⟨by decide, by decide⟩ rfl go hw dX3_foretell_89 q132 ?_
                  refine lv_iconst (v := 1) hx hb dX3_foretell_92 (by decide) ?_
                  refine lv_iadd hx hb dX3_foretell_93 ?_
                  refine ret_i (wf := cw G g) go hw dX3_foretell_94 ?_
                  exact ⟨by simp [ftI, *], rfl⟩
                · skip
                  refine lv_bipush (v := (-12)) hx hb dX3_foretell_67 (by decide) ?_
                  refine ret_i (wf := cw G g) go hw dX3_foretell_69 ?_
                  exact ⟨by simp [ftI, *], rfl⟩
            · skip
              refine lv_bipush (v := (-11)) hx hb dX3_foretell_52 (by decide) ?_
              refine ret_i (wf := cw G g) go hw dX3_foretell_54 ?_
              exact ⟨by simp [ftI, *], rfl⟩
          · skip
            refine lv_bipush (v := (-5)) hx hb dX3_foretell_41 (by decide) ?_
            refine ret_i (wf := cw G g) go hw dX3_foretell_43 ?_
            exact ⟨by simp [ftI, *], rfl⟩
        · skip
          refine lv_bipush (v := (-4)) hx hb dX3_foretell_28 (by decide) ?_
          refine ret_i (wf := cw G g) go hw dX3_foretell_30 ?_
          exact ⟨by simp [ftI, *], rfl⟩
    · skip
      refine lv_bipush (v := (-3)) hx hb dX3_foretell_9 (by decide) ?_
      refine ret_i (wf := cw G g) go hw dX3_foretell_11 ?_
      exact ⟨by simp [ftI, *], rfl⟩

set_option maxHeartbeats 4000000 in
set_option maxRecDepth 100000 in
theorem kX3_allValues (l : Launch) (G : Cx) (g : Nat → Nat → Nat) (x : Sg) : Ci l G yX3_allValues cX3_allValues 6 .int (Rm 0 0) (cw G g) [.ref (g 0 0)] x (fun r u => r = avI x ∧ u = x) := by
  refine Ci.mk (by decide) (Nat.le_of_ble_eq_true rfl) ?_
  intro p e s m below meth c A ls go hw hl
  generalize s.heap = H at hw ⊢
  generalize ([] : List Loc) = locs at hw ⊢
  have hx := go.1
  have hb := go.2.1
  have hl : lv_has ls 6 [(0, .ref (g 0 0))] := hl
  refine lv_iconst (v := 0) hx hb dX3_allValues_0 (by decide) ?_
  refine lv_istore_n (lv' := [(1, .int 0), (0, .ref (g 0 0))]) hx hb dX3_allValues_1 rfl hl (by decide) rfl (fun ls hl => ?_)
  refine lv_aload_n hx hb dX3_allValues_2 rfl (lv_at hl 1 rfl) ?_
  refine gX (k := 1) (v := .ref (g 0 2)) rfl (by decide) rfl go hw dX3_allValues_3 q128 ?_
  refine lv_astore_n (lv' := [(2, .ref (g 0 2)), (1, .int 0), (0, .ref (g 0 0))]) hx hb dX3_allValues_6 rfl hl (by decide) rfl (fun ls hl => ?_)
  refine lv_aload_n hx hb dX3_allValues_7 rfl (lv_at hl 0 rfl) ?_
  refine lX go hw dX3_allValues_8 ?_
  refine lv_istore_n (lv' := [(3, .int (nI 8)), (2, .ref (g 0 2)), (1, .int 0), (0, .ref (g 0 0))]) hx hb dX3_allValues_9 rfl hl (by decide) rfl (fun ls hl => ?_)
  refine lv_iconst (v := 0) hx hb dX3_allValues_10 (by decide) ?_
  refine lv_istore (lv' := [(4, .int 0), (3, .int (nI 8)), (2, .ref (g 0 2)), (1, .int 0), (0, .ref (g 0 0))]) hx hb dX3_allValues_11 hl (by decide) rfl (fun ls hl => ?_)
  have hl0 : lv_has ls 6 [(0, .ref (g 0 0)), (1, .int (foI (fun i a => a + sA x 0 1 i) 0 0)), (2, .ref (g 0 2)), (3, .int (nI 8)), (4, .int (nI 0))] := lv_to (lv_sub (l' := [(0, .ref (g 0 0)), (1, .int 0), (2, .ref (g 0 2)), (3, .int (nI 8)), (4, .int 0)]) hl [4, 3, 2, 1, 0] rfl) (lr (lc (show (0 : Int32) = foI (fun i a => a + sA x 0 1 i) 0 0 from rfl) (lr (lr (lc (show (0 : Int32) = nI 0 from rfl) rfl)))))
  refine loop_up (N := 8) (P := fun i H locs ls => Wd G A s H locs (cw G g x) ∧ lv_has ls 6 [(0, .ref (g 0 0)), (1, .int (foI (fun i a => a + sA x 0 1 i) 0 i)), (2, .ref (g 0 2)), (3, .int (nI 8)), (4, .int (nI i))]) (X := fun H locs ls => W p l e (Rm 0 0) s m ([.ref (g 0 0)] : List Value).toArray below meth c H locs 0 0 (MQ below (va_Qi (fun r u => r = avI x ∧ u = x) (PostW G (cw G g) A) A) ([.ref (g 0 0)] : List Value).toArray s (Rm 0 0).cells (Rm 0 0).slots A) (F0 m 13 ls [])) ?_ 0 (by omega) H locs ls ⟨hw, hl0⟩
  clear hl0 hl hw
  intro i hi ih H locs ls hP
  obtain ⟨hw, hl⟩ := hP
  refine lv_iload hx hb dX3_allValues_13 (lv_at hl 4 rfl) ?_
  refine lv_iload_n hx hb dX3_allValues_15 rfl (lv_at hl 3 rfl) ?_
  refine lv_icmp_ge (tgt := 36) hx hb dX3_allValues_16 (by decide) (fun h16 => ?_) (fun h16 => ?_)
  · skip
    have hE : i = 8 := lp_end h16 rfl rfl hi (by decide)
    subst hE
    refine lv_iload_n hx hb dX3_allValues_36 rfl (lv_at hl 1 rfl) ?_
    refine ret_i (wf := cw G g) go hw dX3_allValues_37 ?_
    exact ⟨rfl, rfl⟩
  · skip
    have hlt : i < 8 := lp_in h16 rfl rfl hi (by decide)
    refine lv_aload_n hx hb dX3_allValues_19 rfl (lv_at hl 2 rfl) ?_
    refine lv_iload hx hb dX3_allValues_20 (lv_at hl 4 rfl) ?_
    refine aX (k := 1) (j := i) (by decide) (by exact hlt) go hw dX3_allValues_22 ?_
    refine lv_istore (lv' := [(5, .int (sA x 0 1 i)), (0, .ref (g 0 0)), (1, .int (foI (fun i a => a + sA x 0 1 i) 0 i)), (2, .ref (g 0 2)), (3, .int (nI 8)), (4, .int (nI i))]) hx hb dX3_allValues_23 hl (by decide) rfl (fun ls hl => ?_)
    refine lv_iload_n hx hb dX3_allValues_25 rfl (lv_at hl 2 rfl) ?_
    refine lv_iload hx hb dX3_allValues_26 (lv_at hl 0 rfl) ?_
    refine lv_iadd hx hb dX3_allValues_28 ?_
    refine lv_istore_n (lv' := [(1, .int ((foI (fun i a => a + sA x 0 1 i) 0 i) + (sA x 0 1 i))), (5, .int (sA x 0 1 i)), (0, .ref (g 0 0)), (2, .ref (g 0 2)), (3, .int (nI 8)), (4, .int (nI i))]) hx hb dX3_allValues_29 rfl hl (by decide) rfl (fun ls hl => ?_)
    refine lv_iinc (v := nI (i + 1)) (lv' := [(4, .int (nI (i + 1))), (1, .int ((foI (fun i a => a + sA x 0 1 i) 0 i) + (sA x 0 1 i))), (5, .int (sA x 0 1 i)), (0, .ref (g 0 0)), (2, .ref (g 0 2)), (3, .int (nI 8))]) hx hb dX3_allValues_30 hl (k := 5) rfl (nI_1 _) (by decide) rfl (fun ls hl => ?_)
    refine lv_goto (tgt := 13) hx hb dX3_allValues_33 (by decide) ?_
    have hl9 : lv_has ls 6 [(0, .ref (g 0 0)), (1, .int (foI (fun i a => a + sA x 0 1 i) 0 (i + 1))), (2, .ref (g 0 2)), (3, .int (nI 8)), (4, .int (nI (i + 1)))] := lv_to (lv_sub (l' := [(0, .ref (g 0 0)), (1, .int ((foI (fun i a => a + sA x 0 1 i) 0 i) + (sA x 0 1 i))), (2, .ref (g 0 2)), (3, .int (nI 8)), (4, .int (nI (i + 1)))]) hl [3, 1, 4, 5, 0] rfl) (lr (lc (show ((foI (fun i a => a + sA x 0 1 i) 0 i) + (sA x 0 1 i) : Int32) = foI (fun i a => a + sA x 0 1 i) 0 (i + 1) from rfl) (lr (lr (lr rfl)))))
    exact ih _ _ _ (by omega) ⟨hw, hl9⟩

set_option maxHeartbeats 4000000 in
set_option maxRecDepth 100000 in
theorem kX3_entryOf_t (l : Launch) (G : Cx) (g : Nat → Nat → Nat) (x : Sg) (c0 : Nat) (hc : sI x 0 5 = nI c0) (hcs : c0 ≤ sN x) (hc5 : c0 ≤ 512) (n : Nat) (hn : n < c0) : Cq l G yX3_entryOf cX3_entryOf 2 (.object "LateChecks$Entry") (Rm 0 0) (cw G g) [.ref (g 0 0), .int (nI (n + 1))] x (fun r u => r = some (sE x n 0) ∧ u = x) := by
  refine Cq.mk (by decide) (Nat.le_of_ble_eq_true rfl) ?_
  intro p e s m below meth c A ls go hw hl
  generalize s.heap = H at hw ⊢
  generalize ([] : List Loc) = locs at hw ⊢
  have hx := go.1
  have hb := go.2.1
  have hl : lv_has ls 2 [(0, .ref (g 0 0)), (1, .int (nI (n + 1)))] := hl
  refine lv_iload_n hx hb dX3_entryOf_0 rfl (lv_at hl 1 rfl) ?_
  refine lv_iconst (v := 1) hx hb dX3_entryOf_1 (by decide) ?_
  refine lv_icmp_lt (tgt := 20) hx hb dX3_entryOf_2 (by decide) (fun h2 => absurd h2 (by exact nI_nlt (a := n + 1) (b := 1) (by omega) (by omega))) (fun h2 => ?_)
  refine lv_iload_n hx hb dX3_entryOf_5 rfl (lv_at hl 1 rfl) ?_
  refine lv_aload_n hx hb dX3_entryOf_6 rfl (lv_at hl 0 rfl) ?_
  refine gXi (k := 5) (v := nI c0) ⟨by decide, by decide⟩ hc go hw dX3_entryOf_7 q132 ?_
  refine lv_icmp_gt (tgt := 20) hx hb dX3_entryOf_10 (by decide) (fun h10 => absurd h10 (by exact nI_nlt (by omega) (by omega))) (fun h10 => ?_)
  refine lv_iload_n hx hb dX3_entryOf_13 rfl (lv_at hl 1 rfl) ?_
  refine lv_sipush (v := 512) hx hb dX3_entryOf_14 (by decide) ?_
  refine lv_icmp_le (tgt := 22) hx hb dX3_entryOf_17 (by decide) (fun h17 => ?_) (fun h17 => absurd h17 (by exact fun q => q (nI_le (b := 512) (by omega) (by decide))))
  refine lv_aload_n hx hb dX3_entryOf_22 rfl (lv_at hl 0 rfl) ?_
  refine gX (k := 4) (v := .ref (g 0 5)) rfl (by decide) rfl go hw dX3_entryOf_23 q131 ?_
  refine lv_iload_n hx hb dX3_entryOf_26 rfl (lv_at hl 1 rfl) ?_
  refine lv_iconst (v := 1) hx hb dX3_entryOf_27 (by decide) ?_
  refine lv_isub hx hb dX3_entryOf_28 ?_
  refine toI (show ((nI (n + 1)) - 1 : Int32) = nI n from by exact nI_pred n) ?_
  refine aEn (n := n) (by omega) go hw dX3_entryOf_29 ?_
  refine ret_q (r := (entF x n)) (wf := cw G g) go hw dX3_entryOf_30 ?_
  exact ⟨by rw [entF, if_pos (by omega)], rfl⟩

set_option maxHeartbeats 4000000 in
set_option maxRecDepth 100000 in
theorem kX3_entryOf_f (l : Launch) (G : Cx) (g : Nat → Nat → Nat) (x : Sg) (c0 : Nat) (hc : sI x 0 5 = nI c0) (hcs : c0 ≤ sN x) (hc5 : c0 ≤ 512) (k : Int32) (hk : okE c0 k = false) : Cq l G yX3_entryOf cX3_entryOf 2 (.object "LateChecks$Entry") (Rm 0 0) (cw G g) [.ref (g 0 0), .int k] x (fun r u => r = none ∧ u = x) := by
  refine Cq.mk (by decide) (Nat.le_of_ble_eq_true rfl) ?_
  intro p e s m below meth c A ls go hw hl
  generalize s.heap = H at hw ⊢
  generalize ([] : List Loc) = locs at hw ⊢
  have hx := go.1
  have hb := go.2.1
  have hl : lv_has ls 2 [(0, .ref (g 0 0)), (1, .int k)] := hl
  refine lv_iload_n hx hb dX3_entryOf_0 rfl (lv_at hl 1 rfl) ?_
  refine lv_iconst (v := 1) hx hb dX3_entryOf_1 (by decide) ?_
  refine lv_icmp_lt (tgt := 20) hx hb dX3_entryOf_2 (by decide) (fun h2 => ?_) (fun h2 => ?_)
  · skip
    refine lv_null hx hb dX3_entryOf_20 ?_
    refine ret_q (r := none) (wf := cw G g) go hw dX3_entryOf_21 ?_
    exact ⟨rfl, rfl⟩
  · skip
    refine lv_iload_n hx hb dX3_entryOf_5 rfl (lv_at hl 1 rfl) ?_
    refine lv_aload_n hx hb dX3_entryOf_6 rfl (lv_at hl 0 rfl) ?_
    refine gXi (k := 5) (v := nI c0) ⟨by decide, by decide⟩ hc go hw dX3_entryOf_7 q132 ?_
    refine lv_icmp_gt (tgt := 20) hx hb dX3_entryOf_10 (by decide) (fun h10 => ?_) (fun h10 => absurd h10 (by exact fun q => by simp [okE, h2, q] at hk))
    refine lv_null hx hb dX3_entryOf_20 ?_
    refine ret_q (r := none) (wf := cw G g) go hw dX3_entryOf_21 ?_
    exact ⟨rfl, rfl⟩
