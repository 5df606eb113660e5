/-! ===== the reference: numbers, bits ===== -/
def inL (a b c : Int64) : Bool := !decide (a < b) && !decide (c < a)
theorem wide_lt (a b : Int32) : a.toInt64 < b.toInt64 ↔ a < b := by rw [Int64.lt_iff_toInt_lt, Int32.lt_iff_toInt_lt, Int32.toInt_toInt64, Int32.toInt_toInt64]
theorem inL_g (a b c : Int32) : inL a.toInt64 b.toInt64 c.toInt64 = (!decide (a < b) && !decide (c < a)) := by
  unfold inL
  rw [decide_eq_decide.mpr (wide_lt a b), decide_eq_decide.mpr (wide_lt c a)]
theorem lt_le {a b : Int32} : (¬ a < b) ↔ b ≤ a := by rw [Int32.lt_iff_toInt_lt, Int32.le_iff_toInt_le]; omega
theorem inL_n (x : Int32) (n : Nat) {c N : Int32} (hn : n < 2 ^ 30) (hc : c = nI n) (hN : N = nI (n + 1)) : inL x.toInt64 0 c.toInt64 = inB N x := by
  rw [show (0 : Int64) = (0 : Int32).toInt64 from rfl, inL_g, inB]
  have h : (c < x) ↔ (N ≤ x) := by
    rw [hc, hN, Int32.lt_iff_toInt_lt, Int32.le_iff_toInt_le, nI_toInt (by omega), nI_toInt (by omega)]
    omega
  rw [decide_eq_decide.mpr h]
theorem inL_8 (x : Int32) : inL x.toInt64 0 7 = inB 8 x := inL_n x 7 (c := 7) (N := 8) (by decide) rfl rfl
theorem inL_6 (x : Int32) : inL x.toInt64 0 5 = inB 6 x := inL_n x 5 (c := 5) (N := 6) (by decide) rfl rfl
theorem inL_2 (x : Int32) : inL x.toInt64 0 1 = inB 2 x := inL_n x 1 (c := 1) (N := 2) (by decide) rfl rfl
theorem inL_va (x : Int32) : inL x.toInt64 0 9999 = vaB x := by rw [show (0 : Int64) = (0 : Int32).toInt64 from rfl, show (9999 : Int64) = (9999 : Int32).toInt64 from rfl, inL_g]; rfl
theorem inL_dg (x : Int32) : inL x.toInt64 48 57 = dgB x := by rw [show (48 : Int64) = (48 : Int32).toInt64 from rfl, show (57 : Int64) = (57 : Int32).toInt64 from rfl, inL_g]; rfl
theorem inL_sm (x : Int32) : inL x.toInt64 97 122 = smB x := by rw [show (97 : Int64) = (97 : Int32).toInt64 from rfl, show (122 : Int64) = (122 : Int32).toInt64 from rfl, inL_g]; rfl
theorem inL_ok (c0 : Nat) (k : Int32) : inL k.toInt64 1 (nI c0).toInt64 = okE c0 k := by rw [show (1 : Int64) = (1 : Int32).toInt64 from rfl, inL_g]; rfl
theorem sl32 : ∀ n, n < 32 → ((nI n &&& 31).toBitVec.smod 32).toNat = n := by decide +kernel
theorem sh32 : ∀ l, l < 32 → ((1 : Int32) <<< (nI l &&& 31)).toBitVec = BitVec.twoPow 32 l := by decide +kernel
theorem tp32 : ∀ l, l < 32 → BitVec.twoPow 32 l ≠ 0#32 := by decide +kernel
theorem hasB_bit (m : Int32) (l : Nat) (hl : l < 32) : hasB m (nI l) = m.toBitVec.getLsbD l := by
  have h2 : (m &&& bt (nI l) = 0) ↔ m.toBitVec.getLsbD l = false := by
    unfold bt
    rw [← Int32.toBitVec_inj, Int32.toBitVec_and, sh32 l hl, BitVec.and_twoPow]
    show _ = 0#32 ↔ _
    cases hb : m.toBitVec.getLsbD l
    · exact ⟨fun _ => rfl, fun _ => by simp⟩
    · exact ⟨fun z => absurd ((if_pos rfl).symm.trans z) (tp32 l hl), fun z => by cases z⟩
  unfold hasB
  cases hb : m.toBitVec.getLsbD l
  · rw [decide_eq_true (h2.mpr hb)]; rfl
  · rw [decide_eq_false (fun z => by rw [h2.mp z] at hb; cases hb)]; rfl
theorem hasQ_eq (m : Int32) (l : Nat) (hl : l < 32) : ((m >>> (nI l &&& 31)) &&& 1 = 1) ↔ hasB m (nI l) = true := by
  have e : (m >>> (nI l &&& 31)).toBitVec = m.toBitVec.sshiftRight l := by
    rw [Int32.toBitVec_shiftRight]
    show m.toBitVec.sshiftRight ((nI l &&& 31).toBitVec.smod 32).toNat = _
    rw [sl32 l hl]
  rw [hasB_bit m l hl, ← Int32.toBitVec_inj, Int32.toBitVec_and, e]
  show (m.toBitVec.sshiftRight l &&& 1#32) = 1#32 ↔ _
  rw [BitVec.and_one_eq_setWidth_ofBool_getLsbD, BitVec.getLsbD_sshiftRight]
  have h0 : (!decide (32 ≤ 0) && if l + 0 < 32 then m.toBitVec.getLsbD (l + 0) else m.toBitVec.msb) = m.toBitVec.getLsbD l := by
    rw [if_pos (by omega)]; rfl
  rw [h0]
  cases m.toBitVec.getLsbD l <;> decide
theorem or0 (a : Int32) : a ||| 0 = a := Int32.or_zero
theorem add0 (a : Int32) : a + 0 = a := Int32.add_zero a
def foR (f : Rg → Nat → Rg) (x : Rg) : Nat → Rg
  | 0 => x
  | n + 1 => f (foR f x n) n
theorem qA_self (x : Rg) (k : Nat) : qA x k (rA x k) = x := by
  refine Prod.ext rfl (funext fun j => ?_)
  show (if j = k then x.2 k else x.2 j) = x.2 j
  split
  · next h => rw [h]
  · rfl
theorem qA_over (x : Rg) (k : Nat) (f f' : Nat → Int32) : qA (qA x k f) k f' = qA x k f' := by
  refine Prod.ext rfl (funext fun j => ?_)
  show (if j = k then f' else if j = k then f else x.2 j) = if j = k then f' else x.2 j
  split
  · rfl
  · rfl
theorem qA_over2 (x : Rg) (a b : Nat) (f h f' h' : Nat → Int32) : qA (qA (qA (qA x a f) b h) a f') b h' = qA (qA x a f') b h' := by
  refine Prod.ext rfl (funext fun j => ?_)
  show (if j = b then h' else if j = a then f' else if j = b then h else if j = a then f else x.2 j) = if j = b then h' else if j = a then f' else x.2 j
  by_cases h1 : j = b
  · rw [if_pos h1, if_pos h1]
  · rw [if_neg h1, if_neg h1, if_neg h1]
    by_cases h2 : j = a
    · rw [if_pos h2, if_pos h2]
    · rw [if_neg h2, if_neg h2, if_neg h2]
def onI (s : Int32) : Int32 := foI (fun k a => a + ((s >>> (nI k &&& 31)) &&& 1)) 0 8
def inS (x : Rg) (st : Int32) : Nat := cntB (fun d => decide (rA x 4 d = st)) 6
def frR (x : Rg) (d : Nat) (b : Bool) : Rg :=
  let y := qA (qA (qA (qA (qA x 4 (upd (rA x 4) d 0)) 8 (upd (rA x 8) d (bI b))) 9 (upd (rA x 9) d 0)) 10 (upd (rA x 10) d 0)) 5 (upd (rA x 5) d 0)
  if b then y else qA (qA y 6 (upd (rA x 6) d 0)) 7 (upd (rA x 7) d 0)
def opR (x : Rg) (d : Nat) : Rg := qA (qA (qA (qA (qA x 4 (upd (rA x 4) d 1)) 8 (upd (rA x 8) d 0)) 9 (upd (rA x 9) d 0)) 10 (upd (rA x 10) d 0)) 5 (upd (rA x 5) d (rI x 2))
def anR (x : Rg) : Rg :=
  qI (qI (qI (qI (qI (qI (qI (foR (fun y d => frR y d false) (qA (qA x 0 (cpZ (rA x 0) 8)) 1 (cpZ (rA x 1) 8)) 6) 2 0) 16 3) 17 0) 18 0) 19 0) 20 0) 21 0
def puR (x : Rg) (i : Nat) (v : Int32) : Rg := qA (qA x 0 (upd (rA x 0) i v)) 1 (upd (rA x 1) i (rI x 2))
def slR (x : Rg) (d : Nat) : Int32 := orB (fun i => hasB (rA x 9 d) (nI i) && !decide (rA x 1 i = rA x 12 (8 * d + i))) 8
def crR (x : Rg) (d s0 n : Nat) : Int32 := foI (fun k a => a ||| (rA x 9 d &&& rA x 3 (22 * (s0 + k) + 4))) 0 n
def rvR (x : Rg) (d : Nat) : Int32 := orB (fun e => !decide (nI e = nI d) && (decide (rA x 4 e = 1) && !decide (rA x 9 e &&& rA x 10 d = 0))) 6
def stR (x : Rg) (d : Nat) : Bool := !decide (rA x 7 d < rI x 16)
def gfR (x : Rg) (a b : Nat) : Bool := if bI (stR x a) = bI (stR x b) then !decide (rA x 6 b ≤ rA x 6 a) else stR x a
def wkR (x : Rg) (d : Nat) (b : Int32) : Bool := exB (fun e => hasB b (nI e) && gfR x e d) 6
def ckR (x : Rg) (d : Nat) (w : Int32) (s0 n : Nat) : Int32 :=
  if w = 0 then (if crR x d s0 n = 0 then 0 else if slR x d = 0 then -12 else -11)
  else if slR x d = 0 then (if w = 1 then 0 else if wkR x d (rvR x d) = true then -13 else 0) else -11
def faR (x : Rg) (d : Nat) (w : Int32) : Rg :=
  let y := frR x d true
  qI (qI (qI y 19 (rI y 19 + 1)) 20 (rI y 20 + (if w = -12 then 1 else 0))) 21 (rI y 21 + (if w = -13 then 1 else 0))
def rfR (x : Rg) (a w : Int32) : Int32 :=
  if inB 6 a = true then (if inL w.toInt64 0 2 = true then (if ¬ rA x 4 a.toNatClampNeg = 1 ∨ ¬ nI (inS x 3) ≤ 0 then -4 else 0) else -3) else -2
/-- the rows of the log's last entry -/
def lgL (f ns wv : Nat → Int32) (a i : Nat) : Nat → Int32 := fun j => if a + 6 ≤ j ∧ j < a + 6 + i then ns (j - (a + 6)) else if a + 14 ≤ j ∧ j < a + 14 + i then wv (j - (a + 14)) else f j
theorem lgL_0 (f ns wv : Nat → Int32) (a : Nat) : lgL f ns wv a 0 = f := by
  funext j
  unfold lgL
  rw [if_neg (by omega), if_neg (by omega)]
theorem lgL_s (f ns wv : Nat → Int32) (a i : Nat) (hi : i < 8) : upd (upd (lgL f ns wv a i) (a + 6 + i) (ns i)) (a + 14 + i) (wv i) = lgL f ns wv a (i + 1) := by
  funext j
  unfold lgL upd
  by_cases h1 : j = a + 14 + i
  · subst h1
    rw [if_pos rfl, if_neg (by omega), if_pos (by omega), show a + 14 + i - (a + 14) = i by omega]
  · rw [if_neg h1]
    by_cases h2 : j = a + 6 + i
    · subst h2
      rw [if_pos rfl, if_pos (by omega), show a + 6 + i - (a + 6) = i by omega]
    · rw [if_neg h2]
      show (if a + 6 ≤ j ∧ j < a + 6 + i then ns (j - (a + 6)) else if a + 14 ≤ j ∧ j < a + 14 + i then wv (j - (a + 14)) else f j) = _
      by_cases h3 : a + 6 ≤ j ∧ j < a + 6 + i
      · rw [if_pos h3, if_pos (by omega)]
      · rw [if_neg h3, if_neg (show ¬ (a + 6 ≤ j ∧ j < a + 6 + (i + 1)) by omega)]
        by_cases h4 : a + 14 ≤ j ∧ j < a + 14 + i
        · rw [if_pos h4, if_pos (by omega)]
        · rw [if_neg h4, if_neg (show ¬ (a + 14 ≤ j ∧ j < a + 14 + (i + 1)) by omega)]
def lg0 (x : Rg) (c0 : Nat) (v0 v1 v2 v3 v4 w : Int32) : Rg :=
  let f1 := upd (rA x 3) (22 * c0) v0
  let f2 := upd f1 (22 * c0 + 1) v1
  let f3 := upd f2 (22 * c0 + 2) v2
  let f4 := upd f3 (22 * c0 + 3) v3
  let f5 := upd f4 (22 * c0 + 4) v4
  let f6 := upd f5 (22 * c0 + 5) w
  qA (qA (qA (qA (qA (qA (qI x 2 (nI (c0 + 1))) 3 f1) 3 f2) 3 f3) 3 f4) 3 f5) 3 f6
def lgN (x : Rg) (c0 : Nat) (w : Int32) : Rg := qA (lg0 x c0 (-1) 0 0 0 0 w) 3 (lgL (rA (lg0 x c0 (-1) 0 0 0 0 w) 3) (fun _ => -1) (fun _ => -1) (22 * c0) 8)
def lg1 (x : Rg) (c0 d : Nat) (w : Int32) : Rg := lg0 x c0 (nI d) (rA x 6 d) (rA x 7 d) (rA x 9 d) (rA x 10 d) w
def nsR (x : Rg) (d : Nat) : Nat → Int32 := fun i => if hasB (rA x 9 d) (nI i) = true then rA x 12 (8 * d + i) else -1
def wvR (x : Rg) (d : Nat) : Nat → Int32 := fun i => if hasB (rA x 10 d) (nI i) = true then rA x 13 (8 * d + i) else -1
def lgD (x : Rg) (c0 d : Nat) (w : Int32) : Rg := qA (lg1 x c0 d w) 3 (lgL (rA (lg1 x c0 d w) 3) (nsR x d) (wvR x d) (22 * c0) 8)
def cmS (d : Nat) (y : Rg) (i : Nat) : Rg := if hasB (rA y 10 d) (nI i) = true then puR y i (rA y 13 (8 * d + i)) else y
def coR (x : Rg) (c0 d : Nat) (w : Int32) : Rg := frR (foR (cmS d) (lgD x c0 d w) 8) d false

set_option maxHeartbeats 4000000 in
set_option maxRecDepth 100000 in
theorem kX4_in (l : Launch) (G : Cx) (a b z : Int64) : Si l G yX4_in cX4_in 6 .boolean (Rm 0 0) [.long a, .long b, .long z] (fun r => r = bI (inL a b z)) := by
  refine Si.mk (by decide) (Nat.le_of_ble_eq_true rfl) ?_
  intro p e s m below meth c A ls go hk hl
  have hS : va_S A s.heap s.heap [] := va_S.rf
  have hx := go.1
  have hb := go.2.1
  have hl : lv_has ls 6 [(0, .long a), (2, .long b), (4, .long z)] := hl
  refine lv_lload_n hx hb dX4_in_0 rfl (lv_at hl 0 rfl) ?_
  refine lv_lload_n hx hb dX4_in_1 rfl (lv_at hl 1 rfl) ?_
  refine W.lcmp hx hb dX4_in_2 ?_
  refine lv_if_lt (tgt := 17) hx hb dX4_in_3 (by decide) (fun h3 => ?_) (fun h3 => ?_)
  · skip
    rw [lg_cmp_lt] at h3
    refine lv_iconst (v := 0) hx hb dX4_in_17 (by decide) ?_
    refine ret_sz go dX4_in_18 rfl ?_
    simp [inL, bI, *]
  · skip
    rw [lg_cmp_lt] at h3
    refine lv_lload_n hx hb dX4_in_6 rfl (lv_at hl 0 rfl) ?_
    refine lv_lload hx hb dX4_in_7 (lv_at hl 2 rfl) ?_
    refine W.lcmp hx hb dX4_in_9 ?_
    refine lv_if_gt (tgt := 17) hx hb dX4_in_10 (by decide) (fun h10 => ?_) (fun h10 => ?_)
    · skip
      rw [lg_cmp_gt] at h10
      refine lv_iconst (v := 0) hx hb dX4_in_17 (by decide) ?_
      refine ret_sz go dX4_in_18 rfl ?_
      simp [inL, bI, *]
    · skip
      rw [lg_cmp_gt] at h10
      refine lv_iconst (v := 1) hx hb dX4_in_13 (by decide) ?_
      refine lv_goto (tgt := 18) hx hb dX4_in_14 (by decide) ?_
      refine ret_sz go dX4_in_18 rfl ?_
      simp [inL, bI, *]

set_option maxHeartbeats 4000000 in
set_option maxRecDepth 100000 in
theorem kX4_isItem (l : Launch) (G : Cx) (x : Int32) : Si l G yX4_isItem cX4_isItem 1 .boolean (Rm 1 25) [.int x] (fun r => r = bI (inB 8 x)) := by
  refine Si.mk (by decide) (Nat.le_of_ble_eq_true rfl) ?_
  intro p e s m below meth c A ls go hk hl
  have hS : va_S A s.heap s.heap [] := va_S.rf
  have hx := go.1
  have hb := go.2.1
  have hl : lv_has ls 1 [(0, .int x)] := hl
  refine lv_iload_n hx hb dX4_isItem_0 rfl (lv_at hl 0 rfl) ?_
  refine lv_i2l hx hb dX4_isItem_1 rfl ?_
  refine lv_lconst (v := 0) hx hb dX4_isItem_2 rfl ?_
  refine lv_ldc2 (v := 7) hx hb go.2.2.2.2.1 (go.2.2.2.2.2.1 _ q751) dX4_isItem_3 ?_
  refine cal_S (kX4_in l G x.toInt64 0 7) go hS hk dX4_isItem_6 (And.intro q687 (And.intro q4 q689)) q688 kyX4_in ⟨rfl, rfl⟩ ⟨Nat.le_of_ble_eq_true rfl, Nat.le_of_ble_eq_true rfl⟩ hl.1 rfl (Nat.le_of_ble_eq_true rfl) ⟨Nat.le_of_ble_eq_true rfl, Nat.le_of_ble_eq_true rfl⟩ ?_
  refine ret_sz go dX4_isItem_9 (bI_z _).1 ?_
  rw [inL_8]

set_option maxHeartbeats 4000000 in
set_option maxRecDepth 100000 in
theorem kX4_isDeal (l : Launch) (G : Cx) (x : Int32) : Si l G yX4_isDeal cX4_isDeal 1 .boolean (Rm 1 25) [.int x] (fun r => r = bI (inB 6 x)) := by
  refine Si.mk (by decide) (Nat.le_of_ble_eq_true rfl) ?_
  intro p e s m below meth c A ls go hk hl
  have hS : va_S A s.heap s.heap [] := va_S.rf
  have hx := go.1
  have hb := go.2.1
  have hl : lv_has ls 1 [(0, .int x)] := hl
  refine lv_iload_n hx hb dX4_isDeal_0 rfl (lv_at hl 0 rfl) ?_
  refine lv_i2l hx hb dX4_isDeal_1 rfl ?_
  refine lv_lconst (v := 0) hx hb dX4_isDeal_2 rfl ?_
  refine lv_ldc2 (v := 5) hx hb go.2.2.2.2.1 (go.2.2.2.2.2.1 _ q780) dX4_isDeal_3 ?_
  refine cal_S (kX4_in l G x.toInt64 0 5) go hS hk dX4_isDeal_6 (And.intro q687 (And.intro q4 q689)) q688 kyX4_in ⟨rfl, rfl⟩ ⟨Nat.le_of_ble_eq_true rfl, Nat.le_of_ble_eq_true rfl⟩ hl.1 rfl (Nat.le_of_ble_eq_true rfl) ⟨Nat.le_of_ble_eq_true rfl, Nat.le_of_ble_eq_true rfl⟩ ?_
  refine ret_sz go dX4_isDeal_9 (bI_z _).1 ?_
  rw [inL_6]

set_option maxHeartbeats 4000000 in
set_option maxRecDepth 100000 in
theorem kX4_isSmall (l : Launch) (G : Cx) (x : Int32) : Si l G yX4_isSmall cX4_isSmall 1 .boolean (Rm 1 25) [.int x] (fun r => r = bI (smB x)) := by
  refine Si.mk (by decide) (Nat.le_of_ble_eq_true rfl) ?_
  intro p e s m below meth c A ls go hk hl
  have hS : va_S A s.heap s.heap [] := va_S.rf
  have hx := go.1
  have hb := go.2.1
  have hl : lv_has ls 1 [(0, .int x)] := hl
  refine lv_iload_n hx hb dX4_isSmall_0 rfl (lv_at hl 0 rfl) ?_
  refine lv_i2l hx hb dX4_isSmall_1 rfl ?_
  refine lv_ldc2 (v := 97) hx hb go.2.2.2.2.1 (go.2.2.2.2.2.1 _ q709) dX4_isSmall_2 ?_
  refine lv_ldc2 (v := 122) hx hb go.2.2.2.2.1 (go.2.2.2.2.2.1 _ q710) dX4_isSmall_5 ?_
  refine cal_S (kX4_in l G x.toInt64 97 122) go hS hk dX4_isSmall_8 (And.intro q687 (And.intro q4 q689)) q688 kyX4_in ⟨rfl, rfl⟩ ⟨Nat.le_of_ble_eq_true rfl, Nat.le_of_ble_eq_true rfl⟩ hl.1 rfl (Nat.le_of_ble_eq_true rfl) ⟨Nat.le_of_ble_eq_true rfl, Nat.le_of_ble_eq_true rfl⟩ ?_
  refine ret_sz go dX4_isSmall_11 (bI_z _).1 ?_
  rw [inL_sm]

set_option maxHeartbeats 4000000 in
set_option maxRecDepth 100000 in
theorem kX4_isDigit (l : Launch) (G : Cx) (x : Int32) : Si l G yX4_isDigit cX4_isDigit 1 .boolean (Rm 1 25) [.int x] (fun r => r = bI (dgB x)) := by
  refine Si.mk (by decide) (Nat.le_of_ble_eq_true rfl) ?_
  intro p e s m below meth c A ls go hk hl
  have hS : va_S A s.heap s.heap [] := va_S.rf
  have hx := go.1
  have hb := go.2.1
  have hl : lv_has ls 1 [(0, .int x)] := hl
  refine lv_iload_n hx hb dX4_isDigit_0 rfl (lv_at hl 0 rfl) ?_
  refine lv_i2l hx hb dX4_isDigit_1 rfl ?_
  refine lv_ldc2 (v := 48) hx hb go.2.2.2.2.1 (go.2.2.2.2.2.1 _ q714) dX4_isDigit_2 ?_
  refine lv_ldc2 (v := 57) hx hb go.2.2.2.2.1 (go.2.2.2.2.2.1 _ q715) dX4_isDigit_5 ?_
  refine cal_S (kX4_in l G x.toInt64 48 57) go hS hk dX4_isDigit_8 (And.intro q687 (And.intro q4 q689)) q688 kyX4_in ⟨rfl, rfl⟩ ⟨Nat.le_of_ble_eq_true rfl, Nat.le_of_ble_eq_true rfl⟩ hl.1 rfl (Nat.le_of_ble_eq_true rfl) ⟨Nat.le_of_ble_eq_true rfl, Nat.le_of_ble_eq_true rfl⟩ ?_
  refine ret_sz go dX4_isDigit_11 (bI_z _).1 ?_
  rw [inL_dg]

set_option maxHeartbeats 4000000 in
set_option maxRecDepth 100000 in
theorem kX4_has (l : Launch) (G : Cx) (b : Int32) (i : Nat) (hi : i < 32) : Si l G yX4_has cX4_has 2 .boolean (Rm 0 0) [.int b, .int (nI i)] (fun r => r = bI (hasB b (nI i))) := by
  refine Si.mk (by decide) (Nat.le_of_ble_eq_true rfl) ?_
  intro p e s m below meth c A ls go hk hl
  have hS : va_S A s.heap s.heap [] := va_S.rf
  have hx := go.1
  have hb := go.2.1
  have hl : lv_has ls 2 [(0, .int b), (1, .int (nI i))] := hl
  refine lv_iload_n hx hb dX4_has_0 rfl (lv_at hl 0 rfl) ?_
  refine lv_iload_n hx hb dX4_has_1 rfl (lv_at hl 1 rfl) ?_
  refine lv_ishr hx hb dX4_has_2 ?_
  refine lv_iconst (v := 1) hx hb dX4_has_3 (by decide) ?_
  refine lv_iand hx hb dX4_has_4 ?_
  refine lv_iconst (v := 1) hx hb dX4_has_5 (by decide) ?_
  refine lv_icmp_ne (tgt := 13) hx hb dX4_has_6 (by decide) (fun h6 => ?_) (fun h6 => ?_)
  · skip
    refine lv_iconst (v := 0) hx hb dX4_has_13 (by decide) ?_
    refine ret_sz go dX4_has_14 rfl ?_
    rw [show hasB b (nI i) = false from by cases q : hasB b (nI i); rfl; exact absurd ((hasQ_eq b i hi).mpr q) h6]; rfl
  · skip
    refine lv_iconst (v := 1) hx hb dX4_has_9 (by decide) ?_
    refine lv_goto (tgt := 14) hx hb dX4_has_10 (by decide) ?_
    refine ret_sz go dX4_has_14 rfl ?_
    rw [(hasQ_eq b i hi).mp h6]; rfl

set_option maxHeartbeats 4000000 in
set_option maxRecDepth 100000 in
theorem kX4_ones (l : Launch) (G : Cx) (b : Int32) : Si l G yX4_ones cX4_ones 3 .int (Rm 0 0) [.int b] (fun r => r = onI b) := by
  refine Si.mk (by decide) (Nat.le_of_ble_eq_true rfl) ?_
  intro p e s m below meth c A ls go hk hl
  have hS : va_S A s.heap s.heap [] := va_S.rf
  have hx := go.1
  have hb := go.2.1
  have hl : lv_has ls 3 [(0, .int b)] := hl
  refine lv_iconst (v := 0) hx hb dX4_ones_0 (by decide) ?_
  refine lv_istore_n (lv' := [(1, .int 0), (0, .int b)]) hx hb dX4_ones_1 rfl hl (by decide) rfl (fun ls hl => ?_)
  refine lv_iconst (v := 0) hx hb dX4_ones_2 (by decide) ?_
  refine lv_istore_n (lv' := [(2, .int 0), (1, .int 0), (0, .int b)]) hx hb dX4_ones_3 rfl hl (by decide) rfl (fun ls hl => ?_)
  have hl0 : lv_has ls 3 [(0, .int b), (1, .int (foI (fun k a => a + ((b >>> (nI k &&& 31)) &&& 1)) 0 0)), (2, .int (nI 0))] := lv_to (lv_sub (l' := [(0, .int b), (1, .int 0), (2, .int 0)]) hl [2, 1, 0] rfl) (lr (lc (show (0 : Int32) = foI (fun k a => a + ((b >>> (nI k &&& 31)) &&& 1)) 0 0 from rfl) (lc (show (0 : Int32) = nI 0 from rfl) rfl)))
  refine loop_up (N := 8) (P := fun i H locs ls => H = s.heap ∧ locs = [] ∧ lv_has ls 3 [(0, .int b), (1, .int (foI (fun k a => a + ((b >>> (nI k &&& 31)) &&& 1)) 0 i)), (2, .int (nI i))]) (X := fun H locs ls => W p l e (Rm 0 0) s m ([.int b] : List Value).toArray below meth c H locs 0 0 (MQ below (vp_Si (fun r => r = onI b)) ([.int b] : List Value).toArray s 0 0 (fun _ => False)) (F0 m 4 ls [])) ?_ 0 (by omega) s.heap [] ls ⟨rfl, rfl, hl0⟩
  clear hl0 hl
  intro i hi ih H locs ls hP
  obtain ⟨rfl, rfl, hl⟩ := hP
  refine lv_iload_n hx hb dX4_ones_4 rfl (lv_at hl 2 rfl) ?_
  refine lv_bipush (v := 8) hx hb dX4_ones_5 (by decide) ?_
  refine lv_icmp_ge (tgt := 24) hx hb dX4_ones_7 (by decide) (fun h7 => ?_) (fun h7 => ?_)
  · skip
    have hE : i = 8 := lp_end h7 rfl rfl hi (by decide)
    subst hE
    refine lv_iload_n hx hb dX4_ones_24 rfl (lv_at hl 1 rfl) ?_
    refine ret_si go dX4_ones_25 ?_
    rfl
  · skip
    have hlt : i < 8 := lp_in h7 rfl rfl hi (by decide)
    refine lv_iload_n hx hb dX4_ones_10 rfl (lv_at hl 1 rfl) ?_
    refine lv_iload_n hx hb dX4_ones_11 rfl (lv_at hl 0 rfl) ?_
    refine lv_iload_n hx hb dX4_ones_12 rfl (lv_at hl 2 rfl) ?_
    refine lv_ishr hx hb dX4_ones_13 ?_
    refine lv_iconst (v := 1) hx hb dX4_ones_14 (by decide) ?_
    refine lv_iand hx hb dX4_ones_15 ?_
    refine lv_iadd hx hb dX4_ones_16 ?_
    refine lv_istore_n (lv' := [(1, .int ((foI (fun k a => a + ((b >>> (nI k &&& 31)) &&& 1)) 0 i) + ((b >>> ((nI i) &&& 31)) &&& 1))), (0, .int b), (2, .int (nI i))]) hx hb dX4_ones_17 rfl hl (by decide) rfl (fun ls hl => ?_)
    refine lv_iinc (v := nI (i + 1)) (lv' := [(2, .int (nI (i + 1))), (1, .int ((foI (fun k a => a + ((b >>> (nI k &&& 31)) &&& 1)) 0 i) + ((b >>> ((nI i) &&& 31)) &&& 1))), (0, .int b)]) hx hb dX4_ones_18 hl (k := 2) rfl (nI_1 _) (by decide) rfl (fun ls hl => ?_)
    refine lv_goto (tgt := 4) hx hb dX4_ones_21 (by decide) ?_
    have hl9 : lv_has ls 3 [(0, .int b), (1, .int (foI (fun k a => a + ((b >>> (nI k &&& 31)) &&& 1)) 0 (i + 1))), (2, .int (nI (i + 1)))] := lv_to (lv_sub (l' := [(0, .int b), (1, .int ((foI (fun k a => a + ((b >>> (nI k &&& 31)) &&& 1)) 0 i) + ((b >>> ((nI i) &&& 31)) &&& 1))), (2, .int (nI (i + 1)))]) hl [2, 1, 0] rfl) (lr (lc (show ((foI (fun k a => a + ((b >>> (nI k &&& 31)) &&& 1)) 0 i) + ((b >>> ((nI i) &&& 31)) &&& 1) : Int32) = foI (fun k a => a + ((b >>> (nI k &&& 31)) &&& 1)) 0 (i + 1) from rfl) (lr rfl)))
    exact ih _ _ _ (by omega) ⟨rfl, rfl, hl9⟩

set_option maxHeartbeats 4000000 in
set_option maxRecDepth 100000 in
theorem kX4_frees (l : Launch) (G : Cx) (h : Nat → Nat) (x : Rg) (d : Nat) (hd : d < 6) (b : Bool) : Cv l G yX4_frees cX4_frees 3 (Rm 0 0) (rw' G h) [.ref (h 0), .int (nI d), .int (bI b)] x (fun u => u = frR x d b) := by
  refine Cv.mk (by decide) (Nat.le_of_ble_eq_true rfl) ?_
  intro p e s m below meth c A ls go hw hl
  generalize s.heap = H at hw ⊢
  generalize ([] : List Loc) = locs at hw ⊢
  have hx := go.1
  have hb := go.2.1
  have hl : lv_has ls 3 [(0, .ref (h 0)), (1, .int (nI d)), (2, .int (bI b))] := hl
  refine lv_aload_n hx hb dX4_frees_0 rfl (lv_at hl 0 rfl) ?_
  refine gM (k := 4) (v := .ref (h 5)) rfl (by decide) rfl go hw dX4_frees_1 q594 ?_
  refine lv_iload_n hx hb dX4_frees_4 rfl (lv_at hl 1 rfl) ?_
  refine lv_iconst (v := 0) hx hb dX4_frees_5 (by decide) ?_
  refine sM (k := 4) (j := d) rfl (by decide) (by exact hd) go hw dX4_frees_6 (fun H locs hw => ?_)
  refine lv_aload_n hx hb dX4_frees_7 rfl (lv_at hl 0 rfl) ?_
  refine gM (k := 8) (v := .ref (h 9)) rfl (by decide) rfl go hw dX4_frees_8 q598 ?_
  refine lv_iload_n hx hb dX4_frees_11 rfl (lv_at hl 1 rfl) ?_
  refine lv_iload_n hx hb dX4_frees_12 rfl (lv_at hl 2 rfl) ?_
  refine sMz (j := d) (bI_nar _) (by exact hd) go hw dX4_frees_13 (fun H locs hw => ?_)
  rw [show rA (qA x 4 (upd (rA x 4) d 0)) 8 = rA x 8 from ((rA_ne (by decide)).trans rfl)] at hw
  refine lv_aload_n hx hb dX4_frees_14 rfl (lv_at hl 0 rfl) ?_
  refine gM (k := 9) (v := .ref (h 10)) rfl (by decide) rfl go hw dX4_frees_15 q599 ?_
  refine lv_iload_n hx hb dX4_frees_18 rfl (lv_at hl 1 rfl) ?_
  refine lv_iconst (v := 0) hx hb dX4_frees_19 (by decide) ?_
  refine sM (k := 9) (j := d) rfl (by decide) (by exact hd) go hw dX4_frees_20 (fun H locs hw => ?_)
  rw [show rA (qA (qA x 4 (upd (rA x 4) d 0)) 8 (upd (rA x 8) d (bI b))) 9 = rA x 9 from ((rA_ne (by decide)).trans ((rA_ne (by decide)).trans rfl))] at hw
  refine lv_aload_n hx hb dX4_frees_21 rfl (lv_at hl 0 rfl) ?_
  refine gM (k := 10) (v := .ref (h 11)) rfl (by decide) rfl go hw dX4_frees_22 q600 ?_
  refine lv_iload_n hx hb dX4_frees_25 rfl (lv_at hl 1 rfl) ?_
  refine lv_iconst (v := 0) hx hb dX4_frees_26 (by decide) ?_
  refine sM (k := 10) (j := d) rfl (by decide) (by exact hd) go hw dX4_frees_27 (fun H locs hw => ?_)
  rw [show rA (qA (qA (qA x 4 (upd (rA x 4) d 0)) 8 (upd (rA x 8) d (bI b))) 9 (upd (rA x 9) d 0)) 10 = rA x 10 from ((rA_ne (by decide)).trans ((rA_ne (by decide)).trans ((rA_ne (by decide)).trans rfl)))] at hw
  refine lv_aload_n hx hb dX4_frees_28 rfl (lv_at hl 0 rfl) ?_
  refine gM (k := 5) (v := .ref (h 6)) rfl (by decide) rfl go hw dX4_frees_29 q595 ?_
  refine lv_iload_n hx hb dX4_frees_32 rfl (lv_at hl 1 rfl) ?_
  refine lv_iconst (v := 0) hx hb dX4_frees_33 (by decide) ?_
  refine sM (k := 5) (j := d) rfl (by decide) (by exact hd) go hw dX4_frees_34 (fun H locs hw => ?_)
  rw [show rA (qA (qA (qA (qA x 4 (upd (rA x 4) d 0)) 8 (upd (rA x 8) d (bI b))) 9 (upd (rA x 9) d 0)) 10 (upd (rA x 10) d 0)) 5 = rA x 5 from ((rA_ne (by decide)).trans ((rA_ne (by decide)).trans ((rA_ne (by decide)).trans ((rA_ne (by decide)).trans rfl))))] at hw
  refine lv_iload_n hx hb dX4_frees_35 rfl (lv_at hl 2 rfl) ?_
  refine lv_if_ne (tgt := 53) hx hb dX4_frees_36 (by decide) (fun h36 => ?_) (fun h36 => ?_)
  · skip
    have h36 := bI_1 h36
    refine ret_v (wf := rw' G h) go hw dX4_frees_53 ?_
    simp [frR, *]
  · skip
    have h36 := bI_0 h36
    refine lv_aload_n hx hb dX4_frees_39 rfl (lv_at hl 0 rfl) ?_
    refine gM (k := 6) (v := .ref (h 7)) rfl (by decide) rfl go hw dX4_frees_40 q596 ?_
    refine lv_iload_n hx hb dX4_frees_43 rfl (lv_at hl 1 rfl) ?_
    refine lv_iconst (v := 0) hx hb dX4_frees_44 (by decide) ?_
    refine sM (k := 6) (j := d) rfl (by decide) (by exact hd) go hw dX4_frees_45 (fun H locs hw => ?_)
    rw [show rA (qA (qA (qA (qA (qA x 4 (upd (rA x 4) d 0)) 8 (upd (rA x 8) d (bI b))) 9 (upd (rA x 9) d 0)) 10 (upd (rA x 10) d 0)) 5 (upd (rA x 5) d 0)) 6 = rA x 6 from ((rA_ne (by decide)).trans ((rA_ne (by decide)).trans ((rA_ne (by decide)).trans ((rA_ne (by decide)).trans ((rA_ne (by decide)).trans rfl)))))] at hw
    refine lv_aload_n hx hb dX4_frees_46 rfl (lv_at hl 0 rfl) ?_
    refine gM (k := 7) (v := .ref (h 8)) rfl (by decide) rfl go hw dX4_frees_47 q597 ?_
    refine lv_iload_n hx hb dX4_frees_50 rfl (lv_at hl 1 rfl) ?_
    refine lv_iconst (v := 0) hx hb dX4_frees_51 (by decide) ?_
    refine sM (k := 7) (j := d) rfl (by decide) (by exact hd) go hw dX4_frees_52 (fun H locs hw => ?_)
    rw [show rA (qA (qA (qA (qA (qA (qA x 4 (upd (rA x 4) d 0)) 8 (upd (rA x 8) d (bI b))) 9 (upd (rA x 9) d 0)) 10 (upd (rA x 10) d 0)) 5 (upd (rA x 5) d 0)) 6 (upd (rA x 6) d 0)) 7 = rA x 7 from ((rA_ne (by decide)).trans ((rA_ne (by decide)).trans ((rA_ne (by decide)).trans ((rA_ne (by decide)).trans ((rA_ne (by decide)).trans ((rA_ne (by decide)).trans rfl))))))] at hw
    refine ret_v (wf := rw' G h) go hw dX4_frees_53 ?_
    simp [frR, *]

set_option maxHeartbeats 4000000 in
set_option maxRecDepth 100000 in
theorem kX4_opens (l : Launch) (G : Cx) (h : Nat → Nat) (x : Rg) (d : Nat) (hd : d < 6) : Cv l G yX4_opens cX4_opens 2 (Rm 0 0) (rw' G h) [.ref (h 0), .int (nI d)] x (fun u => u = opR x d) := by
  refine Cv.mk (by decide) (Nat.le_of_ble_eq_true rfl) ?_
  intro p e s m below meth c A ls go hw hl
  generalize s.heap = H at hw ⊢
  generalize ([] : List Loc) = locs at hw ⊢
  have hx := go.1
  have hb := go.2.1
  have hl : lv_has ls 2 [(0, .ref (h 0)), (1, .int (nI d))] := hl
  refine lv_aload_n hx hb dX4_opens_0 rfl (lv_at hl 0 rfl) ?_
  refine gM (k := 4) (v := .ref (h 5)) rfl (by decide) rfl go hw dX4_opens_1 q594 ?_
  refine lv_iload_n hx hb dX4_opens_4 rfl (lv_at hl 1 rfl) ?_
  refine lv_iconst (v := 1) hx hb dX4_opens_5 (by decide) ?_
  refine sM (k := 4) (j := d) rfl (by decide) (by exact hd) go hw dX4_opens_6 (fun H locs hw => ?_)
  refine lv_aload_n hx hb dX4_opens_7 rfl (lv_at hl 0 rfl) ?_
  refine gM (k := 8) (v := .ref (h 9)) rfl (by decide) rfl go hw dX4_opens_8 q598 ?_
  refine lv_iload_n hx hb dX4_opens_11 rfl (lv_at hl 1 rfl) ?_
  refine lv_iconst (v := 0) hx hb dX4_opens_12 (by decide) ?_
  refine sMz (j := d) rfl (by exact hd) go hw dX4_opens_13 (fun H locs hw => ?_)
  rw [show rA (qA x 4 (upd (rA x 4) d 1)) 8 = rA x 8 from ((rA_ne (by decide)).trans rfl)] at hw
  refine lv_aload_n hx hb dX4_opens_14 rfl (lv_at hl 0 rfl) ?_
  refine gM (k := 9) (v := .ref (h 10)) rfl (by decide) rfl go hw dX4_opens_15 q599 ?_
  refine lv_iload_n hx hb dX4_opens_18 rfl (lv_at hl 1 rfl) ?_
  refine lv_iconst (v := 0) hx hb dX4_opens_19 (by decide) ?_
  refine sM (k := 9) (j := d) rfl (by decide) (by exact hd) go hw dX4_opens_20 (fun H locs hw => ?_)
  rw [show rA (qA (qA x 4 (upd (rA x 4) d 1)) 8 (upd (rA x 8) d 0)) 9 = rA x 9 from ((rA_ne (by decide)).trans ((rA_ne (by decide)).trans rfl))] at hw
  refine lv_aload_n hx hb dX4_opens_21 rfl (lv_at hl 0 rfl) ?_
  refine gM (k := 10) (v := .ref (h 11)) rfl (by decide) rfl go hw dX4_opens_22 q600 ?_
  refine lv_iload_n hx hb dX4_opens_25 rfl (lv_at hl 1 rfl) ?_
  refine lv_iconst (v := 0) hx hb dX4_opens_26 (by decide) ?_
  refine sM (k := 10) (j := d) rfl (by decide) (by exact hd) go hw dX4_opens_27 (fun H locs hw => ?_)
  rw [show rA (qA (qA (qA x 4 (upd (rA x 4) d 1)) 8 (upd (rA x 8) d 0)) 9 (upd (rA x 9) d 0)) 10 = rA x 10 from ((rA_ne (by decide)).trans ((rA_ne (by decide)).trans ((rA_ne (by decide)).trans rfl)))] at hw
  refine lv_aload_n hx hb dX4_opens_28 rfl (lv_at hl 0 rfl) ?_
  refine gM (k := 5) (v := .ref (h 6)) rfl (by decide) rfl go hw dX4_opens_29 q595 ?_
  refine lv_iload_n hx hb dX4_opens_32 rfl (lv_at hl 1 rfl) ?_
  refine lv_aload_n hx hb dX4_opens_33 rfl (lv_at hl 0 rfl) ?_
  refine gMi (k := 2) (v := rI x 2) (by decide) ((rI_qA _ _ _ _).trans ((rI_qA _ _ _ _).trans ((rI_qA _ _ _ _).trans ((rI_qA _ _ _ _).trans rfl)))) go hw dX4_opens_34 q592 ?_
  refine sM (k := 5) (j := d) rfl (by decide) (by exact hd) go hw dX4_opens_37 (fun H locs hw => ?_)
  rw [show rA (qA (qA (qA (qA x 4 (upd (rA x 4) d 1)) 8 (upd (rA x 8) d 0)) 9 (upd (rA x 9) d 0)) 10 (upd (rA x 10) d 0)) 5 = rA x 5 from ((rA_ne (by decide)).trans ((rA_ne (by decide)).trans ((rA_ne (by decide)).trans ((rA_ne (by decide)).trans rfl))))] at hw
  refine ret_v (wf := rw' G h) go hw dX4_opens_38 ?_
  rfl

set_option maxHeartbeats 4000000 in
set_option maxRecDepth 100000 in
theorem kX4_inState (l : Launch) (G : Cx) (h : Nat → Nat) (x : Rg) (st : Int32) : Ci l G yX4_inState cX4_inState 4 .int (Rm 0 0) (rw' G h) [.ref (h 0), .int st] x (fun r u => r = nI (inS x st) ∧ u = x) := by
  refine Ci.mk (by decide) (Nat.le_of_ble_eq_true rfl) ?_
  intro p e s m below meth c A ls go hw hl
  generalize s.heap = H at hw ⊢
  generalize ([] : List Loc) = locs at hw ⊢
  have hx := go.1
  have hb := go.2.1
  have hl : lv_has ls 4 [(0, .ref (h 0)), (1, .int st)] := hl
  refine lv_iconst (v := 0) hx hb dX4_inState_0 (by decide) ?_
  refine lv_istore_n (lv' := [(2, .int 0), (0, .ref (h 0)), (1, .int st)]) hx hb dX4_inState_1 rfl hl (by decide) rfl (fun ls hl => ?_)
  refine lv_iconst (v := 0) hx hb dX4_inState_2 (by decide) ?_
  refine lv_istore_n (lv' := [(3, .int 0), (2, .int 0), (0, .ref (h 0)), (1, .int st)]) hx hb dX4_inState_3 rfl hl (by decide) rfl (fun ls hl => ?_)
  have hl0 : lv_has ls 4 [(0, .ref (h 0)), (1, .int st), (2, .int (nI (cntB (fun d => decide (rA x 4 d = st)) 0))), (3, .int (nI 0))] := lv_to (lv_sub (l' := [(0, .ref (h 0)), (1, .int st), (2, .int 0), (3, .int 0)]) hl [2, 3, 1, 0] rfl) (lr (lr (lc (show (0 : Int32) = nI (cntB (fun d => decide (rA x 4 d = st)) 0) from rfl) (lc (show (0 : Int32) = nI 0 from rfl) rfl))))
  refine loop_up (N := 6) (P := fun i H locs ls => Wd G A s H locs (rw' G h x) ∧ lv_has ls 4 [(0, .ref (h 0)), (1, .int st), (2, .int (nI (cntB (fun d => decide (rA x 4 d = st)) i))), (3, .int (nI i))]) (X := fun H locs ls => W p l e (Rm 0 0) s m ([.ref (h 0), .int st] : List Value).toArray below meth c H locs 0 0 (MQ below (va_Qi (fun r u => r = nI (inS x st) ∧ u = x) (PostW G (rw' G h) A) A) ([.ref (h 0), .int st] : List Value).toArray s (Rm 0 0).cells (Rm 0 0).slots A) (F0 m 4 ls [])) ?_ 0 (by omega) H locs ls ⟨hw, hl0⟩
  clear hl0 hl hw
  intro i hi ih H locs ls hP
  obtain ⟨hw, hl⟩ := hP
  refine lv_iload_n hx hb dX4_inState_4 rfl (lv_at hl 3 rfl) ?_
  refine lv_bipush (v := 6) hx hb dX4_inState_5 (by decide) ?_
  refine lv_icmp_ge (tgt := 34) hx hb dX4_inState_7 (by decide) (fun h7 => ?_) (fun h7 => ?_)
  · skip
    have hE : i = 6 := lp_end h7 rfl rfl hi (by decide)
    subst hE
    refine lv_iload_n hx hb dX4_inState_34 rfl (lv_at hl 2 rfl) ?_
    refine ret_i (wf := rw' G h) go hw dX4_inState_35 ?_
    exact ⟨rfl, rfl⟩
  · skip
    have hlt : i < 6 := lp_in h7 rfl rfl hi (by decide)
    refine lv_iload_n hx hb dX4_inState_10 rfl (lv_at hl 2 rfl) ?_
    refine lv_aload_n hx hb dX4_inState_11 rfl (lv_at hl 0 rfl) ?_
    refine gM (k := 4) (v := .ref (h 5)) rfl (by decide) rfl go hw dX4_inState_12 q594 ?_
    refine lv_iload_n hx hb dX4_inState_15 rfl (lv_at hl 3 rfl) ?_
    refine aM (k := 4) (j := i) rfl (by decide) (by exact hlt) go hw dX4_inState_16 ?_
    refine lv_iload_n hx hb dX4_inState_17 rfl (lv_at hl 1 rfl) ?_
    refine lv_icmp_ne (tgt := 25) hx hb dX4_inState_18 (by decide) (fun h18 => ?_) (fun h18 => ?_)
    · skip
      refine lv_iconst (v := 0) hx hb dX4_inState_25 (by decide) ?_
      refine lv_iadd hx hb dX4_inState_26 ?_
      refine lv_istore_n (lv' := [(2, .int ((nI (cntB (fun d => decide (rA x 4 d = st)) i)) + 0)), (0, .ref (h 0)), (1, .int st), (3, .int (nI i))]) hx hb dX4_inState_27 rfl hl (by decide) rfl (fun ls hl => ?_)
      refine lv_iinc (v := nI (i + 1)) (lv' := [(3, .int (nI (i + 1))), (2, .int ((nI (cntB (fun d => decide (rA x 4 d = st)) i)) + 0)), (0, .ref (h 0)), (1, .int st)]) hx hb dX4_inState_28 hl (k := 3) rfl (nI_1 _) (by decide) rfl (fun ls hl => ?_)
      refine lv_goto (tgt := 4) hx hb dX4_inState_31 (by decide) ?_
      have hl9 : lv_has ls 4 [(0, .ref (h 0)), (1, .int st), (2, .int (nI (cntB (fun d => decide (rA x 4 d = st)) (i + 1)))), (3, .int (nI (i + 1)))] := lv_to (lv_sub (l' := [(0, .ref (h 0)), (1, .int st), (2, .int ((nI (cntB (fun d => decide (rA x 4 d = st)) i)) + 0)), (3, .int (nI (i + 1)))]) hl [2, 3, 1, 0] rfl) (lr (lr (lc (show ((nI (cntB (fun d => decide (rA x 4 d = st)) i)) + 0 : Int32) = nI (cntB (fun d => decide (rA x 4 d = st)) (i + 1)) from by first | exact cntB_t (decide_eq_true h18) | (rw [add0]; exact cntB_f (decide_eq_false h18))) (lr rfl))))
      exact ih _ _ _ (by omega) ⟨hw, hl9⟩
    · skip
      refine lv_iconst (v := 1) hx hb dX4_inState_21 (by decide) ?_
      refine lv_goto (tgt := 26) hx hb dX4_inState_22 (by decide) ?_
      refine lv_iadd hx hb dX4_inState_26 ?_
      refine lv_istore_n (lv' := [(2, .int ((nI (cntB (fun d => decide (rA x 4 d = st)) i)) + 1)), (0, .ref (h 0)), (1, .int st), (3, .int (nI i))]) hx hb dX4_inState_27 rfl hl (by decide) rfl (fun ls hl => ?_)
      refine lv_iinc (v := nI (i + 1)) (lv' := [(3, .int (nI (i + 1))), (2, .int ((nI (cntB (fun d => decide (rA x 4 d = st)) i)) + 1)), (0, .ref (h 0)), (1, .int st)]) hx hb dX4_inState_28 hl (k := 3) rfl (nI_1 _) (by decide) rfl (fun ls hl => ?_)
      refine lv_goto (tgt := 4) hx hb dX4_inState_31 (by decide) ?_
      have hl9 : lv_has ls 4 [(0, .ref (h 0)), (1, .int st), (2, .int (nI (cntB (fun d => decide (rA x 4 d = st)) (i + 1)))), (3, .int (nI (i + 1)))] := lv_to (lv_sub (l' := [(0, .ref (h 0)), (1, .int st), (2, .int ((nI (cntB (fun d => decide (rA x 4 d = st)) i)) + 1)), (3, .int (nI (i + 1)))]) hl [2, 3, 1, 0] rfl) (lr (lr (lc (show ((nI (cntB (fun d => decide (rA x 4 d = st)) i)) + 1 : Int32) = nI (cntB (fun d => decide (rA x 4 d = st)) (i + 1)) from by first | exact cntB_t (decide_eq_true h18) | (rw [add0]; exact cntB_f (decide_eq_false h18))) (lr rfl))))
      exact ih _ _ _ (by omega) ⟨hw, hl9⟩

set_option maxHeartbeats 4000000 in
set_option maxRecDepth 100000 in
theorem kX4_puts (l : Launch) (G : Cx) (h : Nat → Nat) (x : Rg) (i : Nat) (hi : i < 8) (v : Int32) : Cv l G yX4_puts cX4_puts 3 (Rm 0 0) (rw' G h) [.ref (h 0), .int (nI i), .int v] x (fun u => u = puR x i v) := by
  refine Cv.mk (by decide) (Nat.le_of_ble_eq_true rfl) ?_
  intro p e s m below meth c A ls go hw hl
  generalize s.heap = H at hw ⊢
  generalize ([] : List Loc) = locs at hw ⊢
  have hx := go.1
  have hb := go.2.1
  have hl : lv_has ls 3 [(0, .ref (h 0)), (1, .int (nI i)), (2, .int v)] := hl
  refine lv_aload_n hx hb dX4_puts_0 rfl (lv_at hl 0 rfl) ?_
  refine gM (k := 0) (v := .ref (h 1)) rfl (by decide) rfl go hw dX4_puts_1 q590 ?_
  refine lv_iload_n hx hb dX4_puts_4 rfl (lv_at hl 1 rfl) ?_
  refine lv_iload_n hx hb dX4_puts_5 rfl (lv_at hl 2 rfl) ?_
  refine sM (k := 0) (j := i) rfl (by decide) (by exact hi) go hw dX4_puts_6 (fun H locs hw => ?_)
  refine lv_aload_n hx hb dX4_puts_7 rfl (lv_at hl 0 rfl) ?_
  refine gM (k := 1) (v := .ref (h 2)) rfl (by decide) rfl go hw dX4_puts_8 q591 ?_
  refine lv_iload_n hx hb dX4_puts_11 rfl (lv_at hl 1 rfl) ?_
  refine lv_aload_n hx hb dX4_puts_12 rfl (lv_at hl 0 rfl) ?_
  refine gMi (k := 2) (v := rI x 2) (by decide) ((rI_qA _ _ _ _).trans rfl) go hw dX4_puts_13 q592 ?_
  refine sM (k := 1) (j := i) rfl (by decide) (by exact hi) go hw dX4_puts_16 (fun H locs hw => ?_)
  rw [show rA (qA x 0 (upd (rA x 0) i v)) 1 = rA x 1 from ((rA_ne (by decide)).trans rfl)] at hw
  refine ret_v (wf := rw' G h) go hw dX4_puts_17 ?_
  rfl

set_option maxHeartbeats 4000000 in
set_option maxRecDepth 100000 in
theorem kX4_allAnew (l : Launch) (G : Cx) (h : Nat → Nat) (x : Rg) : Cv l G yX4_allAnew cX4_allAnew 2 (Rm 1 22) (rw' G h) [.ref (h 0)] x (fun u => u = anR x) := by
  refine Cv.mk (by decide) (Nat.le_of_ble_eq_true rfl) ?_
  intro p e s m below meth c A ls go hw hl
  generalize s.heap = H at hw ⊢
  generalize ([] : List Loc) = locs at hw ⊢
  have hx := go.1
  have hb := go.2.1
  have hl : lv_has ls 2 [(0, .ref (h 0))] := hl
  refine lv_iconst (v := 0) hx hb dX4_allAnew_0 (by decide) ?_
  refine lv_istore_n (lv' := [(1, .int 0), (0, .ref (h 0))]) hx hb dX4_allAnew_1 rfl hl (by decide) rfl (fun ls hl => ?_)
  rw [show x = qA (qA x 0 (cpZ (rA x 0) 0)) 1 (cpZ (rA x 1) 0) from by rw [cpZ_0, cpZ_0]; exact ((congrArg (fun z => qA z 1 (rA x 1)) (qA_self x 0)).trans (qA_self x 1)).symm] at hw
  have hl0 : lv_has ls 2 [(0, .ref (h 0)), (1, .int (nI 0))] := lv_to (lv_sub (l' := [(0, .ref (h 0)), (1, .int 0)]) hl [1, 0] rfl) (lr (lc (show (0 : Int32) = nI 0 from rfl) rfl))
  refine loop_up (N := 8) (P := fun i H locs ls => Wd G A s H locs (rw' G h (qA (qA x 0 (cpZ (rA x 0) i)) 1 (cpZ (rA x 1) i))) ∧ lv_has ls 2 [(0, .ref (h 0)), (1, .int (nI i))]) (X := fun H locs ls => W p l e (Rm 1 22) s m ([.ref (h 0)] : List Value).toArray below meth c H locs 0 0 (MQ below (va_Qv (fun u => u = anR x) (PostW G (rw' G h) A) A) ([.ref (h 0)] : List Value).toArray s (Rm 1 22).cells (Rm 1 22).slots A) (F0 m 2 ls [])) ?_ 0 (by omega) H locs ls ⟨hw, hl0⟩
  clear hl0 hl hw
  intro i hi ih H locs ls hP
  obtain ⟨hw, hl⟩ := hP
  refine lv_iload_n hx hb dX4_allAnew_2 rfl (lv_at hl 1 rfl) ?_
  refine lv_bipush (v := 8) hx hb dX4_allAnew_3 (by decide) ?_
  refine lv_icmp_ge (tgt := 28) hx hb dX4_allAnew_5 (by decide) (fun h5 => ?_) (fun h5 => ?_)
  · skip
    have hE : i = 8 := lp_end h5 rfl rfl hi (by decide)
    subst hE
    refine lv_iconst (v := 0) hx hb dX4_allAnew_28 (by decide) ?_
    refine lv_istore_n (lv' := [(1, .int 0), (0, .ref (h 0))]) hx hb dX4_allAnew_29 rfl hl (by decide) rfl (fun ls hl => ?_)
    rw [show qA (qA x 0 (cpZ (rA x 0) 8)) 1 (cpZ (rA x 1) 8) = foR (fun y d => frR y d false) (qA (qA x 0 (cpZ (rA x 0) 8)) 1 (cpZ (rA x 1) 8)) 0 from by rfl] at hw
    have hl0 : lv_has ls 2 [(0, .ref (h 0)), (1, .int (nI 0))] := lv_to (lv_sub (l' := [(0, .ref (h 0)), (1, .int 0)]) hl [1, 0] rfl) (lr (lc (show (0 : Int32) = nI 0 from rfl) rfl))
    refine loop_up (N := 6) (P := fun i H locs ls => Wd G A s H locs (rw' G h (foR (fun y d => frR y d false) (qA (qA x 0 (cpZ (rA x 0) 8)) 1 (cpZ (rA x 1) 8)) i)) ∧ lv_has ls 2 [(0, .ref (h 0)), (1, .int (nI i))]) (X := fun H locs ls => W p l e (Rm 1 22) s m ([.ref (h 0)] : List Value).toArray below meth c H locs 0 0 (MQ below (va_Qv (fun u => u = anR x) (PostW G (rw' G h) A) A) ([.ref (h 0)] : List Value).toArray s (Rm 1 22).cells (Rm 1 22).slots A) (F0 m 30 ls [])) ?_ 0 (by omega) H locs ls ⟨hw, hl0⟩
    clear hl0 hl hw
    intro i hi ih H locs ls hP
    obtain ⟨hw, hl⟩ := hP
    refine lv_iload_n hx hb dX4_allAnew_30 rfl (lv_at hl 1 rfl) ?_
    refine lv_bipush (v := 6) hx hb dX4_allAnew_31 (by decide) ?_
    refine lv_icmp_ge (tgt := 48) hx hb dX4_allAnew_33 (by decide) (fun h33 => ?_) (fun h33 => ?_)
    · skip
      have hE : i = 6 := lp_end h33 rfl rfl hi (by decide)
      subst hE
      refine lv_aload_n hx hb dX4_allAnew_48 rfl (lv_at hl 0 rfl) ?_
      refine lv_iconst (v := 0) hx hb dX4_allAnew_49 (by decide) ?_
      refine pM (k := 2) rfl go hw dX4_allAnew_50 q592 (fun H locs hw => ?_)
      refine lv_aload_n hx hb dX4_allAnew_53 rfl (lv_at hl 0 rfl) ?_
      refine lv_iconst (v := 3) hx hb dX4_allAnew_54 (by decide) ?_
      refine pM (k := 16) rfl go hw dX4_allAnew_55 q606 (fun H locs hw => ?_)
      refine lv_aload_n hx hb dX4_allAnew_58 rfl (lv_at hl 0 rfl) ?_
      refine lv_iconst (v := 0) hx hb dX4_allAnew_59 (by decide) ?_
      refine pM (k := 17) rfl go hw dX4_allAnew_60 q607 (fun H locs hw => ?_)
      refine lv_aload_n hx hb dX4_allAnew_63 rfl (lv_at hl 0 rfl) ?_
      refine lv_iconst (v := 0) hx hb dX4_allAnew_64 (by decide) ?_
      refine pM (k := 18) rfl go hw dX4_allAnew_65 q608 (fun H locs hw => ?_)
      refine lv_aload_n hx hb dX4_allAnew_68 rfl (lv_at hl 0 rfl) ?_
      refine lv_iconst (v := 0) hx hb dX4_allAnew_69 (by decide) ?_
      refine pM (k := 19) rfl go hw dX4_allAnew_70 q609 (fun H locs hw => ?_)
      refine lv_aload_n hx hb dX4_allAnew_73 rfl (lv_at hl 0 rfl) ?_
      refine lv_iconst (v := 0) hx hb dX4_allAnew_74 (by decide) ?_
      refine pM (k := 20) rfl go hw dX4_allAnew_75 q610 (fun H locs hw => ?_)
      refine lv_aload_n hx hb dX4_allAnew_78 rfl (lv_at hl 0 rfl) ?_
      refine lv_iconst (v := 0) hx hb dX4_allAnew_79 (by decide) ?_
      refine pM (k := 21) rfl go hw dX4_allAnew_80 q611 (fun H locs hw => ?_)
      refine ret_v (wf := rw' G h) go hw dX4_allAnew_83 ?_
      rfl
    · skip
      have hlt : i < 6 := lp_in h33 rfl rfl hi (by decide)
      refine lv_aload_n hx hb dX4_allAnew_36 rfl (lv_at hl 0 rfl) ?_
      refine lv_iload_n hx hb dX4_allAnew_37 rfl (lv_at hl 1 rfl) ?_
      refine lv_iconst (v := 0) hx hb dX4_allAnew_38 (by decide) ?_
      refine cal_Vv' (kX4_frees l G h (foR (fun y d => frR y d false) (qA (qA x 0 (cpZ (rA x 0) 8)) 1 (cpZ (rA x 1) 8)) i) i (by omega) false) go hw dX4_allAnew_39 (And.intro q740 (And.intro q4 q743)) q742 qs30 kyX4_frees ⟨Nat.le_of_ble_eq_true rfl, Nat.le_of_ble_eq_true rfl⟩ rc_M hl.1 rfl (Nat.le_of_ble_eq_true rfl) ⟨rfl, rfl⟩ ⟨Nat.le_of_ble_eq_true rfl, Nat.le_of_ble_eq_true rfl⟩ (fun H locs hw => ?_)
      refine lv_iinc (v := nI (i + 1)) (lv' := [(1, .int (nI (i + 1))), (0, .ref (h 0))]) hx hb dX4_allAnew_42 hl (k := 1) rfl (nI_1 _) (by decide) rfl (fun ls hl => ?_)
      refine lv_goto (tgt := 30) hx hb dX4_allAnew_45 (by decide) ?_
      have hl9 : lv_has ls 2 [(0, .ref (h 0)), (1, .int (nI (i + 1)))] := lv_sub hl [1, 0] rfl
      rw [show frR (foR (fun y d => frR y d false) (qA (qA x 0 (cpZ (rA x 0) 8)) 1 (cpZ (rA x 1) 8)) i) i false = foR (fun y d => frR y d false) (qA (qA x 0 (cpZ (rA x 0) 8)) 1 (cpZ (rA x 1) 8)) (i + 1) from by rfl] at hw
      exact ih _ _ _ (by omega) ⟨hw, hl9⟩
  · skip
    have hlt : i < 8 := lp_in h5 rfl rfl hi (by decide)
    refine lv_aload_n hx hb dX4_allAnew_8 rfl (lv_at hl 0 rfl) ?_
    refine gM (k := 0) (v := .ref (h 1)) rfl (by decide) rfl go hw dX4_allAnew_9 q590 ?_
    refine lv_iload_n hx hb dX4_allAnew_12 rfl (lv_at hl 1 rfl) ?_
    refine lv_iconst (v := 0) hx hb dX4_allAnew_13 (by decide) ?_
    refine sM (k := 0) (j := i) rfl (by decide) (by exact hlt) go hw dX4_allAnew_14 (fun H locs hw => ?_)
    rw [show rA (qA (qA x 0 (cpZ (rA x 0) i)) 1 (cpZ (rA x 1) i)) 0 = cpZ (rA x 0) i from ((rA_ne (by decide)).trans rA_eq)] at hw
    refine lv_aload_n hx hb dX4_allAnew_15 rfl (lv_at hl 0 rfl) ?_
    refine gM (k := 1) (v := .ref (h 2)) rfl (by decide) rfl go hw dX4_allAnew_16 q591 ?_
    refine lv_iload_n hx hb dX4_allAnew_19 rfl (lv_at hl 1 rfl) ?_
    refine lv_iconst (v := 0) hx hb dX4_allAnew_20 (by decide) ?_
    refine sM (k := 1) (j := i) rfl (by decide) (by exact hlt) go hw dX4_allAnew_21 (fun H locs hw => ?_)
    rw [show rA (qA (qA (qA x 0 (cpZ (rA x 0) i)) 1 (cpZ (rA x 1) i)) 0 (upd (cpZ (rA x 0) i) i 0)) 1 = cpZ (rA x 1) i from ((rA_ne (by decide)).trans rA_eq)] at hw
    refine lv_iinc (v := nI (i + 1)) (lv' := [(1, .int (nI (i + 1))), (0, .ref (h 0))]) hx hb dX4_allAnew_22 hl (k := 1) rfl (nI_1 _) (by decide) rfl (fun ls hl => ?_)
    refine lv_goto (tgt := 2) hx hb dX4_allAnew_25 (by decide) ?_
    have hl9 : lv_has ls 2 [(0, .ref (h 0)), (1, .int (nI (i + 1)))] := lv_sub hl [1, 0] rfl
    rw [show qA (qA (qA (qA x 0 (cpZ (rA x 0) i)) 1 (cpZ (rA x 1) i)) 0 (upd (cpZ (rA x 0) i) i 0)) 1 (upd (cpZ (rA x 1) i) i 0) = qA (qA x 0 (cpZ (rA x 0) (i + 1))) 1 (cpZ (rA x 1) (i + 1)) from by rw [qA_over2, cpZ_s, cpZ_s]] at hw
    exact ih _ _ _ (by omega) ⟨hw, hl9⟩

set_option maxHeartbeats 4000000 in
set_option maxRecDepth 100000 in
theorem kX4_stale (l : Launch) (G : Cx) (h : Nat → Nat) (x : Rg) (d : Nat) (hd : d < 6) : Ci l G yX4_stale cX4_stale 4 .int (Rm 1 21) (rw' G h) [.ref (h 0), .int (nI d)] x (fun r u => r = slR x d ∧ u = x) := by
  refine Ci.mk (by decide) (Nat.le_of_ble_eq_true rfl) ?_
  intro p e s m below meth c A ls go hw hl
  generalize s.heap = H at hw ⊢
  generalize ([] : List Loc) = locs at hw ⊢
  have hx := go.1
  have hb := go.2.1
  have hl : lv_has ls 4 [(0, .ref (h 0)), (1, .int (nI d))] := hl
  refine lv_iconst (v := 0) hx hb dX4_stale_0 (by decide) ?_
  refine lv_istore_n (lv' := [(2, .int 0), (0, .ref (h 0)), (1, .int (nI d))]) hx hb dX4_stale_1 rfl hl (by decide) rfl (fun ls hl => ?_)
  refine lv_iconst (v := 0) hx hb dX4_stale_2 (by decide) ?_
  refine lv_istore_n (lv' := [(3, .int 0), (2, .int 0), (0, .ref (h 0)), (1, .int (nI d))]) hx hb dX4_stale_3 rfl hl (by decide) rfl (fun ls hl => ?_)
  have hl0 : lv_has ls 4 [(0, .ref (h 0)), (1, .int (nI d)), (2, .int (orB (fun i => hasB (rA x 9 d) (nI i) && !decide (rA x 1 i = rA x 12 (8 * d + i))) 0)), (3, .int (nI 0))] := lv_to (lv_sub (l' := [(0, .ref (h 0)), (1, .int (nI d)), (2, .int 0), (3, .int 0)]) hl [2, 3, 1, 0] rfl) (lr (lr (lc (show (0 : Int32) = orB (fun i => hasB (rA x 9 d) (nI i) && !decide (rA x 1 i = rA x 12 (8 * d + i))) 0 from rfl) (lc (show (0 : Int32) = nI 0 from rfl) rfl))))
  refine loop_up (N := 8) (P := fun i H locs ls => Wd G A s H locs (rw' G h x) ∧ lv_has ls 4 [(0, .ref (h 0)), (1, .int (nI d)), (2, .int (orB (fun i => hasB (rA x 9 d) (nI i) && !decide (rA x 1 i = rA x 12 (8 * d + i))) i)), (3, .int (nI i))]) (X := fun H locs ls => W p l e (Rm 1 21) s m ([.ref (h 0), .int (nI d)] : List Value).toArray below meth c H locs 0 0 (MQ below (va_Qi (fun r u => r = slR x d ∧ u = x) (PostW G (rw' G h) A) A) ([.ref (h 0), .int (nI d)] : List Value).toArray s (Rm 1 21).cells (Rm 1 21).slots A) (F0 m 4 ls [])) ?_ 0 (by omega) H locs ls ⟨hw, hl0⟩
  clear hl0 hl hw
  intro i hi ih H locs ls hP
  obtain ⟨hw, hl⟩ := hP
  refine lv_iload_n hx hb dX4_stale_4 rfl (lv_at hl 3 rfl) ?_
  refine lv_bipush (v := 8) hx hb dX4_stale_5 (by decide) ?_
  refine lv_icmp_ge (tgt := 59) hx hb dX4_stale_7 (by decide) (fun h7 => ?_) (fun h7 => ?_)
  · skip
    have hE : i = 8 := lp_end h7 rfl rfl hi (by decide)
    subst hE
    refine lv_iload_n hx hb dX4_stale_59 rfl (lv_at hl 2 rfl) ?_
    refine ret_i (wf := rw' G h) go hw dX4_stale_60 ?_
    exact ⟨rfl, rfl⟩
  · skip
    have hlt : i < 8 := lp_in h7 rfl rfl hi (by decide)
    refine lv_iload_n hx hb dX4_stale_10 rfl (lv_at hl 2 rfl) ?_
    refine lv_aload_n hx hb dX4_stale_11 rfl (lv_at hl 0 rfl) ?_
    refine gM (k := 9) (v := .ref (h 10)) rfl (by decide) rfl go hw dX4_stale_12 q599 ?_
    refine lv_iload_n hx hb dX4_stale_15 rfl (lv_at hl 1 rfl) ?_
    refine aM (k := 9) (j := d) rfl (by decide) (by exact hd) go hw dX4_stale_16 ?_
    refine lv_iload_n hx hb dX4_stale_17 rfl (lv_at hl 3 rfl) ?_
    refine cal_S (kX4_has l G (rA x 9 d) i (by omega)) go hw.2.2.1 hw.2.2.2.1 dX4_stale_18 (And.intro q761 (And.intro q4 q763)) q762 kyX4_has ⟨rfl, rfl⟩ ⟨Nat.le_of_ble_eq_true rfl, Nat.le_of_ble_eq_true rfl⟩ hl.1 rfl (Nat.le_of_ble_eq_true rfl) ⟨Nat.le_of_ble_eq_true rfl, Nat.le_of_ble_eq_true rfl⟩ ?_
    refine lv_if_eq (tgt := 50) hx hb dX4_stale_21 (by decide) (fun h21 => ?_) (fun h21 => ?_)
    · skip
      have h21 := bI_0 h21
      refine lv_iconst (v := 0) hx hb dX4_stale_50 (by decide) ?_
      refine lv_ior hx hb dX4_stale_51 ?_
      refine lv_istore_n (lv' := [(2, .int ((orB (fun i => hasB (rA x 9 d) (nI i) && !decide (rA x 1 i = rA x 12 (8 * d + i))) i) ||| 0)), (0, .ref (h 0)), (1, .int (nI d)), (3, .int (nI i))]) hx hb dX4_stale_52 rfl hl (by decide) rfl (fun ls hl => ?_)
      refine lv_iinc (v := nI (i + 1)) (lv' := [(3, .int (nI (i + 1))), (2, .int ((orB (fun i => hasB (rA x 9 d) (nI i) && !decide (rA x 1 i = rA x 12 (8 * d + i))) i) ||| 0)), (0, .ref (h 0)), (1, .int (nI d))]) hx hb dX4_stale_53 hl (k := 3) rfl (nI_1 _) (by decide) rfl (fun ls hl => ?_)
      refine lv_goto (tgt := 4) hx hb dX4_stale_56 (by decide) ?_
      have hl9 : lv_has ls 4 [(0, .ref (h 0)), (1, .int (nI d)), (2, .int (orB (fun i => hasB (rA x 9 d) (nI i) && !decide (rA x 1 i = rA x 12 (8 * d + i))) (i + 1))), (3, .int (nI (i + 1)))] := lv_to (lv_sub (l' := [(0, .ref (h 0)), (1, .int (nI d)), (2, .int ((orB (fun i => hasB (rA x 9 d) (nI i) && !decide (rA x 1 i = rA x 12 (8 * d + i))) i) ||| 0)), (3, .int (nI (i + 1)))]) hl [2, 3, 1, 0] rfl) (lr (lr (lc (show ((orB (fun i => hasB (rA x 9 d) (nI i) && !decide (rA x 1 i = rA x 12 (8 * d + i))) i) ||| 0 : Int32) = orB (fun i => hasB (rA x 9 d) (nI i) && !decide (rA x 1 i = rA x 12 (8 * d + i))) (i + 1) from by first | exact orB_t (by simp [*]) | (rw [or0]; exact orB_f (by simp [*]))) (lr rfl))))
      exact ih _ _ _ (by omega) ⟨hw, hl9⟩
    · skip
      have h21 := bI_1 h21
      refine lv_aload_n hx hb dX4_stale_24 rfl (lv_at hl 0 rfl) ?_
      refine gM (k := 1) (v := .ref (h 2)) rfl (by decide) rfl go hw dX4_stale_25 q591 ?_
      refine lv_iload_n hx hb dX4_stale_28 rfl (lv_at hl 3 rfl) ?_
      refine aM (k := 1) (j := i) rfl (by decide) (by exact hlt) go hw dX4_stale_29 ?_
      refine lv_aload_n hx hb dX4_stale_30 rfl (lv_at hl 0 rfl) ?_
      refine gM (k := 12) (v := .ref (h 13)) rfl (by decide) rfl go hw dX4_stale_31 q602 ?_
      refine lv_bipush (v := 8) hx hb dX4_stale_34 (by decide) ?_
      refine lv_iload_n hx hb dX4_stale_36 rfl (lv_at hl 1 rfl) ?_
      refine lv_imul hx hb dX4_stale_37 ?_
      refine lv_iload_n hx hb dX4_stale_38 rfl (lv_at hl 3 rfl) ?_
      refine lv_iadd hx hb dX4_stale_39 ?_
      refine toI (show ((8 * (nI d)) + (nI i) : Int32) = nI (8 * d + i) from by rw [show (8 : Int32) = nI 8 from rfl, pk_mul, nI_add]) ?_
      refine aM (k := 12) (j := (8 * d + i)) rfl (by decide) (by show 8 * d + i < 48; omega) go hw dX4_stale_40 ?_
      refine lv_icmp_eq (tgt := 50) hx hb dX4_stale_41 (by decide) (fun h41 => ?_) (fun h41 => ?_)
      · skip
        refine lv_iconst (v := 0) hx hb dX4_stale_50 (by decide) ?_
        refine lv_ior hx hb dX4_stale_51 ?_
        refine lv_istore_n (lv' := [(2, .int ((orB (fun i => hasB (rA x 9 d) (nI i) && !decide (rA x 1 i = rA x 12 (8 * d + i))) i) ||| 0)), (0, .ref (h 0)), (1, .int (nI d)), (3, .int (nI i))]) hx hb dX4_stale_52 rfl hl (by decide) rfl (fun ls hl => ?_)
        refine lv_iinc (v := nI (i + 1)) (lv' := [(3, .int (nI (i + 1))), (2, .int ((orB (fun i => hasB (rA x 9 d) (nI i) && !decide (rA x 1 i = rA x 12 (8 * d + i))) i) ||| 0)), (0, .ref (h 0)), (1, .int (nI d))]) hx hb dX4_stale_53 hl (k := 3) rfl (nI_1 _) (by decide) rfl (fun ls hl => ?_)
        refine lv_goto (tgt := 4) hx hb dX4_stale_56 (by decide) ?_
        have hl9 : lv_has ls 4 [(0, .ref (h 0)), (1, .int (nI d)), (2, .int (orB (fun i => hasB (rA x 9 d) (nI i) && !decide (rA x 1 i = rA x 12 (8 * d + i))) (i + 1))), (3, .int (nI (i + 1)))] := lv_to (lv_sub (l' := [(0, .ref (h 0)), (1, .int (nI d)), (2, .int ((orB (fun i => hasB (rA x 9 d) (nI i) && !decide (rA x 1 i = rA x 12 (8 * d + i))) i) ||| 0)), (3, .int (nI (i + 1)))]) hl [2, 3, 1, 0] rfl) (lr (lr (lc (show ((orB (fun i => hasB (rA x 9 d) (nI i) && !decide (rA x 1 i = rA x 12 (8 * d + i))) i) ||| 0 : Int32) = orB (fun i => hasB (rA x 9 d) (nI i) && !decide (rA x 1 i = rA x 12 (8 * d + i))) (i + 1) from by first | exact orB_t (by simp [*]) | (rw [or0]; exact orB_f (by simp [*]))) (lr rfl))))
        exact ih _ _ _ (by omega) ⟨hw, hl9⟩
      · skip
        refine lv_iconst (v := 1) hx hb dX4_stale_44 (by decide) ?_
        refine lv_iload_n hx hb dX4_stale_45 rfl (lv_at hl 3 rfl) ?_
        refine lv_ishl hx hb dX4_stale_46 ?_
        refine lv_goto (tgt := 51) hx hb dX4_stale_47 (by decide) ?_
        refine lv_ior hx hb dX4_stale_51 ?_
        refine lv_istore_n (lv' := [(2, .int ((orB (fun i => hasB (rA x 9 d) (nI i) && !decide (rA x 1 i = rA x 12 (8 * d + i))) i) ||| (1 <<< ((nI i) &&& 31)))), (0, .ref (h 0)), (1, .int (nI d)), (3, .int (nI i))]) hx hb dX4_stale_52 rfl hl (by decide) rfl (fun ls hl => ?_)
        refine lv_iinc (v := nI (i + 1)) (lv' := [(3, .int (nI (i + 1))), (2, .int ((orB (fun i => hasB (rA x 9 d) (nI i) && !decide (rA x 1 i = rA x 12 (8 * d + i))) i) ||| (1 <<< ((nI i) &&& 31)))), (0, .ref (h 0)), (1, .int (nI d))]) hx hb dX4_stale_53 hl (k := 3) rfl (nI_1 _) (by decide) rfl (fun ls hl => ?_)
        refine lv_goto (tgt := 4) hx hb dX4_stale_56 (by decide) ?_
        have hl9 : lv_has ls 4 [(0, .ref (h 0)), (1, .int (nI d)), (2, .int (orB (fun i => hasB (rA x 9 d) (nI i) && !decide (rA x 1 i = rA x 12 (8 * d + i))) (i + 1))), (3, .int (nI (i + 1)))] := lv_to (lv_sub (l' := [(0, .ref (h 0)), (1, .int (nI d)), (2, .int ((orB (fun i => hasB (rA x 9 d) (nI i) && !decide (rA x 1 i = rA x 12 (8 * d + i))) i) ||| (1 <<< ((nI i) &&& 31)))), (3, .int (nI (i + 1)))]) hl [2, 3, 1, 0] rfl) (lr (lr (lc (show ((orB (fun i => hasB (rA x 9 d) (nI i) && !decide (rA x 1 i = rA x 12 (8 * d + i))) i) ||| (1 <<< ((nI i) &&& 31)) : Int32) = orB (fun i => hasB (rA x 9 d) (nI i) && !decide (rA x 1 i = rA x 12 (8 * d + i))) (i + 1) from by first | exact orB_t (by simp [*]) | (rw [or0]; exact orB_f (by simp [*]))) (lr rfl))))
        exact ih _ _ _ (by omega) ⟨hw, hl9⟩

set_option maxHeartbeats 4000000 in
set_option maxRecDepth 100000 in
theorem kX4_crossed (l : Launch) (G : Cx) (h : Nat → Nat) (x : Rg) (c0 : Nat) (hc : rI x 2 = nI c0) (hc5 : c0 ≤ 575) (d : Nat) (hd : d < 6) (s0 : Nat) (hs : rA x 5 d = nI s0) (hs0 : s0 ≤ c0) : Ci l G yX4_crossed cX4_crossed 4 .int (Rm 0 0) (rw' G h) [.ref (h 0), .int (nI d)] x (fun r u => r = crR x d s0 (c0 - s0) ∧ u = x) := by
  refine Ci.mk (by decide) (Nat.le_of_ble_eq_true rfl) ?_
  intro p e s m below meth c A ls go hw hl
  generalize s.heap = H at hw ⊢
  generalize ([] : List Loc) = locs at hw ⊢
  have hx := go.1
  have hb := go.2.1
  have hl : lv_has ls 4 [(0, .ref (h 0)), (1, .int (nI d))] := hl
  refine lv_iconst (v := 0) hx hb dX4_crossed_0 (by decide) ?_
  refine lv_istore_n (lv' := [(2, .int 0), (0, .ref (h 0)), (1, .int (nI d))]) hx hb dX4_crossed_1 rfl hl (by decide) rfl (fun ls hl => ?_)
  refine lv_aload_n hx hb dX4_crossed_2 rfl (lv_at hl 1 rfl) ?_
  refine gM (k := 5) (v := .ref (h 6)) rfl (by decide) rfl go hw dX4_crossed_3 q595 ?_
  refine lv_iload_n hx hb dX4_crossed_6 rfl (lv_at hl 2 rfl) ?_
  refine aM (k := 5) (j := d) rfl (by decide) (by exact hd) go hw dX4_crossed_7 ?_
  refine toI (show rA x 5 d = nI s0 from by exact hs) ?_
  refine lv_istore_n (lv' := [(3, .int (nI s0)), (2, .int 0), (0, .ref (h 0)), (1, .int (nI d))]) hx hb dX4_crossed_8 rfl hl (by decide) rfl (fun ls hl => ?_)
  have hl0 : lv_has ls 4 [(0, .ref (h 0)), (1, .int (nI d)), (2, .int (foI (fun k a => a ||| (rA x 9 d &&& rA x 3 (22 * (s0 + k) + 4))) 0 (s0 - s0))), (3, .int (nI s0))] := lv_to (lv_sub (l' := [(0, .ref (h 0)), (1, .int (nI d)), (2, .int 0), (3, .int (nI s0))]) hl [2, 3, 1, 0] rfl) (lr (lr (lc (show (0 : Int32) = foI (fun k a => a ||| (rA x 9 d &&& rA x 3 (22 * (s0 + k) + 4))) 0 (s0 - s0) from by rw [Nat.sub_self]; rfl) (lr rfl))))
  refine loop_up (N := c0) (P := fun i H locs ls => Wd G A s H locs (rw' G h x) ∧ lv_has ls 4 [(0, .ref (h 0)), (1, .int (nI d)), (2, .int (foI (fun k a => a ||| (rA x 9 d &&& rA x 3 (22 * (s0 + k) + 4))) 0 (i - s0))), (3, .int (nI i))] ∧ s0 ≤ i) (X := fun H locs ls => W p l e (Rm 0 0) s m ([.ref (h 0), .int (nI d)] : List Value).toArray below meth c H locs 0 0 (MQ below (va_Qi (fun r u => r = crR x d s0 (c0 - s0) ∧ u = x) (PostW G (rw' G h) A) A) ([.ref (h 0), .int (nI d)] : List Value).toArray s (Rm 0 0).cells (Rm 0 0).slots A) (F0 m 9 ls [])) ?_ s0 (by omega) H locs ls ⟨hw, hl0, (Nat.le_refl _)⟩
  clear hl0 hl hw
  intro i hi ih H locs ls hP
  obtain ⟨hw, hl, hE0⟩ := hP
  refine lv_iload_n hx hb dX4_crossed_9 rfl (lv_at hl 3 rfl) ?_
  refine lv_aload_n hx hb dX4_crossed_10 rfl (lv_at hl 0 rfl) ?_
  refine gMi (k := 2) (v := nI c0) (by decide) hc go hw dX4_crossed_11 q592 ?_
  refine lv_icmp_ge (tgt := 44) hx hb dX4_crossed_14 (by decide) (fun h14 => ?_) (fun h14 => ?_)
  · skip
    have hE : i = c0 := lp_end h14 rfl rfl hi (by omega)
    refine lv_iload_n hx hb dX4_crossed_44 rfl (lv_at hl 2 rfl) ?_
    refine ret_i (wf := rw' G h) go hw dX4_crossed_45 ?_
    exact ⟨by rw [crR, ← hE], rfl⟩
  · skip
    have hlt : i < c0 := lp_in h14 rfl rfl hi (by omega)
    refine lv_iload_n hx hb dX4_crossed_17 rfl (lv_at hl 2 rfl) ?_
    refine lv_aload_n hx hb dX4_crossed_18 rfl (lv_at hl 0 rfl) ?_
    refine gM (k := 9) (v := .ref (h 10)) rfl (by decide) rfl go hw dX4_crossed_19 q599 ?_
    refine lv_iload_n hx hb dX4_crossed_22 rfl (lv_at hl 1 rfl) ?_
    refine aM (k := 9) (j := d) rfl (by decide) (by exact hd) go hw dX4_crossed_23 ?_
    refine lv_aload_n hx hb dX4_crossed_24 rfl (lv_at hl 0 rfl) ?_
    refine gM (k := 3) (v := .ref (h 4)) rfl (by decide) rfl go hw dX4_crossed_25 q593 ?_
    refine lv_bipush (v := 22) hx hb dX4_crossed_28 (by decide) ?_
    refine lv_iload_n hx hb dX4_crossed_30 rfl (lv_at hl 3 rfl) ?_
    refine lv_imul hx hb dX4_crossed_31 ?_
    refine lv_iconst (v := 4) hx hb dX4_crossed_32 (by decide) ?_
    refine lv_iadd hx hb dX4_crossed_33 ?_
    refine toI (show ((22 * (nI i)) + 4 : Int32) = nI (22 * i + 4) from by rw [show (22 : Int32) = nI 22 from rfl, show (4 : Int32) = nI 4 from rfl, pk_mul, nI_add]) ?_
    refine aM (k := 3) (j := (22 * i + 4)) rfl (by decide) (by show 22 * i + 4 < 13200; omega) go hw dX4_crossed_34 ?_
    refine lv_iand hx hb dX4_crossed_35 ?_
    refine lv_ior hx hb dX4_crossed_36 ?_
    refine lv_istore_n (lv' := [(2, .int ((foI (fun k a => a ||| (rA x 9 d &&& rA x 3 (22 * (s0 + k) + 4))) 0 (i - s0)) ||| ((rA x 9 d) &&& (rA x 3 (22 * i + 4))))), (0, .ref (h 0)), (1, .int (nI d)), (3, .int (nI i))]) hx hb dX4_crossed_37 rfl hl (by decide) rfl (fun ls hl => ?_)
    refine lv_iinc (v := nI (i + 1)) (lv' := [(3, .int (nI (i + 1))), (2, .int ((foI (fun k a => a ||| (rA x 9 d &&& rA x 3 (22 * (s0 + k) + 4))) 0 (i - s0)) ||| ((rA x 9 d) &&& (rA x 3 (22 * i + 4))))), (0, .ref (h 0)), (1, .int (nI d))]) hx hb dX4_crossed_38 hl (k := 3) rfl (nI_1 _) (by decide) rfl (fun ls hl => ?_)
    refine lv_goto (tgt := 9) hx hb dX4_crossed_41 (by decide) ?_
    have hl9 : lv_has ls 4 [(0, .ref (h 0)), (1, .int (nI d)), (2, .int (foI (fun k a => a ||| (rA x 9 d &&& rA x 3 (22 * (s0 + k) + 4))) 0 ((i + 1) - s0))), (3, .int (nI (i + 1)))] := lv_to (lv_sub (l' := [(0, .ref (h 0)), (1, .int (nI d)), (2, .int ((foI (fun k a => a ||| (rA x 9 d &&& rA x 3 (22 * (s0 + k) + 4))) 0 (i - s0)) ||| ((rA x 9 d) &&& (rA x 3 (22 * i + 4))))), (3, .int (nI (i + 1)))]) hl [2, 3, 1, 0] rfl) (lr (lr (lc (show ((foI (fun k a => a ||| (rA x 9 d &&& rA x 3 (22 * (s0 + k) + 4))) 0 (i - s0)) ||| ((rA x 9 d) &&& (rA x 3 (22 * i + 4))) : Int32) = foI (fun k a => a ||| (rA x 9 d &&& rA x 3 (22 * (s0 + k) + 4))) 0 ((i + 1) - s0) from by rw [show i + 1 - s0 = (i - s0) + 1 by omega, foI, show s0 + (i - s0) = i by omega]) (lr rfl))))
    exact ih _ _ _ (by omega) ⟨hw, hl9, (by omega)⟩

set_option maxHeartbeats 4000000 in
set_option maxRecDepth 100000 in
theorem kX4_rivals (l : Launch) (G : Cx) (h : Nat → Nat) (x : Rg) (d : Nat) (hd : d < 6) : Ci l G yX4_rivals cX4_rivals 4 .int (Rm 0 0) (rw' G h) [.ref (h 0), .int (nI d)] x (fun r u => r = rvR x d ∧ u = x) := by
  refine Ci.mk (by decide) (Nat.le_of_ble_eq_true rfl) ?_
  intro p e s m below meth c A ls go hw hl
  generalize s.heap = H at hw ⊢
  generalize ([] : List Loc) = locs at hw ⊢
  have hx := go.1
  have hb := go.2.1
  have hl : lv_has ls 4 [(0, .ref (h 0)), (1, .int (nI d))] := hl
  refine lv_iconst (v := 0) hx hb dX4_rivals_0 (by decide) ?_
  refine lv_istore_n (lv' := [(2, .int 0), (0, .ref (h 0)), (1, .int (nI d))]) hx hb dX4_rivals_1 rfl hl (by decide) rfl (fun ls hl => ?_)
  refine lv_iconst (v := 0) hx hb dX4_rivals_2 (by decide) ?_
  refine lv_istore_n (lv' := [(3, .int 0), (2, .int 0), (0, .ref (h 0)), (1, .int (nI d))]) hx hb dX4_rivals_3 rfl hl (by decide) rfl (fun ls hl => ?_)
  have hl0 : lv_has ls 4 [(0, .ref (h 0)), (1, .int (nI d)), (2, .int (orB (fun e => !decide (nI e = nI d) && (decide (rA x 4 e = 1) && !decide (rA x 9 e &&& rA x 10 d = 0))) 0)), (3, .int (nI 0))] := lv_to (lv_sub (l' := [(0, .ref (h 0)), (1, .int (nI d)), (2, .int 0), (3, .int 0)]) hl [2, 3, 1, 0] rfl) (lr (lr (lc (show (0 : Int32) = orB (fun e => !decide (nI e = nI d) && (decide (rA x 4 e = 1) && !decide (rA x 9 e &&& rA x 10 d = 0))) 0 from rfl) (lc (show (0 : Int32) = nI 0 from rfl) rfl))))
  refine loop_up (N := 6) (P := fun i H locs ls => Wd G A s H locs (rw' G h x) ∧ lv_has ls 4 [(0, .ref (h 0)), (1, .int (nI d)), (2, .int (orB (fun e => !decide (nI e = nI d) && (decide (rA x 4 e = 1) && !decide (rA x 9 e &&& rA x 10 d = 0))) i)), (3, .int (nI i))]) (X := fun H locs ls => W p l e (Rm 0 0) s m ([.ref (h 0), .int (nI d)] : List Value).toArray below meth c H locs 0 0 (MQ below (va_Qi (fun r u => r = rvR x d ∧ u = x) (PostW G (rw' G h) A) A) ([.ref (h 0), .int (nI d)] : List Value).toArray s (Rm 0 0).cells (Rm 0 0).slots A) (F0 m 4 ls [])) ?_ 0 (by omega) H locs ls ⟨hw, hl0⟩
  clear hl0 hl hw
  intro i hi ih H locs ls hP
  obtain ⟨hw, hl⟩ := hP
  refine lv_iload_n hx hb dX4_rivals_4 rfl (lv_at hl 3 rfl) ?_
  refine lv_bipush (v := 6) hx hb dX4_rivals_5 (by decide) ?_
  refine lv_icmp_ge (tgt := 57) hx hb dX4_rivals_7 (by decide) (fun h7 => ?_) (fun h7 => ?_)
  · skip
    have hE : i = 6 := lp_end h7 rfl rfl hi (by decide)
    subst hE
    refine lv_iload_n hx hb dX4_rivals_57 rfl (lv_at hl 2 rfl) ?_
    refine ret_i (wf := rw' G h) go hw dX4_rivals_58 ?_
    exact ⟨rfl, rfl⟩
  · skip
    have hlt : i < 6 := lp_in h7 rfl rfl hi (by decide)
    refine lv_iload_n hx hb dX4_rivals_10 rfl (lv_at hl 2 rfl) ?_
    refine lv_iload_n hx hb dX4_rivals_11 rfl (lv_at hl 3 rfl) ?_
    refine lv_iload_n hx hb dX4_rivals_12 rfl (lv_at hl 1 rfl) ?_
    refine lv_icmp_eq (tgt := 48) hx hb dX4_rivals_13 (by decide) (fun h13 => ?_) (fun h13 => ?_)
    · skip
      refine lv_iconst (v := 0) hx hb dX4_rivals_48 (by decide) ?_
      refine lv_ior hx hb dX4_rivals_49 ?_
      refine lv_istore_n (lv' := [(2, .int ((orB (fun e => !decide (nI e = nI d) && (decide (rA x 4 e = 1) && !decide (rA x 9 e &&& rA x 10 d = 0))) i) ||| 0)), (0, .ref (h 0)), (1, .int (nI d)), (3, .int (nI i))]) hx hb dX4_rivals_50 rfl hl (by decide) rfl (fun ls hl => ?_)
      refine lv_iinc (v := nI (i + 1)) (lv' := [(3, .int (nI (i + 1))), (2, .int ((orB (fun e => !decide (nI e = nI d) && (decide (rA x 4 e = 1) && !decide (rA x 9 e &&& rA x 10 d = 0))) i) ||| 0)), (0, .ref (h 0)), (1, .int (nI d))]) hx hb dX4_rivals_51 hl (k := 3) rfl (nI_1 _) (by decide) rfl (fun ls hl => ?_)
      refine lv_goto (tgt := 4) hx hb dX4_rivals_54 (by decide) ?_
      have hl9 : lv_has ls 4 [(0, .ref (h 0)), (1, .int (nI d)), (2, .int (orB (fun e => !decide (nI e = nI d) && (decide (rA x 4 e = 1) && !decide (rA x 9 e &&& rA x 10 d = 0))) (i + 1))), (3, .int (nI (i + 1)))] := lv_to (lv_sub (l' := [(0, .ref (h 0)), (1, .int (nI d)), (2, .int ((orB (fun e => !decide (nI e = nI d) && (decide (rA x 4 e = 1) && !decide (rA x 9 e &&& rA x 10 d = 0))) i) ||| 0)), (3, .int (nI (i + 1)))]) hl [2, 3, 1, 0] rfl) (lr (lr (lc (show ((orB (fun e => !decide (nI e = nI d) && (decide (rA x 4 e = 1) && !decide (rA x 9 e &&& rA x 10 d = 0))) i) ||| 0 : Int32) = orB (fun e => !decide (nI e = nI d) && (decide (rA x 4 e = 1) && !decide (rA x 9 e &&& rA x 10 d = 0))) (i + 1) from by first | exact orB_t (by simp [*]) | (rw [or0]; exact orB_f (by simp [*]))) (lr rfl))))
      exact ih _ _ _ (by omega) ⟨hw, hl9⟩
    · skip
      refine lv_aload_n hx hb dX4_rivals_16 rfl (lv_at hl 0 rfl) ?_
      refine gM (k := 4) (v := .ref (h 5)) rfl (by decide) rfl go hw dX4_rivals_17 q594 ?_
      refine lv_iload_n hx hb dX4_rivals_20 rfl (lv_at hl 3 rfl) ?_
      refine aM (k := 4) (j := i) rfl (by decide) (by exact hlt) go hw dX4_rivals_21 ?_
      refine lv_iconst (v := 1) hx hb dX4_rivals_22 (by decide) ?_
      refine lv_icmp_ne (tgt := 48) hx hb dX4_rivals_23 (by decide) (fun h23 => ?_) (fun h23 => ?_)
      · skip
        refine lv_iconst (v := 0) hx hb dX4_rivals_48 (by decide) ?_
        refine lv_ior hx hb dX4_rivals_49 ?_
        refine lv_istore_n (lv' := [(2, .int ((orB (fun e => !decide (nI e = nI d) && (decide (rA x 4 e = 1) && !decide (rA x 9 e &&& rA x 10 d = 0))) i) ||| 0)), (0, .ref (h 0)), (1, .int (nI d)), (3, .int (nI i))]) hx hb dX4_rivals_50 rfl hl (by decide) rfl (fun ls hl => ?_)
        refine lv_iinc (v := nI (i + 1)) (lv' := [(3, .int (nI (i + 1))), (2, .int ((orB (fun e => !decide (nI e = nI d) && (decide (rA x 4 e = 1) && !decide (rA x 9 e &&& rA x 10 d = 0))) i) ||| 0)), (0, .ref (h 0)), (1, .int (nI d))]) hx hb dX4_rivals_51 hl (k := 3) rfl (nI_1 _) (by decide) rfl (fun ls hl => ?_)
        refine lv_goto (tgt := 4) hx hb dX4_rivals_54 (by decide) ?_
        have hl9 : lv_has ls 4 [(0, .ref (h 0)), (1, .int (nI d)), (2, .int (orB (fun e => !decide (nI e = nI d) && (decide (rA x 4 e = 1) && !decide (rA x 9 e &&& rA x 10 d = 0))) (i + 1))), (3, .int (nI (i + 1)))] := lv_to (lv_sub (l' := [(0, .ref (h 0)), (1, .int (nI d)), (2, .int ((orB (fun e => !decide (nI e = nI d) && (decide (rA x 4 e = 1) && !decide (rA x 9 e &&& rA x 10 d = 0))) i) ||| 0)), (3, .int (nI (i + 1)))]) hl [2, 3, 1, 0] rfl) (lr (lr (lc (show ((orB (fun e => !decide (nI e = nI d) && (decide (rA x 4 e = 1) && !decide (rA x 9 e &&& rA x 10 d = 0))) i) ||| 0 : Int32) = orB (fun e => !decide (nI e = nI d) && (decide (rA x 4 e = 1) && !decide (rA x 9 e &&& rA x 10 d = 0))) (i + 1) from by first | exact orB_t (by simp [*]) | (rw [or0]; exact orB_f (by simp [*]))) (lr rfl))))
        exact ih _ _ _ (by omega) ⟨hw, hl9⟩
      · skip
        refine lv_aload_n hx hb dX4_rivals_26 rfl (lv_at hl 0 rfl) ?_
        refine gM (k := 9) (v := .ref (h 10)) rfl (by decide) rfl go hw dX4_rivals_27 q599 ?_
        refine lv_iload_n hx hb dX4_rivals_30 rfl (lv_at hl 3 rfl) ?_
        refine aM (k := 9) (j := i) rfl (by decide) (by exact hlt) go hw dX4_rivals_31 ?_
        refine lv_aload_n hx hb dX4_rivals_32 rfl (lv_at hl 0 rfl) ?_
        refine gM (k := 10) (v := .ref (h 11)) rfl (by decide) rfl go hw dX4_rivals_33 q600 ?_
        refine lv_iload_n hx hb dX4_rivals_36 rfl (lv_at hl 1 rfl) ?_
        refine aM (k := 10) (j := d) rfl (by decide) (by exact hd) go hw dX4_rivals_37 ?_
        refine lv_iand hx hb dX4_rivals_38 ?_
        refine lv_if_eq (tgt := 48) hx hb dX4_rivals_39 (by decide) (fun h39 => ?_) (fun h39 => ?_)
        · skip
          refine lv_iconst (v := 0) hx hb dX4_rivals_48 (by decide) ?_
          refine lv_ior hx hb dX4_rivals_49 ?_
          refine lv_istore_n (lv' := [(2, .int ((orB (fun e => !decide (nI e = nI d) && (decide (rA x 4 e = 1) && !decide (rA x 9 e &&& rA x 10 d = 0))) i) ||| 0)), (0, .ref (h 0)), (1, .int (nI d)), (3, .int (nI i))]) hx hb dX4_rivals_50 rfl hl (by decide) rfl (fun ls hl => ?_)
          refine lv_iinc (v := nI (i + 1)) (lv' := [(3, .int (nI (i + 1))), (2, .int ((orB (fun e => !decide (nI e = nI d) && (decide (rA x 4 e = 1) && !decide (rA x 9 e &&& rA x 10 d = 0))) i) ||| 0)), (0, .ref (h 0)), (1, .int (nI d))]) hx hb dX4_rivals_51 hl (k := 3) rfl (nI_1 _) (by decide) rfl (fun ls hl => ?_)
          refine lv_goto (tgt := 4) hx hb dX4_rivals_54 (by decide) ?_
          have hl9 : lv_has ls 4 [(0, .ref (h 0)), (1, .int (nI d)), (2, .int (orB (fun e => !decide (nI e = nI d) && (decide (rA x 4 e = 1) && !decide (rA x 9 e &&& rA x 10 d = 0))) (i + 1))), (3, .int (nI (i + 1)))] := lv_to (lv_sub (l' := [(0, .ref (h 0)), (1, .int (nI d)), (2, .int ((orB (fun e => !decide (nI e = nI d) && (decide (rA x 4 e = 1) && !decide (rA x 9 e &&& rA x 10 d = 0))) i) ||| 0)), (3, .int (nI (i + 1)))]) hl [2, 3, 1, 0] rfl) (lr (lr (lc (show ((orB (fun e => !decide (nI e = nI d) && (decide (rA x 4 e = 1) && !decide (rA x 9 e &&& rA x 10 d = 0))) i) ||| 0 : Int32) = orB (fun e => !decide (nI e = nI d) && (decide (rA x 4 e = 1) && !decide (rA x 9 e &&& rA x 10 d = 0))) (i + 1) from by first | exact orB_t (by simp [*]) | (rw [or0]; exact orB_f (by simp [*]))) (lr rfl))))
          exact ih _ _ _ (by omega) ⟨hw, hl9⟩
        · skip
          refine lv_iconst (v := 1) hx hb dX4_rivals_42 (by decide) ?_
          refine lv_iload_n hx hb dX4_rivals_43 rfl (lv_at hl 3 rfl) ?_
          refine lv_ishl hx hb dX4_rivals_44 ?_
          refine lv_goto (tgt := 49) hx hb dX4_rivals_45 (by decide) ?_
          refine lv_ior hx hb dX4_rivals_49 ?_
          refine lv_istore_n (lv' := [(2, .int ((orB (fun e => !decide (nI e = nI d) && (decide (rA x 4 e = 1) && !decide (rA x 9 e &&& rA x 10 d = 0))) i) ||| (1 <<< ((nI i) &&& 31)))), (0, .ref (h 0)), (1, .int (nI d)), (3, .int (nI i))]) hx hb dX4_rivals_50 rfl hl (by decide) rfl (fun ls hl => ?_)
          refine lv_iinc (v := nI (i + 1)) (lv' := [(3, .int (nI (i + 1))), (2, .int ((orB (fun e => !decide (nI e = nI d) && (decide (rA x 4 e = 1) && !decide (rA x 9 e &&& rA x 10 d = 0))) i) ||| (1 <<< ((nI i) &&& 31)))), (0, .ref (h 0)), (1, .int (nI d))]) hx hb dX4_rivals_51 hl (k := 3) rfl (nI_1 _) (by decide) rfl (fun ls hl => ?_)
          refine lv_goto (tgt := 4) hx hb dX4_rivals_54 (by decide) ?_
          have hl9 : lv_has ls 4 [(0, .ref (h 0)), (1, .int (nI d)), (2, .int (orB (fun e => !decide (nI e = nI d) && (decide (rA x 4 e = 1) && !decide (rA x 9 e &&& rA x 10 d = 0))) (i + 1))), (3, .int (nI (i + 1)))] := lv_to (lv_sub (l' := [(0, .ref (h 0)), (1, .int (nI d)), (2, .int ((orB (fun e => !decide (nI e = nI d) && (decide (rA x 4 e = 1) && !decide (rA x 9 e &&& rA x 10 d = 0))) i) ||| (1 <<< ((nI i) &&& 31)))), (3, .int (nI (i + 1)))]) hl [2, 3, 1, 0] rfl) (lr (lr (lc (show ((orB (fun e => !decide (nI e = nI d) && (decide (rA x 4 e = 1) && !decide (rA x 9 e &&& rA x 10 d = 0))) i) ||| (1 <<< ((nI i) &&& 31)) : Int32) = orB (fun e => !decide (nI e = nI d) && (decide (rA x 4 e = 1) && !decide (rA x 9 e &&& rA x 10 d = 0))) (i + 1) from by first | exact orB_t (by simp [*]) | (rw [or0]; exact orB_f (by simp [*]))) (lr rfl))))
          exact ih _ _ _ (by omega) ⟨hw, hl9⟩

set_option maxHeartbeats 4000000 in
set_option maxRecDepth 100000 in
theorem kX4_isStubborn (l : Launch) (G : Cx) (h : Nat → Nat) (x : Rg) (d : Nat) (hd : d < 6) : Ci l G yX4_isStubborn cX4_isStubborn 2 .boolean (Rm 0 0) (rw' G h) [.ref (h 0), .int (nI d)] x (fun r u => r = bI (stR x d) ∧ u = x) := by
  refine Ci.mk (by decide) (Nat.le_of_ble_eq_true rfl) ?_
  intro p e s m below meth c A ls go hw hl
  generalize s.heap = H at hw ⊢
  generalize ([] : List Loc) = locs at hw ⊢
  have hx := go.1
  have hb := go.2.1
  have hl : lv_has ls 2 [(0, .ref (h 0)), (1, .int (nI d))] := hl
  refine lv_aload_n hx hb dX4_isStubborn_0 rfl (lv_at hl 0 rfl) ?_
  refine gM (k := 7) (v := .ref (h 8)) rfl (by decide) rfl go hw dX4_isStubborn_1 q597 ?_
  refine lv_iload_n hx hb dX4_isStubborn_4 rfl (lv_at hl 1 rfl) ?_
  refine aM (k := 7) (j := d) rfl (by decide) (by exact hd) go hw dX4_isStubborn_5 ?_
  refine lv_aload_n hx hb dX4_isStubborn_6 rfl (lv_at hl 0 rfl) ?_
  refine gMi (k := 16) (v := rI x 16) (by decide) rfl go hw dX4_isStubborn_7 q606 ?_
  refine lv_icmp_lt (tgt := 17) hx hb dX4_isStubborn_10 (by decide) (fun h10 => ?_) (fun h10 => ?_)
  · skip
    refine lv_iconst (v := 0) hx hb dX4_isStubborn_17 (by decide) ?_
    refine ret_z (wf := rw' G h) go hw dX4_isStubborn_18 rfl ?_
    exact ⟨by simp [stR, bI, *], rfl⟩
  · skip
    refine lv_iconst (v := 1) hx hb dX4_isStubborn_13 (by decide) ?_
    refine lv_goto (tgt := 18) hx hb dX4_isStubborn_14 (by decide) ?_
    refine ret_z (wf := rw' G h) go hw dX4_isStubborn_18 rfl ?_
    exact ⟨by simp [stR, bI, *], rfl⟩

set_option maxHeartbeats 4000000 in
set_option maxRecDepth 100000 in
theorem kX4_isWeaker (l : Launch) (G : Cx) (h : Nat → Nat) (x : Rg) (d : Nat) (hd : d < 6) (b : Int32) : Ci l G yX4_isWeaker cX4_isWeaker 6 .boolean (Rm 1 21) (rw' G h) [.ref (h 0), .int (nI d), .int b] x (fun r u => r = bI (wkR x d b) ∧ u = x) := by
  refine Ci.mk (by decide) (Nat.le_of_ble_eq_true rfl) ?_
  intro p e s m below meth c A ls go hw hl
  generalize s.heap = H at hw ⊢
  generalize ([] : List Loc) = locs at hw ⊢
  have hx := go.1
  have hb := go.2.1
  have hl : lv_has ls 6 [(0, .ref (h 0)), (1, .int (nI d)), (2, .int b)] := hl
  refine lv_iconst (v := 0) hx hb dX4_isWeaker_0 (by decide) ?_
  refine lv_istore_n (lv' := [(3, .int 0), (0, .ref (h 0)), (1, .int (nI d)), (2, .int b)]) hx hb dX4_isWeaker_1 rfl hl (by decide) rfl (fun ls hl => ?_)
  refine lv_iconst (v := 0) hx hb dX4_isWeaker_2 (by decide) ?_
  refine lv_istore (lv' := [(4, .int 0), (3, .int 0), (0, .ref (h 0)), (1, .int (nI d)), (2, .int b)]) hx hb dX4_isWeaker_3 hl (by decide) rfl (fun ls hl => ?_)
  have hl0 : lv_has ls 6 [(0, .ref (h 0)), (1, .int (nI d)), (2, .int b), (3, .int (bI (exB (fun e => hasB b (nI e) && gfR x e d) 0))), (4, .int (nI 0))] := lv_to (lv_sub (l' := [(0, .ref (h 0)), (1, .int (nI d)), (2, .int b), (3, .int 0), (4, .int 0)]) hl [2, 3, 4, 1, 0] rfl) (lr (lr (lr (lc (show (0 : Int32) = bI (exB (fun e => hasB b (nI e) && gfR x e d) 0) from rfl) (lc (show (0 : Int32) = nI 0 from rfl) rfl)))))
  refine loop_up (N := 6) (P := fun i H locs ls => Wd G A s H locs (rw' G h x) ∧ lv_has ls 6 [(0, .ref (h 0)), (1, .int (nI d)), (2, .int b), (3, .int (bI (exB (fun e => hasB b (nI e) && gfR x e d) i))), (4, .int (nI i))]) (X := fun H locs ls => W p l e (Rm 1 21) s m ([.ref (h 0), .int (nI d), .int b] : List Value).toArray below meth c H locs 0 0 (MQ below (va_Qi (fun r u => r = bI (wkR x d b) ∧ u = x) (PostW G (rw' G h) A) A) ([.ref (h 0), .int (nI d), .int b] : List Value).toArray s (Rm 1 21).cells (Rm 1 21).slots A) (F0 m 5 ls [])) ?_ 0 (by omega) H locs ls ⟨hw, hl0⟩
  clear hl0 hl hw
  intro i hi ih H locs ls hP
  obtain ⟨hw, hl⟩ := hP
  refine lv_iload hx hb dX4_isWeaker_5 (lv_at hl 4 rfl) ?_
  refine lv_bipush (v := 6) hx hb dX4_isWeaker_7 (by decide) ?_
  refine lv_icmp_ge (tgt := 88) hx hb dX4_isWeaker_9 (by decide) (fun h9 => ?_) (fun h9 => ?_)
  · skip
    have hE : i = 6 := lp_end h9 rfl rfl hi (by decide)
    subst hE
    refine lv_iload_n hx hb dX4_isWeaker_88 rfl (lv_at hl 3 rfl) ?_
    refine ret_z (wf := rw' G h) go hw dX4_isWeaker_89 (bI_z _).1 ?_
    exact ⟨rfl, rfl⟩
  · skip
    have hlt : i < 6 := lp_in h9 rfl rfl hi (by decide)
    refine lv_aload_n hx hb dX4_isWeaker_12 rfl (lv_at hl 0 rfl) ?_
    refine lv_iload hx hb dX4_isWeaker_13 (lv_at hl 4 rfl) ?_
    refine cal_Vi' (kX4_isStubborn l G h x i (by omega)) go hw dX4_isWeaker_15 (And.intro q846 (And.intro q4 q849)) q848 qs41 kyX4_isStubborn ⟨Nat.le_of_ble_eq_true rfl, Nat.le_of_ble_eq_true rfl⟩ rc_M hl.1 rfl (Nat.le_of_ble_eq_true rfl) ⟨rfl, rfl⟩ ⟨Nat.le_of_ble_eq_true rfl, Nat.le_of_ble_eq_true rfl⟩ (fun H locs hw => ?_)
    refine lv_aload_n hx hb dX4_isWeaker_18 rfl (lv_at hl 0 rfl) ?_
    refine lv_iload_n hx hb dX4_isWeaker_19 rfl (lv_at hl 1 rfl) ?_
    refine cal_Vi' (kX4_isStubborn l G h x d (by omega)) go hw dX4_isWeaker_20 (And.intro q846 (And.intro q4 q849)) q848 qs41 kyX4_isStubborn ⟨Nat.le_of_ble_eq_true rfl, Nat.le_of_ble_eq_true rfl⟩ rc_M hl.1 rfl (Nat.le_of_ble_eq_true rfl) ⟨rfl, rfl⟩ ⟨Nat.le_of_ble_eq_true rfl, Nat.le_of_ble_eq_true rfl⟩ (fun H locs hw => ?_)
    refine lv_icmp_eq (tgt := 35) hx hb dX4_isWeaker_23 (by decide) (fun h23 => ?_) (fun h23 => ?_)
    · skip
      refine lv_aload_n hx hb dX4_isWeaker_35 rfl (lv_at hl 0 rfl) ?_
      refine gM (k := 6) (v := .ref (h 7)) rfl (by decide) rfl go hw dX4_isWeaker_36 q596 ?_
      refine lv_iload hx hb dX4_isWeaker_39 (lv_at hl 4 rfl) ?_
      refine aM (k := 6) (j := i) rfl (by decide) (by exact hlt) go hw dX4_isWeaker_41 ?_
      refine lv_aload_n hx hb dX4_isWeaker_42 rfl (lv_at hl 0 rfl) ?_
      refine gM (k := 6) (v := .ref (h 7)) rfl (by decide) rfl go hw dX4_isWeaker_43 q596 ?_
      refine lv_iload_n hx hb dX4_isWeaker_46 rfl (lv_at hl 1 rfl) ?_
      refine aM (k := 6) (j := d) rfl (by decide) (by exact hd) go hw dX4_isWeaker_47 ?_
      refine lv_icmp_ge (tgt := 55) hx hb dX4_isWeaker_48 (by decide) (fun h48 => ?_) (fun h48 => ?_)
      · skip
        refine lv_iconst (v := 0) hx hb dX4_isWeaker_55 (by decide) ?_
        refine toI (show 0 = bI (gfR x i d) from by first | (rw [gfR, if_pos h23]; simp [bI, *]) | (rw [gfR, if_neg h23])) ?_
        refine lv_istore (lv' := [(5, .int (bI (gfR x i d))), (0, .ref (h 0)), (1, .int (nI d)), (2, .int b), (3, .int (bI (exB (fun e => hasB b (nI e) && gfR x e d) i))), (4, .int (nI i))]) hx hb dX4_isWeaker_56 hl (by decide) rfl (fun ls hl => ?_)
        refine lv_iload_n hx hb dX4_isWeaker_58 rfl (lv_at hl 4 rfl) ?_
        refine lv_if_ne (tgt := 76) hx hb dX4_isWeaker_59 (by decide) (fun h59 => ?_) (fun h59 => ?_)
        · skip
          have h59 := bI_1 h59
          refine lv_iconst (v := 1) hx hb dX4_isWeaker_76 (by decide) ?_
          refine lv_goto (tgt := 81) hx hb dX4_isWeaker_77 (by decide) ?_
          refine lv_istore_n (lv' := [(3, .int 1), (5, .int (bI (gfR x i d))), (0, .ref (h 0)), (1, .int (nI d)), (2, .int b), (4, .int (nI i))]) hx hb dX4_isWeaker_81 rfl hl (by decide) rfl (fun ls hl => ?_)
          refine lv_iinc (v := nI (i + 1)) (lv' := [(4, .int (nI (i + 1))), (3, .int 1), (5, .int (bI (gfR x i d))), (0, .ref (h 0)), (1, .int (nI d)), (2, .int b)]) hx hb dX4_isWeaker_82 hl (k := 5) rfl (nI_1 _) (by decide) rfl (fun ls hl => ?_)
          refine lv_goto (tgt := 5) hx hb dX4_isWeaker_85 (by decide) ?_
          have hl9 : lv_has ls 6 [(0, .ref (h 0)), (1, .int (nI d)), (2, .int b), (3, .int (bI (exB (fun e => hasB b (nI e) && gfR x e d) (i + 1)))), (4, .int (nI (i + 1)))] := lv_to (lv_sub (l' := [(0, .ref (h 0)), (1, .int (nI d)), (2, .int b), (3, .int 1), (4, .int (nI (i + 1)))]) hl [3, 4, 5, 1, 0] rfl) (lr (lr (lr (lc (show (1 : Int32) = bI (exB (fun e => hasB b (nI e) && gfR x e d) (i + 1)) from by simp [exB, bI, *]) (lr rfl)))))
          exact ih _ _ _ (by omega) ⟨hw, hl9⟩
        · skip
          have h59 := bI_0 h59
          refine lv_iload_n hx hb dX4_isWeaker_62 rfl (lv_at hl 3 rfl) ?_
          refine lv_iload hx hb dX4_isWeaker_63 (lv_at hl 5 rfl) ?_
          refine cal_S (kX4_has l G b i (by omega)) go hw.2.2.1 hw.2.2.2.1 dX4_isWeaker_65 (And.intro q761 (And.intro q4 q763)) q762 kyX4_has ⟨rfl, rfl⟩ ⟨Nat.le_of_ble_eq_true rfl, Nat.le_of_ble_eq_true rfl⟩ hl.1 rfl (Nat.le_of_ble_eq_true rfl) ⟨Nat.le_of_ble_eq_true rfl, Nat.le_of_ble_eq_true rfl⟩ ?_
          refine lv_if_eq (tgt := 80) hx hb dX4_isWeaker_68 (by decide) (fun h68 => ?_) (fun h68 => ?_)
          · skip
            have h68 := bI_0 h68
            refine lv_iconst (v := 0) hx hb dX4_isWeaker_80 (by decide) ?_
            refine lv_istore_n (lv' := [(3, .int 0), (5, .int (bI (gfR x i d))), (0, .ref (h 0)), (1, .int (nI d)), (2, .int b), (4, .int (nI i))]) hx hb dX4_isWeaker_81 rfl hl (by decide) rfl (fun ls hl => ?_)
            refine lv_iinc (v := nI (i + 1)) (lv' := [(4, .int (nI (i + 1))), (3, .int 0), (5, .int (bI (gfR x i d))), (0, .ref (h 0)), (1, .int (nI d)), (2, .int b)]) hx hb dX4_isWeaker_82 hl (k := 5) rfl (nI_1 _) (by decide) rfl (fun ls hl => ?_)
            refine lv_goto (tgt := 5) hx hb dX4_isWeaker_85 (by decide) ?_
            have hl9 : lv_has ls 6 [(0, .ref (h 0)), (1, .int (nI d)), (2, .int b), (3, .int (bI (exB (fun e => hasB b (nI e) && gfR x e d) (i + 1)))), (4, .int (nI (i + 1)))] := lv_to (lv_sub (l' := [(0, .ref (h 0)), (1, .int (nI d)), (2, .int b), (3, .int 0), (4, .int (nI (i + 1)))]) hl [3, 4, 5, 1, 0] rfl) (lr (lr (lr (lc (show (0 : Int32) = bI (exB (fun e => hasB b (nI e) && gfR x e d) (i + 1)) from by simp [exB, bI, *]) (lr rfl)))))
            exact ih _ _ _ (by omega) ⟨hw, hl9⟩
          · skip
            have h68 := bI_1 h68
            refine lv_iload hx hb dX4_isWeaker_71 (lv_at hl 0 rfl) ?_
            refine lv_if_eq (tgt := 80) hx hb dX4_isWeaker_73 (by decide) (fun h73 => ?_) (fun h73 => ?_)
            · skip
              have h73 := bI_0 h73
              refine lv_iconst (v := 0) hx hb dX4_isWeaker_80 (by decide) ?_
              refine lv_istore_n (lv' := [(3, .int 0), (5, .int (bI (gfR x i d))), (0, .ref (h 0)), (1, .int (nI d)), (2, .int b), (4, .int (nI i))]) hx hb dX4_isWeaker_81 rfl hl (by decide) rfl (fun ls hl => ?_)
              refine lv_iinc (v := nI (i + 1)) (lv' := [(4, .int (nI (i + 1))), (3, .int 0), (5, .int (bI (gfR x i d))), (0, .ref (h 0)), (1, .int (nI d)), (2, .int b)]) hx hb dX4_isWeaker_82 hl (k := 5) rfl (nI_1 _) (by decide) rfl (fun ls hl => ?_)
              refine lv_goto (tgt := 5) hx hb dX4_isWeaker_85 (by decide) ?_
              have hl9 : lv_has ls 6 [(0, .ref (h 0)), (1, .int (nI d)), (2, .int b), (3, .int (bI (exB (fun e => hasB b (nI e) && gfR x e d) (i + 1)))), (4, .int (nI (i + 1)))] := lv_to (lv_sub (l' := [(0, .ref (h 0)), (1, .int (nI d)), (2, .int b), (3, .int 0), (4, .int (nI (i + 1)))]) hl [3, 4, 5, 1, 0] rfl) (lr (lr (lr (lc (show (0 : Int32) = bI (exB (fun e => hasB b (nI e) && gfR x e d) (i + 1)) from by simp [exB, bI, *]) (lr rfl)))))
              exact ih _ _ _ (by omega) ⟨hw, hl9⟩
            · skip
              have h73 := bI_1 h73
              refine lv_iconst (v := 1) hx hb dX4_isWeaker_76 (by decide) ?_
              refine lv_goto (tgt := 81) hx hb dX4_isWeaker_77 (by decide) ?_
              refine lv_istore_n (lv' := [(3, .int 1), (5, .int (bI (gfR x i d))), (0, .ref (h 0)), (1, .int (nI d)), (2, .int b), (4, .int (nI i))]) hx hb dX4_isWeaker_81 rfl hl (by decide) rfl (fun ls hl => ?_)
              refine lv_iinc (v := nI (i + 1)) (lv' := [(4, .int (nI (i + 1))), (3, .int 1), (5, .int (bI (gfR x i d))), (0, .ref (h 0)), (1, .int (nI d)), (2, .int b)]) hx hb dX4_isWeaker_82 hl (k := 5) rfl (nI_1 _) (by decide) rfl (fun ls hl => ?_)
              refine lv_goto (tgt := 5) hx hb dX4_isWeaker_85 (by decide) ?_
              have hl9 : lv_has ls 6 [(0, .ref (h 0)), (1, .int (nI d)), (2, .int b), (3, .int (bI (exB (fun e => hasB b (nI e) && gfR x e d) (i + 1)))), (4, .int (nI (i + 1)))] := lv_to (lv_sub (l' := [(0, .ref (h 0)), (1, .int (nI d)), (2, .int b), (3, .int 1), (4, .int (nI (i + 1)))]) hl [3, 4, 5, 1, 0] rfl) (lr (lr (lr (lc (show (1 : Int32) = bI (exB (fun e => hasB b (nI e) && gfR x e d) (i + 1)) from by simp [exB, bI, *]) (lr rfl)))))
              exact ih _ _ _ (by omega) ⟨hw, hl9⟩
      · skip
        refine lv_iconst (v := 1) hx hb dX4_isWeaker_51 (by decide) ?_
        refine lv_goto (tgt := 56) hx hb dX4_isWeaker_52 (by decide) ?_
        refine toI (show 1 = bI (gfR x i d) from by first | (rw [gfR, if_pos h23]; simp [bI, *]) | (rw [gfR, if_neg h23])) ?_
        refine lv_istore (lv' := [(5, .int (bI (gfR x i d))), (0, .ref (h 0)), (1, .int (nI d)), (2, .int b), (3, .int (bI (exB (fun e => hasB b (nI e) && gfR x e d) i))), (4, .int (nI i))]) hx hb dX4_isWeaker_56 hl (by decide) rfl (fun ls hl => ?_)
        refine lv_iload_n hx hb dX4_isWeaker_58 rfl (lv_at hl 4 rfl) ?_
        refine lv_if_ne (tgt := 76) hx hb dX4_isWeaker_59 (by decide) (fun h59 => ?_) (fun h59 => ?_)
        · skip
          have h59 := bI_1 h59
          refine lv_iconst (v := 1) hx hb dX4_isWeaker_76 (by decide) ?_
          refine lv_goto (tgt := 81) hx hb dX4_isWeaker_77 (by decide) ?_
          refine lv_istore_n (lv' := [(3, .int 1), (5, .int (bI (gfR x i d))), (0, .ref (h 0)), (1, .int (nI d)), (2, .int b), (4, .int (nI i))]) hx hb dX4_isWeaker_81 rfl hl (by decide) rfl (fun ls hl => ?_)
          refine lv_iinc (v := nI (i + 1)) (lv' := [(4, .int (nI (i + 1))), (3, .int 1), (5, .int (bI (gfR x i d))), (0, .ref (h 0)), (1, .int (nI d)), (2, .int b)]) hx hb dX4_isWeaker_82 hl (k := 5) rfl (nI_1 _) (by decide) rfl (fun ls hl => ?_)
          refine lv_goto (tgt := 5) hx hb dX4_isWeaker_85 (by decide) ?_
          have hl9 : lv_has ls 6 [(0, .ref (h 0)), (1, .int (nI d)), (2, .int b), (3, .int (bI (exB (fun e => hasB b (nI e) && gfR x e d) (i + 1)))), (4, .int (nI (i + 1)))] := lv_to (lv_sub (l' := [(0, .ref (h 0)), (1, .int (nI d)), (2, .int b), (3, .int 1), (4, .int (nI (i + 1)))]) hl [3, 4, 5, 1, 0] rfl) (lr (lr (lr (lc (show (1 : Int32) = bI (exB (fun e => hasB b (nI e) && gfR x e d) (i + 1)) from by simp [exB, bI, *]) (lr rfl)))))
          exact ih _ _ _ (by omega) ⟨hw, hl9⟩
        · skip
          have h59 := bI_0 h59
          refine lv_iload_n hx hb dX4_isWeaker_62 rfl (lv_at hl 3 rfl) ?_
          refine lv_iload hx hb dX4_isWeaker_63 (lv_at hl 5 rfl) ?_
          refine cal_S (kX4_has l G b i (by omega)) go hw.2.2.1 hw.2.2.2.1 dX4_isWeaker_65 (And.intro q761 (And.intro q4 q763)) q762 kyX4_has ⟨rfl, rfl⟩ ⟨Nat.le_of_ble_eq_true rfl, Nat.le_of_ble_eq_true rfl⟩ hl.1 rfl (Nat.le_of_ble_eq_true rfl) ⟨Nat.le_of_ble_eq_true rfl, Nat.le_of_ble_eq_true rfl⟩ ?_
          refine lv_if_eq (tgt := 80) hx hb dX4_isWeaker_68 (by decide) (fun h68 => ?_) (fun h68 => ?_)
          · skip
            have h68 := bI_0 h68
            refine lv_iconst (v := 0) hx hb dX4_isWeaker_80 (by decide) ?_
            refine lv_istore_n (lv' := [(3, .int 0), (5, .int (bI (gfR x i d))), (0, .ref (h 0)), (1, .int (nI d)), (2, .int b), (4, .int (nI i))]) hx hb dX4_isWeaker_81 rfl hl (by decide) rfl (fun ls hl => ?_)
            refine lv_iinc (v := nI (i + 1)) (lv' := [(4, .int (nI (i + 1))), (3, .int 0), (5, .int (bI (gfR x i d))), (0, .ref (h 0)), (1, .int (nI d)), (2, .int b)]) hx hb dX4_isWeaker_82 hl (k := 5) rfl (nI_1 _) (by decide) rfl (fun ls hl => ?_)
            refine lv_goto (tgt := 5) hx hb dX4_isWeaker_85 (by decide) ?_
            have hl9 : lv_has ls 6 [(0, .ref (h 0)), (1, .int (nI d)), (2, .int b), (3, .int (bI (exB (fun e => hasB b (nI e) && gfR x e d) (i + 1)))), (4, .int (nI (i + 1)))] := lv_to (lv_sub (l' := [(0, .ref (h 0)), (1, .int (nI d)), (2, .int b), (3, .int 0), (4, .int (nI (i + 1)))]) hl [3, 4, 5, 1, 0] rfl) (lr (lr (lr (lc (show (0 : Int32) = bI (exB (fun e => hasB b (nI e) && gfR x e d) (i + 1)) from by simp [exB, bI, *]) (lr rfl)))))
            exact ih _ _ _ (by omega) ⟨hw, hl9⟩
          · skip
            have h68 := bI_1 h68
            refine lv_iload hx hb dX4_isWeaker_71 (lv_at hl 0 rfl) ?_
            refine lv_if_eq (tgt := 80) hx hb dX4_isWeaker_73 (by decide) (fun h73 => ?_) (fun h73 => ?_)
            · skip
              have h73 := bI_0 h73
              refine lv_iconst (v := 0) hx hb dX4_isWeaker_80 (by decide) ?_
              refine lv_istore_n (lv' := [(3, .int 0), (5, .int (bI (gfR x i d))), (0, .ref (h 0)), (1, .int (nI d)), (2, .int b), (4, .int (nI i))]) hx hb dX4_isWeaker_81 rfl hl (by decide) rfl (fun ls hl => ?_)
              refine lv_iinc (v := nI (i + 1)) (lv' := [(4, .int (nI (i + 1))), (3, .int 0), (5, .int (bI (gfR x i d))), (0, .ref (h 0)), (1, .int (nI d)), (2, .int b)]) hx hb dX4_isWeaker_82 hl (k := 5) rfl (nI_1 _) (by decide) rfl (fun ls hl => ?_)
              refine lv_goto (tgt := 5) hx hb dX4_isWeaker_85 (by decide) ?_
              have hl9 : lv_has ls 6 [(0, .ref (h 0)), (1, .int (nI d)), (2, .int b), (3, .int (bI (exB (fun e => hasB b (nI e) && gfR x e d) (i + 1)))), (4, .int (nI (i + 1)))] := lv_to (lv_sub (l' := [(0, .ref (h 0)), (1, .int (nI d)), (2, .int b), (3, .int 0), (4, .int (nI (i + 1)))]) hl [3, 4, 5, 1, 0] rfl) (lr (lr (lr (lc (show (0 : Int32) = bI (exB (fun e => hasB b (nI e) && gfR x e d) (i + 1)) from by simp [exB, bI, *]) (lr rfl)))))
              exact ih _ _ _ (by omega) ⟨hw, hl9⟩
            · skip
              have h73 := bI_1 h73
              refine lv_iconst (v := 1) hx hb dX4_isWeaker_76 (by decide) ?_
              refine lv_goto (tgt := 81) hx hb dX4_isWeaker_77 (by decide) ?_
              refine lv_istore_n (lv' := [(3, .int 1), (5, .int (bI (gfR x i d))), (0, .ref (h 0)), (1, .int (nI d)), (2, .int b), (4, .int (nI i))]) hx hb dX4_isWeaker_81 rfl hl (by decide) rfl (fun ls hl => ?_)
              refine lv_iinc (v := nI (i + 1)) (lv' := [(4, .int (nI (i + 1))), (3, .int 1), (5, .int (bI (gfR x i d))), (0, .ref (h 0)), (1, .int (nI d)), (2, .int b)]) hx hb dX4_isWeaker_82 hl (k := 5) rfl (nI_1 _) (by decide) rfl (fun ls hl => ?_)
              refine lv_goto (tgt := 5) hx hb dX4_isWeaker_85 (by decide) ?_
              have hl9 : lv_has ls 6 [(0, .ref (h 0)), (1, .int (nI d)), (2, .int b), (3, .int (bI (exB (fun e => hasB b (nI e) && gfR x e d) (i + 1)))), (4, .int (nI (i + 1)))] := lv_to (lv_sub (l' := [(0, .ref (h 0)), (1, .int (nI d)), (2, .int b), (3, .int 1), (4, .int (nI (i + 1)))]) hl [3, 4, 5, 1, 0] rfl) (lr (lr (lr (lc (show (1 : Int32) = bI (exB (fun e => hasB b (nI e) && gfR x e d) (i + 1)) from by simp [exB, bI, *]) (lr rfl)))))
              exact ih _ _ _ (by omega) ⟨hw, hl9⟩
    · skip
      refine lv_aload_n hx hb dX4_isWeaker_26 rfl (lv_at hl 0 rfl) ?_
      refine lv_iload hx hb dX4_isWeaker_27 (lv_at hl 4 rfl) ?_
      refine cal_Vi' (kX4_isStubborn l G h x i (by omega)) go hw dX4_isWeaker_29 (And.intro q846 (And.intro q4 q849)) q848 qs41 kyX4_isStubborn ⟨Nat.le_of_ble_eq_true rfl, Nat.le_of_ble_eq_true rfl⟩ rc_M hl.1 rfl (Nat.le_of_ble_eq_true rfl) ⟨rfl, rfl⟩ ⟨Nat.le_of_ble_eq_true rfl, Nat.le_of_ble_eq_true rfl⟩ (fun H locs hw => ?_)
      refine lv_goto (tgt := 56) hx hb dX4_isWeaker_32 (by decide) ?_
      refine toI (show bI (stR x i) = bI (gfR x i d) from by first | (rw [gfR, if_pos h23]; simp [bI, *]) | (rw [gfR, if_neg h23])) ?_
      refine lv_istore (lv' := [(5, .int (bI (gfR x i d))), (0, .ref (h 0)), (1, .int (nI d)), (2, .int b), (3, .int (bI (exB (fun e => hasB b (nI e) && gfR x e d) i))), (4, .int (nI i))]) hx hb dX4_isWeaker_56 hl (by decide) rfl (fun ls hl => ?_)
      refine lv_iload_n hx hb dX4_isWeaker_58 rfl (lv_at hl 4 rfl) ?_
      refine lv_if_ne (tgt := 76) hx hb dX4_isWeaker_59 (by decide) (fun h59 => ?_) (fun h59 => ?_)
      · skip
        have h59 := bI_1 h59
        refine lv_iconst (v := 1) hx hb dX4_isWeaker_76 (by decide) ?_
        refine lv_goto (tgt := 81) hx hb dX4_isWeaker_77 (by decide) ?_
        refine lv_istore_n (lv' := [(3, .int 1), (5, .int (bI (gfR x i d))), (0, .ref (h 0)), (1, .int (nI d)), (2, .int b), (4, .int (nI i))]) hx hb dX4_isWeaker_81 rfl hl (by decide) rfl (fun ls hl => ?_)
        refine lv_iinc (v := nI (i + 1)) (lv' := [(4, .int (nI (i + 1))), (3, .int 1), (5, .int (bI (gfR x i d))), (0, .ref (h 0)), (1, .int (nI d)), (2, .int b)]) hx hb dX4_isWeaker_82 hl (k := 5) rfl (nI_1 _) (by decide) rfl (fun ls hl => ?_)
        refine lv_goto (tgt := 5) hx hb dX4_isWeaker_85 (by decide) ?_
        have hl9 : lv_has ls 6 [(0, .ref (h 0)), (1, .int (nI d)), (2, .int b), (3, .int (bI (exB (fun e => hasB b (nI e) && gfR x e d) (i + 1)))), (4, .int (nI (i + 1)))] := lv_to (lv_sub (l' := [(0, .ref (h 0)), (1, .int (nI d)), (2, .int b), (3, .int 1), (4, .int (nI (i + 1)))]) hl [3, 4, 5, 1, 0] rfl) (lr (lr (lr (lc (show (1 : Int32) = bI (exB (fun e => hasB b (nI e) && gfR x e d) (i + 1)) from by simp [exB, bI, *]) (lr rfl)))))
        exact ih _ _ _ (by omega) ⟨hw, hl9⟩
      · skip
        have h59 := bI_0 h59
        refine lv_iload_n hx hb dX4_isWeaker_62 rfl (lv_at hl 3 rfl) ?_
        refine lv_iload hx hb dX4_isWeaker_63 (lv_at hl 5 rfl) ?_
        refine cal_S (kX4_has l G b i (by omega)) go hw.2.2.1 hw.2.2.2.1 dX4_isWeaker_65 (And.intro q761 (And.intro q4 q763)) q762 kyX4_has ⟨rfl, rfl⟩ ⟨Nat.le_of_ble_eq_true rfl, Nat.le_of_ble_eq_true rfl⟩ hl.1 rfl (Nat.le_of_ble_eq_true rfl) ⟨Nat.le_of_ble_eq_true rfl, Nat.le_of_ble_eq_true rfl⟩ ?_
        refine lv_if_eq (tgt := 80) hx hb dX4_isWeaker_68 (by decide) (fun h68 => ?_) (fun h68 => ?_)
        · skip
          have h68 := bI_0 h68
          refine lv_iconst (v := 0) hx hb dX4_isWeaker_80 (by decide) ?_
          refine lv_istore_n (lv' := [(3, .int 0), (5, .int (bI (gfR x i d))), (0, .ref (h 0)), (1, .int (nI d)), (2, .int b), (4, .int (nI i))]) hx hb dX4_isWeaker_81 rfl hl (by decide) rfl (fun ls hl => ?_)
          refine lv_iinc (v := nI (i + 1)) (lv' := [(4, .int (nI (i + 1))), (3, .int 0), (5, .int (bI (gfR x i d))), (0, .ref (h 0)), (1, .int (nI d)), (2, .int b)]) hx hb dX4_isWeaker_82 hl (k := 5) rfl (nI_1 _) (by decide) rfl (fun ls hl => ?_)
          refine lv_goto (tgt := 5) hx hb dX4_isWeaker_85 (by decide) ?_
          have hl9 : lv_has ls 6 [(0, .ref (h 0)), (1, .int (nI d)), (2, .int b), (3, .int (bI (exB (fun e => hasB b (nI e) && gfR x e d) (i + 1)))), (4, .int (nI (i + 1)))] := lv_to (lv_sub (l' := [(0, .ref (h 0)), (1, .int (nI d)), (2, .int b), (3, .int 0), (4, .int (nI (i + 1)))]) hl [3, 4, 5, 1, 0] rfl) (lr (lr (lr (lc (show (0 : Int32) = bI (exB (fun e => hasB b (nI e) && gfR x e d) (i + 1)) from by simp [exB, bI, *]) (lr rfl)))))
          exact ih _ _ _ (by omega) ⟨hw, hl9⟩
        · skip
          have h68 := bI_1 h68
          refine lv_iload hx hb dX4_isWeaker_71 (lv_at hl 0 rfl) ?_
          refine lv_if_eq (tgt := 80) hx hb dX4_isWeaker_73 (by decide) (fun h73 => ?_) (fun h73 => ?_)
          · skip
            have h73 := bI_0 h73
            refine lv_iconst (v := 0) hx hb dX4_isWeaker_80 (by decide) ?_
            refine lv_istore_n (lv' := [(3, .int 0), (5, .int (bI (gfR x i d))), (0, .ref (h 0)), (1, .int (nI d)), (2, .int b), (4, .int (nI i))]) hx hb dX4_isWeaker_81 rfl hl (by decide) rfl (fun ls hl => ?_)
            refine lv_iinc (v := nI (i + 1)) (lv' := [(4, .int (nI (i + 1))), (3, .int 0), (5, .int (bI (gfR x i d))), (0, .ref (h 0)), (1, .int (nI d)), (2, .int b)]) hx hb dX4_isWeaker_82 hl (k := 5) rfl (nI_1 _) (by decide) rfl (fun ls hl => ?_)
            refine lv_goto (tgt := 5) hx hb dX4_isWeaker_85 (by decide) ?_
            have hl9 : lv_has ls 6 [(0, .ref (h 0)), (1, .int (nI d)), (2, .int b), (3, .int (bI (exB (fun e => hasB b (nI e) && gfR x e d) (i + 1)))), (4, .int (nI (i + 1)))] := lv_to (lv_sub (l' := [(0, .ref (h 0)), (1, .int (nI d)), (2, .int b), (3, .int 0), (4, .int (nI (i + 1)))]) hl [3, 4, 5, 1, 0] rfl) (lr (lr (lr (lc (show (0 : Int32) = bI (exB (fun e => hasB b (nI e) && gfR x e d) (i + 1)) from by simp [exB, bI, *]) (lr rfl)))))
            exact ih _ _ _ (by omega) ⟨hw, hl9⟩
          · skip
            have h73 := bI_1 h73
            refine lv_iconst (v := 1) hx hb dX4_isWeaker_76 (by decide) ?_
            refine lv_goto (tgt := 81) hx hb dX4_isWeaker_77 (by decide) ?_
            refine lv_istore_n (lv' := [(3, .int 1), (5, .int (bI (gfR x i d))), (0, .ref (h 0)), (1, .int (nI d)), (2, .int b), (4, .int (nI i))]) hx hb dX4_isWeaker_81 rfl hl (by decide) rfl (fun ls hl => ?_)
            refine lv_iinc (v := nI (i + 1)) (lv' := [(4, .int (nI (i + 1))), (3, .int 1), (5, .int (bI (gfR x i d))), (0, .ref (h 0)), (1, .int (nI d)), (2, .int b)]) hx hb dX4_isWeaker_82 hl (k := 5) rfl (nI_1 _) (by decide) rfl (fun ls hl => ?_)
            refine lv_goto (tgt := 5) hx hb dX4_isWeaker_85 (by decide) ?_
            have hl9 : lv_has ls 6 [(0, .ref (h 0)), (1, .int (nI d)), (2, .int b), (3, .int (bI (exB (fun e => hasB b (nI e) && gfR x e d) (i + 1)))), (4, .int (nI (i + 1)))] := lv_to (lv_sub (l' := [(0, .ref (h 0)), (1, .int (nI d)), (2, .int b), (3, .int 1), (4, .int (nI (i + 1)))]) hl [3, 4, 5, 1, 0] rfl) (lr (lr (lr (lc (show (1 : Int32) = bI (exB (fun e => hasB b (nI e) && gfR x e d) (i + 1)) from by simp [exB, bI, *]) (lr rfl)))))
            exact ih _ _ _ (by omega) ⟨hw, hl9⟩

set_option maxHeartbeats 4000000 in
set_option maxRecDepth 100000 in
theorem kX4_checks (l : Launch) (G : Cx) (h : Nat → Nat) (x : Rg) (c0 : Nat) (hc : rI x 2 = nI c0) (hc5 : c0 ≤ 575) (d : Nat) (hd : d < 6) (s0 : Nat) (hs : rA x 5 d = nI s0) (hs0 : s0 ≤ c0) (w : Int32) : Ci l G yX4_checks cX4_checks 4 .int (Rm 2 46) (rw' G h) [.ref (h 0), .int (nI d), .int w] x (fun r u => r = ckR x d w s0 (c0 - s0) ∧ u = x) := by
  refine Ci.mk (by decide) (Nat.le_of_ble_eq_true rfl) ?_
  intro p e s m below meth c A ls go hw hl
  generalize s.heap = H at hw ⊢
  generalize ([] : List Loc) = locs at hw ⊢
  have hx := go.1
  have hb := go.2.1
  have hl : lv_has ls 4 [(0, .ref (h 0)), (1, .int (nI d)), (2, .int w)] := hl
  refine lv_aload_n hx hb dX4_checks_0 rfl (lv_at hl 0 rfl) ?_
  refine lv_iload_n hx hb dX4_checks_1 rfl (lv_at hl 1 rfl) ?_
  refine cal_Vi' (kX4_stale l G h x d (by omega)) go hw dX4_checks_2 (And.intro q830 (And.intro q4 q833)) q832 qs37 kyX4_stale ⟨Nat.le_of_ble_eq_true rfl, Nat.le_of_ble_eq_true rfl⟩ rc_M hl.1 rfl (Nat.le_of_ble_eq_true rfl) ⟨rfl, rfl⟩ ⟨Nat.le_of_ble_eq_true rfl, Nat.le_of_ble_eq_true rfl⟩ (fun H locs hw => ?_)
  refine lv_if_eq (tgt := 12) hx hb dX4_checks_5 (by decide) (fun h5 => ?_) (fun h5 => ?_)
  · skip
    refine lv_iconst (v := 0) hx hb dX4_checks_12 (by decide) ?_
    refine lv_istore_n (lv' := [(3, .int 0), (0, .ref (h 0)), (1, .int (nI d)), (2, .int w)]) hx hb dX4_checks_13 rfl hl (by decide) rfl (fun ls hl => ?_)
    refine lv_iload_n hx hb dX4_checks_14 rfl (lv_at hl 3 rfl) ?_
    refine lv_if_ne (tgt := 42) hx hb dX4_checks_15 (by decide) (fun h15 => ?_) (fun h15 => ?_)
    · skip
      refine lv_iload_n hx hb dX4_checks_42 rfl (lv_at hl 0 rfl) ?_
      refine lv_if_eq (tgt := 49) hx hb dX4_checks_43 (by decide) (fun _ => ?_) (fun q => absurd q (by decide))
      refine lv_iload_n hx hb dX4_checks_49 rfl (lv_at hl 3 rfl) ?_
      refine lv_iconst (v := 1) hx hb dX4_checks_50 (by decide) ?_
      refine lv_icmp_eq (tgt := 72) hx hb dX4_checks_51 (by decide) (fun h51 => ?_) (fun h51 => ?_)
      · skip
        refine lv_iconst (v := 0) hx hb dX4_checks_72 (by decide) ?_
        refine ret_i (wf := rw' G h) go hw dX4_checks_73 ?_
        exact ⟨by simp [ckR, *], rfl⟩
      · skip
        refine lv_aload_n hx hb dX4_checks_54 rfl (lv_at hl 1 rfl) ?_
        refine lv_iload_n hx hb dX4_checks_55 rfl (lv_at hl 2 rfl) ?_
        refine lv_aload_n hx hb dX4_checks_56 rfl (lv_at hl 1 rfl) ?_
        refine lv_iload_n hx hb dX4_checks_57 rfl (lv_at hl 2 rfl) ?_
        refine cal_Vi' (kX4_rivals l G h x d (by omega)) go hw dX4_checks_58 (And.intro q838 (And.intro q4 q841)) q840 qs39 kyX4_rivals ⟨Nat.le_of_ble_eq_true rfl, Nat.le_of_ble_eq_true rfl⟩ rc_M hl.1 rfl (Nat.le_of_ble_eq_true rfl) ⟨rfl, rfl⟩ ⟨Nat.le_of_ble_eq_true rfl, Nat.le_of_ble_eq_true rfl⟩ (fun H locs hw => ?_)
        refine cal_Vi' (kX4_isWeaker l G h x d (by omega) (rvR x d)) go hw dX4_checks_61 (And.intro q842 (And.intro q4 q845)) q844 qs40 kyX4_isWeaker ⟨Nat.le_of_ble_eq_true rfl, Nat.le_of_ble_eq_true rfl⟩ rc_M hl.1 rfl (Nat.le_of_ble_eq_true rfl) ⟨rfl, rfl⟩ ⟨Nat.le_of_ble_eq_true rfl, Nat.le_of_ble_eq_true rfl⟩ (fun H locs hw => ?_)
        refine lv_if_eq (tgt := 72) hx hb dX4_checks_64 (by decide) (fun h64 => ?_) (fun h64 => ?_)
        · skip
          have h64 := bI_0 h64
          refine lv_iconst (v := 0) hx hb dX4_checks_72 (by decide) ?_
          refine ret_i (wf := rw' G h) go hw dX4_checks_73 ?_
          exact ⟨by simp [ckR, *], rfl⟩
        · skip
          have h64 := bI_1 h64
          refine lv_bipush (v := (-13)) hx hb dX4_checks_67 (by decide) ?_
          refine lv_goto (tgt := 73) hx hb dX4_checks_69 (by decide) ?_
          refine ret_i (wf := rw' G h) go hw dX4_checks_73 ?_
          exact ⟨by simp [ckR, *], rfl⟩
    · skip
      refine lv_aload_n hx hb dX4_checks_18 rfl (lv_at hl 1 rfl) ?_
      refine lv_iload_n hx hb dX4_checks_19 rfl (lv_at hl 2 rfl) ?_
      refine cal_Vi' (kX4_crossed l G h x c0 hc hc5 d hd s0 hs hs0) go hw dX4_checks_20 (And.intro q834 (And.intro q4 q837)) q836 qs38 kyX4_crossed ⟨Nat.le_of_ble_eq_true rfl, Nat.le_of_ble_eq_true rfl⟩ rc_M hl.1 rfl (Nat.le_of_ble_eq_true rfl) ⟨rfl, rfl⟩ ⟨Nat.le_of_ble_eq_true rfl, Nat.le_of_ble_eq_true rfl⟩ (fun H locs hw => ?_)
      refine lv_if_ne (tgt := 30) hx hb dX4_checks_23 (by decide) (fun h23 => ?_) (fun h23 => ?_)
      · skip
        refine lv_iload_n hx hb dX4_checks_30 rfl (lv_at hl 0 rfl) ?_
        refine lv_if_eq (tgt := 39) hx hb dX4_checks_31 (by decide) (fun _ => ?_) (fun q => absurd q (by decide))
        refine lv_bipush (v := (-12)) hx hb dX4_checks_39 (by decide) ?_
        refine ret_i (wf := rw' G h) go hw dX4_checks_41 ?_
        exact ⟨by simp [ckR, *], rfl⟩
      · skip
        refine lv_iconst (v := 0) hx hb dX4_checks_26 (by decide) ?_
        refine lv_goto (tgt := 41) hx hb dX4_checks_27 (by decide) ?_
        refine ret_i (wf := rw' G h) go hw dX4_checks_41 ?_
        exact ⟨by simp [ckR, *], rfl⟩
  · skip
    refine lv_iconst (v := 1) hx hb dX4_checks_8 (by decide) ?_
    refine lv_goto (tgt := 13) hx hb dX4_checks_9 (by decide) ?_
    refine lv_istore_n (lv' := [(3, .int 1), (0, .ref (h 0)), (1, .int (nI d)), (2, .int w)]) hx hb dX4_checks_13 rfl hl (by decide) rfl (fun ls hl => ?_)
    refine lv_iload_n hx hb dX4_checks_14 rfl (lv_at hl 3 rfl) ?_
    refine lv_if_ne (tgt := 42) hx hb dX4_checks_15 (by decide) (fun h15 => ?_) (fun h15 => ?_)
    · skip
      refine lv_iload_n hx hb dX4_checks_42 rfl (lv_at hl 0 rfl) ?_
      refine lv_if_eq (tgt := 49) hx hb dX4_checks_43 (by decide) (fun q => absurd q (by decide)) (fun _ => ?_)
      refine lv_bipush (v := (-11)) hx hb dX4_checks_46 (by decide) ?_
      refine ret_i (wf := rw' G h) go hw dX4_checks_48 ?_
      exact ⟨by simp [ckR, *], rfl⟩
    · skip
      refine lv_aload_n hx hb dX4_checks_18 rfl (lv_at hl 1 rfl) ?_
      refine lv_iload_n hx hb dX4_checks_19 rfl (lv_at hl 2 rfl) ?_
      refine cal_Vi' (kX4_crossed l G h x c0 hc hc5 d hd s0 hs hs0) go hw dX4_checks_20 (And.intro q834 (And.intro q4 q837)) q836 qs38 kyX4_crossed ⟨Nat.le_of_ble_eq_true rfl, Nat.le_of_ble_eq_true rfl⟩ rc_M hl.1 rfl (Nat.le_of_ble_eq_true rfl) ⟨rfl, rfl⟩ ⟨Nat.le_of_ble_eq_true rfl, Nat.le_of_ble_eq_true rfl⟩ (fun H locs hw => ?_)
      refine lv_if_ne (tgt := 30) hx hb dX4_checks_23 (by decide) (fun h23 => ?_) (fun h23 => ?_)
      · skip
        refine lv_iload_n hx hb dX4_checks_30 rfl (lv_at hl 0 rfl) ?_
        refine lv_if_eq (tgt := 39) hx hb dX4_checks_31 (by decide) (fun q => absurd q (by decide)) (fun _ => ?_)
        refine lv_bipush (v := (-11)) hx hb dX4_checks_34 (by decide) ?_
        refine lv_goto (tgt := 41) hx hb dX4_checks_36 (by decide) ?_
        refine ret_i (wf := rw' G h) go hw dX4_checks_41 ?_
        exact ⟨by simp [ckR, *], rfl⟩
      · skip
        refine lv_iconst (v := 0) hx hb dX4_checks_26 (by decide) ?_
        refine lv_goto (tgt := 41) hx hb dX4_checks_27 (by decide) ?_
        refine ret_i (wf := rw' G h) go hw dX4_checks_41 ?_
        exact ⟨by simp [ckR, *], rfl⟩

set_option maxHeartbeats 4000000 in
set_option maxRecDepth 100000 in
theorem kX4_fails (l : Launch) (G : Cx) (h : Nat → Nat) (x : Rg) (d : Nat) (hd : d < 6) (w : Int32) : Cv l G yX4_fails cX4_fails 3 (Rm 1 22) (rw' G h) [.ref (h 0), .int (nI d), .int w] x (fun u => u = faR x d w) := by
  refine Cv.mk (by decide) (Nat.le_of_ble_eq_true rfl) ?_
  intro p e s m below meth c A ls go hw hl
  generalize s.heap = H at hw ⊢
  generalize ([] : List Loc) = locs at hw ⊢
  have hx := go.1
  have hb := go.2.1
  have hl : lv_has ls 3 [(0, .ref (h 0)), (1, .int (nI d)), (2, .int w)] := hl
  refine lv_aload_n hx hb dX4_fails_0 rfl (lv_at hl 0 rfl) ?_
  refine lv_iload_n hx hb dX4_fails_1 rfl (lv_at hl 1 rfl) ?_
  refine lv_iconst (v := 1) hx hb dX4_fails_2 (by decide) ?_
  refine cal_Vv' (kX4_frees l G h x d (by omega) true) go hw dX4_fails_3 (And.intro q740 (And.intro q4 q743)) q742 qs30 kyX4_frees ⟨Nat.le_of_ble_eq_true rfl, Nat.le_of_ble_eq_true rfl⟩ rc_M hl.1 rfl (Nat.le_of_ble_eq_true rfl) ⟨rfl, rfl⟩ ⟨Nat.le_of_ble_eq_true rfl, Nat.le_of_ble_eq_true rfl⟩ (fun H locs hw => ?_)
  refine lv_aload_n hx hb dX4_fails_6 rfl (lv_at hl 0 rfl) ?_
  refine lv_dup hx hb dX4_fails_7 rfl ?_
  refine gMi (k := 19) (v := rI (frR x d true) 19) (by decide) rfl go hw dX4_fails_8 q609 ?_
  refine lv_iconst (v := 1) hx hb dX4_fails_11 (by decide) ?_
  refine lv_iadd hx hb dX4_fails_12 ?_
  refine pM (k := 19) rfl go hw dX4_fails_13 q609 (fun H locs hw => ?_)
  refine lv_aload_n hx hb dX4_fails_16 rfl (lv_at hl 0 rfl) ?_
  refine lv_dup hx hb dX4_fails_17 rfl ?_
  refine gMi (k := 20) (v := rI (frR x d true) 20) (by decide) ((rI_ne (by decide)).trans rfl) go hw dX4_fails_18 q610 ?_
  refine lv_iload_n hx hb dX4_fails_21 rfl (lv_at hl 2 rfl) ?_
  refine lv_bipush (v := (-12)) hx hb dX4_fails_22 (by decide) ?_
  refine lv_icmp_ne (tgt := 31) hx hb dX4_fails_24 (by decide) (fun h24 => ?_) (fun h24 => ?_)
  · skip
    refine lv_iconst (v := 0) hx hb dX4_fails_31 (by decide) ?_
    refine lv_iadd hx hb dX4_fails_32 ?_
    refine pM (k := 20) rfl go hw dX4_fails_33 q610 (fun H locs hw => ?_)
    refine lv_aload_n hx hb dX4_fails_36 rfl (lv_at hl 0 rfl) ?_
    refine lv_dup hx hb dX4_fails_37 rfl ?_
    refine gMi (k := 21) (v := rI (frR x d true) 21) (by decide) ((rI_ne (by decide)).trans ((rI_ne (by decide)).trans rfl)) go hw dX4_fails_38 q611 ?_
    refine lv_iload_n hx hb dX4_fails_41 rfl (lv_at hl 2 rfl) ?_
    refine lv_bipush (v := (-13)) hx hb dX4_fails_42 (by decide) ?_
    refine lv_icmp_ne (tgt := 51) hx hb dX4_fails_44 (by decide) (fun h44 => ?_) (fun h44 => ?_)
    · skip
      refine lv_iconst (v := 0) hx hb dX4_fails_51 (by decide) ?_
      refine lv_iadd hx hb dX4_fails_52 ?_
      refine pM (k := 21) rfl go hw dX4_fails_53 q611 (fun H locs hw => ?_)
      refine ret_v (wf := rw' G h) go hw dX4_fails_56 ?_
      simp [faR, *]
    · skip
      refine lv_iconst (v := 1) hx hb dX4_fails_47 (by decide) ?_
      refine lv_goto (tgt := 52) hx hb dX4_fails_48 (by decide) ?_
      refine lv_iadd hx hb dX4_fails_52 ?_
      refine pM (k := 21) rfl go hw dX4_fails_53 q611 (fun H locs hw => ?_)
      refine ret_v (wf := rw' G h) go hw dX4_fails_56 ?_
      simp [faR, *]
  · skip
    refine lv_iconst (v := 1) hx hb dX4_fails_27 (by decide) ?_
    refine lv_goto (tgt := 32) hx hb dX4_fails_28 (by decide) ?_
    refine lv_iadd hx hb dX4_fails_32 ?_
    refine pM (k := 20) rfl go hw dX4_fails_33 q610 (fun H locs hw => ?_)
    refine lv_aload_n hx hb dX4_fails_36 rfl (lv_at hl 0 rfl) ?_
    refine lv_dup hx hb dX4_fails_37 rfl ?_
    refine gMi (k := 21) (v := rI (frR x d true) 21) (by decide) ((rI_ne (by decide)).trans ((rI_ne (by decide)).trans rfl)) go hw dX4_fails_38 q611 ?_
    refine lv_iload_n hx hb dX4_fails_41 rfl (lv_at hl 2 rfl) ?_
    refine lv_bipush (v := (-13)) hx hb dX4_fails_42 (by decide) ?_
    refine lv_icmp_ne (tgt := 51) hx hb dX4_fails_44 (by decide) (fun _ => ?_) (fun q => absurd (h24.symm.trans q) (by decide))
    refine lv_iconst (v := 0) hx hb dX4_fails_51 (by decide) ?_
    refine lv_iadd hx hb dX4_fails_52 ?_
    refine pM (k := 21) rfl go hw dX4_fails_53 q611 (fun H locs hw => ?_)
    refine ret_v (wf := rw' G h) go hw dX4_fails_56 ?_
    simp [faR, *]

set_option maxHeartbeats 4000000 in
set_option maxRecDepth 100000 in
theorem kX4_allValues (l : Launch) (G : Cx) (h : Nat → Nat) (x : Rg) : Ci l G yX4_allValues cX4_allValues 3 .int (Rm 0 0) (rw' G h) [.ref (h 0)] x (fun r u => r = foI (fun i a => a + rA x 0 i) 0 8 ∧ u = x) := by
  refine Ci.mk (by decide) (Nat.le_of_ble_eq_true rfl) ?_
  intro p e s m below meth c A ls go hw hl
  generalize s.heap = H at hw ⊢
  generalize ([] : List Loc) = locs at hw ⊢
  have hx := go.1
  have hb := go.2.1
  have hl : lv_has ls 3 [(0, .ref (h 0))] := hl
  refine lv_iconst (v := 0) hx hb dX4_allValues_0 (by decide) ?_
  refine lv_istore_n (lv' := [(1, .int 0), (0, .ref (h 0))]) hx hb dX4_allValues_1 rfl hl (by decide) rfl (fun ls hl => ?_)
  refine lv_iconst (v := 0) hx hb dX4_allValues_2 (by decide) ?_
  refine lv_istore_n (lv' := [(2, .int 0), (1, .int 0), (0, .ref (h 0))]) hx hb dX4_allValues_3 rfl hl (by decide) rfl (fun ls hl => ?_)
  have hl0 : lv_has ls 3 [(0, .ref (h 0)), (1, .int (foI (fun i a => a + rA x 0 i) 0 0)), (2, .int (nI 0))] := lv_to (lv_sub (l' := [(0, .ref (h 0)), (1, .int 0), (2, .int 0)]) hl [2, 1, 0] rfl) (lr (lc (show (0 : Int32) = foI (fun i a => a + rA x 0 i) 0 0 from rfl) (lc (show (0 : Int32) = nI 0 from rfl) rfl)))
  refine loop_up (N := 8) (P := fun i H locs ls => Wd G A s H locs (rw' G h x) ∧ lv_has ls 3 [(0, .ref (h 0)), (1, .int (foI (fun i a => a + rA x 0 i) 0 i)), (2, .int (nI i))]) (X := fun H locs ls => W p l e (Rm 0 0) s m ([.ref (h 0)] : List Value).toArray below meth c H locs 0 0 (MQ below (va_Qi (fun r u => r = foI (fun i a => a + rA x 0 i) 0 8 ∧ u = x) (PostW G (rw' G h) A) A) ([.ref (h 0)] : List Value).toArray s (Rm 0 0).cells (Rm 0 0).slots A) (F0 m 4 ls [])) ?_ 0 (by omega) H locs ls ⟨hw, hl0⟩
  clear hl0 hl hw
  intro i hi ih H locs ls hP
  obtain ⟨hw, hl⟩ := hP
  refine lv_iload_n hx hb dX4_allValues_4 rfl (lv_at hl 2 rfl) ?_
  refine lv_bipush (v := 8) hx hb dX4_allValues_5 (by decide) ?_
  refine lv_icmp_ge (tgt := 25) hx hb dX4_allValues_7 (by decide) (fun h7 => ?_) (fun h7 => ?_)
  · skip
    have hE : i = 8 := lp_end h7 rfl rfl hi (by decide)
    subst hE
    refine lv_iload_n hx hb dX4_allValues_25 rfl (lv_at hl 1 rfl) ?_
    refine ret_i (wf := rw' G h) go hw dX4_allValues_26 ?_
    exact ⟨rfl, rfl⟩
  · skip
    have hlt : i < 8 := lp_in h7 rfl rfl hi (by decide)
    refine lv_iload_n hx hb dX4_allValues_10 rfl (lv_at hl 1 rfl) ?_
    refine lv_aload_n hx hb dX4_allValues_11 rfl (lv_at hl 0 rfl) ?_
    refine gM (k := 0) (v := .ref (h 1)) rfl (by decide) rfl go hw dX4_allValues_12 q590 ?_
    refine lv_iload_n hx hb dX4_allValues_15 rfl (lv_at hl 2 rfl) ?_
    refine aM (k := 0) (j := i) rfl (by decide) (by exact hlt) go hw dX4_allValues_16 ?_
    refine lv_iadd hx hb dX4_allValues_17 ?_
    refine lv_istore_n (lv' := [(1, .int ((foI (fun i a => a + rA x 0 i) 0 i) + (rA x 0 i))), (0, .ref (h 0)), (2, .int (nI i))]) hx hb dX4_allValues_18 rfl hl (by decide) rfl (fun ls hl => ?_)
    refine lv_iinc (v := nI (i + 1)) (lv' := [(2, .int (nI (i + 1))), (1, .int ((foI (fun i a => a + rA x 0 i) 0 i) + (rA x 0 i))), (0, .ref (h 0))]) hx hb dX4_allValues_19 hl (k := 2) rfl (nI_1 _) (by decide) rfl (fun ls hl => ?_)
    refine lv_goto (tgt := 4) hx hb dX4_allValues_22 (by decide) ?_
    have hl9 : lv_has ls 3 [(0, .ref (h 0)), (1, .int (foI (fun i a => a + rA x 0 i) 0 (i + 1))), (2, .int (nI (i + 1)))] := lv_to (lv_sub (l' := [(0, .ref (h 0)), (1, .int ((foI (fun i a => a + rA x 0 i) 0 i) + (rA x 0 i))), (2, .int (nI (i + 1)))]) hl [2, 1, 0] rfl) (lr (lc (show ((foI (fun i a => a + rA x 0 i) 0 i) + (rA x 0 i) : Int32) = foI (fun i a => a + rA x 0 i) 0 (i + 1) from rfl) (lr rfl)))
    exact ih _ _ _ (by omega) ⟨hw, hl9⟩

set_option maxHeartbeats 4000000 in
set_option maxRecDepth 100000 in
theorem kX4_isCommit (l : Launch) (G : Cx) (h : Nat → Nat) (x : Rg) (c0 : Nat) (hc : rI x 2 = nI c0) (k : Int32) : Ci l G yX4_isCommit cX4_isCommit 2 .boolean (Rm 1 25) (rw' G h) [.ref (h 0), .int k] x (fun r u => r = bI (okE c0 k) ∧ u = x) := by
  refine Ci.mk (by decide) (Nat.le_of_ble_eq_true rfl) ?_
  intro p e s m below meth c A ls go hw hl
  generalize s.heap = H at hw ⊢
  generalize ([] : List Loc) = locs at hw ⊢
  have hx := go.1
  have hb := go.2.1
  have hl : lv_has ls 2 [(0, .ref (h 0)), (1, .int k)] := hl
  refine lv_iload_n hx hb dX4_isCommit_0 rfl (lv_at hl 1 rfl) ?_
  refine lv_i2l hx hb dX4_isCommit_1 rfl ?_
  refine lv_lconst (v := 1) hx hb dX4_isCommit_2 rfl ?_
  refine lv_aload_n hx hb dX4_isCommit_3 rfl (lv_at hl 0 rfl) ?_
  refine gMi (k := 2) (v := nI c0) (by decide) hc go hw dX4_isCommit_4 q592 ?_
  refine lv_i2l hx hb dX4_isCommit_7 rfl ?_
  refine cal_S (kX4_in l G k.toInt64 1 ((nI c0).toInt64)) go hw.2.2.1 hw.2.2.2.1 dX4_isCommit_8 (And.intro q687 (And.intro q4 q689)) q688 kyX4_in ⟨rfl, rfl⟩ ⟨Nat.le_of_ble_eq_true rfl, Nat.le_of_ble_eq_true rfl⟩ hl.1 rfl (Nat.le_of_ble_eq_true rfl) ⟨Nat.le_of_ble_eq_true rfl, Nat.le_of_ble_eq_true rfl⟩ ?_
  refine ret_z (wf := rw' G h) go hw dX4_isCommit_11 (bI_z _).1 ?_
  exact ⟨by rw [inL_ok], rfl⟩
