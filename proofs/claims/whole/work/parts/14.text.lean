/-! ===== the text: letters, tokens ===== -/
def chB (i k : Nat) : Int32 := (bytJ.getD i []).getD k 0
theorem chB_m : ∀ i, i < 13 → ∀ k, k < lenJ.getD i 0 → chB i k &&& 255 = chB i k := by decide +kernel
theorem chB_c (i : Nat) (hi : i < 13) (k : Nat) (hk : k < lenJ.getD i 0) : ((chB i k &&& 255).toUInt32 % 65536).toInt32 = chB i k ∧ narrow .char (.int (chB i k)) = .int (chB i k) := by
  have h := chB_m i hi k hk
  refine ⟨(sc_c2 _).trans h, ?_⟩
  have h2 := sc_nar (chB i k)
  rw [h] at h2
  exact h2
theorem lenJ_5 : ∀ i, i < 13 → lenJ.getD i 0 ≤ 5 := by decide +kernel
def dgB (c : Int32) : Bool := !decide (c < 48) && !decide (57 < c)
def smB (c : Int32) : Bool := !decide (c < 97) && !decide (122 < c)
def oneB (a b : Int32) : Bool := dgB a && dgB b || smB a && smB b
def runN (p : Nat → Bool) : Nat → Nat → Nat
  | 0, b => b
  | k + 1, b => if p b then runN p k (b + 1) else b
theorem runN_t {p : Nat → Bool} {a t : Nat} (h : a < t) (hp : p a = true) : runN p (t - (a + 1)) (a + 1) = runN p (t - a) a := by
  rw [show t - a = (t - (a + 1)) + 1 by omega, runN, if_pos hp]
theorem runN_f {p : Nat → Bool} {a k : Nat} (hp : p a = false) : runN p k a = a := by
  cases k with
  | zero => rfl
  | succ k => rw [runN, if_neg (by rw [hp]; decide)]
theorem runN_end {p : Nat → Bool} {a t : Nat} (h : a = t) : runN p (t - a) a = a := by rw [h, Nat.sub_self]; rfl
theorem runN_b {p : Nat → Bool} : ∀ (k b : Nat), b ≤ runN p k b ∧ runN p k b ≤ b + k
  | 0, b => ⟨Nat.le_refl _, Nat.le_refl _⟩
  | k + 1, b => by
    rw [runN]
    split
    · have := runN_b (p := p) k (b + 1)
      omega
    · omega
def tkS (L : Nat → Int32) (t b : Nat) : Nat := runN (fun a => decide (L a = 32)) (t - b) b
def tkE (L : Nat → Int32) (t s : Nat) : Nat := if s < t then runN (fun a => oneB (L s) (L a)) (t - (s + 1)) (s + 1) else s
def nxK (L : Nat → Int32) (t s : Nat) : Nat := tkS L t (tkE L t s)
theorem tkS_b {L : Nat → Int32} {t b : Nat} (h : b ≤ t) : b ≤ tkS L t b ∧ tkS L t b ≤ t := by
  have := runN_b (p := fun a => decide (L a = 32)) (t - b) b
  unfold tkS
  omega
theorem tkE_b {L : Nat → Int32} {t s : Nat} (h : s ≤ t) : s ≤ tkE L t s ∧ tkE L t s ≤ t := by
  unfold tkE
  split
  · have := runN_b (p := fun a => oneB (L s) (L a)) (t - (s + 1)) (s + 1)
    omega
  · omega
theorem nxK_b {L : Nat → Int32} {t s : Nat} (h : s ≤ t) : s ≤ nxK L t s ∧ nxK L t s ≤ t := by
  have h1 := tkE_b (L := L) h
  have h2 := tkS_b (L := L) h1.2
  unfold nxK
  omega
theorem tkE_s {L : Nat → Int32} {t s : Nat} (h : s < t) : s < tkE L t s := by
  unfold tkE
  rw [if_pos h]
  have := runN_b (p := fun a => oneB (L s) (L a)) (t - (s + 1)) (s + 1)
  omega
theorem nxK_s {L : Nat → Int32} {t s : Nat} (h : s < t) : s < nxK L t s := by
  have h1 := tkE_s (L := L) h
  have h2 := tkE_b (L := L) (Nat.le_of_lt h)
  have h3 := tkS_b (L := L) h2.2
  unfold nxK
  omega
def ltA (L : Nat → Int32) (t a : Nat) : Int32 := if a < t then L a else -1
def nuA (f : Nat → Int32) (s : Nat) : Nat → Int32
  | 0 => 0
  | k + 1 => nuA f s k * 10 + f (s + k) - 48
def nuV (L : Nat → Int32) (t s : Nat) : Int32 := if dgB (ltA L t s) = true ∧ nI (tkE L t s) - nI s ≤ 4 then nuA (ltA L t) s (tkE L t s - s) else -1
def wdB (L : Nat → Int32) (t s w : Nat) : Bool := decide (nI (tkE L t s) - nI s = nI (lenJ.getD w 0)) && !exB (fun k => !decide (ltA L t (s + k) = chB w k)) (lenJ.getD w 0)
/-- the same value, not unfolded -/
def hid (n : Nat) (a : Int32) : Int32 := if n = 0 then a else hid (n - 1) a
termination_by n
decreasing_by omega
theorem hid_eq (a : Int32) : hid 0 a = a := by rw [hid, if_pos rfl]
def kdI (L : Nat → Int32) (t s : Nat) : Int32 := hid 0 (fstI (wdB L t s) 7)
theorem kdI_eq (L : Nat → Int32) (t s : Nat) : kdI L t s = fstI (wdB L t s) 7 := hid_eq _
theorem fstI_of {p : Nat → Bool} {n : Nat} (h : ¬ fstI p n = -1) : ∃ k, k < n ∧ fstI p n = nI k := by
  unfold fstI at h ⊢
  by_cases q : fstN p n < n
  · exact ⟨_, q, if_pos q⟩
  · exact absurd (if_neg q) h
/-- the token begins at s -/
def stT (x : Sg) (t s : Nat) : Sg := pI (pI x 1 5 (nI s)) 1 6 (nI (tkE (sA x 1 0) t s))
def fmJ (k : Nat) : Nat := [7, 8, 9, 10, 11, 12, 10].getD k 7
theorem fmJ_13 (k : Nat) : fmJ k < 13 := by
  rcases Nat.lt_or_ge k 7 with h | h
  · rcases (show k = 0 ∨ k = 1 ∨ k = 2 ∨ k = 3 ∨ k = 4 ∨ k = 5 ∨ k = 6 by omega) with rfl | rfl | rfl | rfl | rfl | rfl | rfl <;> decide
  · have : fmJ k = 7 := by simp [fmJ, List.getD, List.getElem?_eq_none (show ([7, 8, 9, 10, 11, 12, 10] : List Nat).length ≤ k from h)]
    omega
theorem fmJ_3 {k : Nat} (h : k < 7) : lenJ.getD (fmJ k) 0 ≤ 3 := by
  rcases (show k = 0 ∨ k = 1 ∨ k = 2 ∨ k = 3 ∨ k = 4 ∨ k = 5 ∨ k = 6 by omega) with rfl | rfl | rfl | rfl | rfl | rfl | rfl <;> decide
def lsI (c : Int32) : Int32 := if c = 78 then 1 else 0
def moI (c : Int32) : Int32 := if c = 73 then 7 else if c = 78 then 9 else if c = 86 then 9999 else 5

set_option maxHeartbeats 4000000 in
set_option maxRecDepth 100000 in
theorem kJ0_coder_7d493 (l : Launch) (G : Cx) (i : Nat) (hi : i < 13) : Si l G yJ0_coder_7d493 cJ0_coder_7d493 1 .byte (Rm 0 0) [.ref (G.2.2.1 i)] (fun r => r = 0) := by
  refine Si.mk (by decide) (Nat.le_of_ble_eq_true rfl) ?_
  intro p e s m below meth c A ls go hk hl
  have hS : va_S A s.heap s.heap [] := va_S.rf
  have hx := go.1
  have hb := go.2.1
  have hl : lv_has ls 1 [(0, .ref (G.2.2.1 i))] := hl
  refine va_gets hx hb hk.2.2.2.2.2.1 hS go.2.2.2.2.1 (go.2.2.2.2.2.1 _ q231) (fun _ h => h) dJ0_coder_7d493_0 ?_
  refine lv_if_eq (tgt := 13) hx hb dJ0_coder_7d493_3 (by decide) (fun q => absurd q (by decide)) (fun _ => ?_)
  refine lv_aload_n hx hb dJ0_coder_7d493_6 rfl (lv_at hl 0 rfl) ?_
  refine vk_getf hx hb (hk.2.2.2.1.1 i hi).2.1 hS go.2.2.2.2.1 (go.2.2.2.2.2.1 _ q924) (fun _ h => h) dJ0_coder_7d493_7 ?_
  refine lv_goto (tgt := 14) hx hb dJ0_coder_7d493_10 (by decide) ?_
  refine ret_sc go dJ0_coder_7d493_14 rfl ?_
  rfl

set_option maxHeartbeats 4000000 in
set_option maxRecDepth 100000 in
theorem kJ0_length_8abf5 (l : Launch) (G : Cx) (i : Nat) (hi : i < 13) : Si l G yJ0_length_8abf5 cJ0_length_8abf5 1 .int (Rm 1 20) [.ref (G.2.2.1 i)] (fun r => r = nI (lenJ.getD i 0)) := by
  refine Si.mk (by decide) (Nat.le_of_ble_eq_true rfl) ?_
  intro p e s m below meth c A ls go hk hl
  have hS : va_S A s.heap s.heap [] := va_S.rf
  have hx := go.1
  have hb := go.2.1
  have hl : lv_has ls 1 [(0, .ref (G.2.2.1 i))] := hl
  refine lv_aload_n hx hb dJ0_length_8abf5_0 rfl (lv_at hl 0 rfl) ?_
  refine vk_getf hx hb (hk.2.2.2.1.1 i hi).2.2.1 hS go.2.2.2.2.1 (go.2.2.2.2.2.1 _ q923) (fun _ h => h) dJ0_length_8abf5_1 ?_
  refine va_tlen hx hb (hk.2.2.2.1.1 i hi).2.2.2 hS rfl dJ0_length_8abf5_4 ?_
  refine lv_aload_n hx hb dJ0_length_8abf5_5 rfl (lv_at hl 0 rfl) ?_
  refine cal_VS (kJ0_coder_7d493 l G i hi) go hS hk dJ0_length_8abf5_6 (And.intro q227 (And.intro q5 q230)) q228 q229 kyJ0_coder_7d493 ⟨rfl, rfl⟩ ⟨Nat.le_of_ble_eq_true rfl, Nat.le_of_ble_eq_true rfl⟩ (vk_recv hk.2.2.2.1 hi hS) hl.1 rfl (Nat.le_of_ble_eq_true rfl) ⟨Nat.le_of_ble_eq_true rfl, Nat.le_of_ble_eq_true rfl⟩ ?_
  refine lv_ishr hx hb dJ0_length_8abf5_9 ?_
  refine ret_si go dJ0_length_8abf5_10 ?_
  exact sc_shr0 (by have := lenJ_5 i hi; omega)

set_option maxHeartbeats 4000000 in
set_option maxRecDepth 100000 in
theorem kJ0_isLatin1_aae02 (l : Launch) (G : Cx) (i : Nat) (hi : i < 13) : Si l G yJ0_isLatin1_aae02 cJ0_isLatin1_aae02 1 .boolean (Rm 0 0) [.ref (G.2.2.1 i)] (fun r => r = 1) := by
  refine Si.mk (by decide) (Nat.le_of_ble_eq_true rfl) ?_
  intro p e s m below meth c A ls go hk hl
  have hS : va_S A s.heap s.heap [] := va_S.rf
  have hx := go.1
  have hb := go.2.1
  have hl : lv_has ls 1 [(0, .ref (G.2.2.1 i))] := hl
  refine va_gets hx hb hk.2.2.2.2.2.1 hS go.2.2.2.2.1 (go.2.2.2.2.2.1 _ q231) (fun _ h => h) dJ0_isLatin1_aae02_0 ?_
  refine lv_if_eq (tgt := 17) hx hb dJ0_isLatin1_aae02_3 (by decide) (fun q => absurd q (by decide)) (fun _ => ?_)
  refine lv_aload_n hx hb dJ0_isLatin1_aae02_6 rfl (lv_at hl 0 rfl) ?_
  refine vk_getf hx hb (hk.2.2.2.1.1 i hi).2.1 hS go.2.2.2.2.1 (go.2.2.2.2.2.1 _ q924) (fun _ h => h) dJ0_isLatin1_aae02_7 ?_
  refine lv_if_ne (tgt := 17) hx hb dJ0_isLatin1_aae02_10 (by decide) (fun q => absurd q (by decide)) (fun _ => ?_)
  refine lv_iconst (v := 1) hx hb dJ0_isLatin1_aae02_13 (by decide) ?_
  refine lv_goto (tgt := 18) hx hb dJ0_isLatin1_aae02_14 (by decide) ?_
  refine ret_sz go dJ0_isLatin1_aae02_18 rfl ?_
  rfl

set_option maxHeartbeats 4000000 in
set_option maxRecDepth 100000 in
theorem kJ3_checkIndex_8e157 (l : Launch) (G : Cx) (k n : Nat) (hkn : k < n) (hn : n < 2 ^ 31) (f : Option Nat) : Si l G yJ3_checkIndex_8e157 cJ3_checkIndex_8e157 3 .int (Rm 0 0) [.int (nI k), .int (nI n), va_rf f] (fun r => r = nI k) := by
  refine Si.mk (by decide) (by cases f <;> exact Nat.le_of_ble_eq_true rfl) ?_
  intro p e s m below meth c A ls go hk hl
  have hS : va_S A s.heap s.heap [] := va_S.rf
  have hx := go.1
  have hb := go.2.1
  have hl : lv_has ls 3 [(0, .int (nI k)), (1, .int (nI n)), (2, va_rf f)] := hl
  refine lv_iload_n hx hb dJ3_checkIndex_8e157_0 rfl (lv_at hl 0 rfl) ?_
  refine lv_if_lt (tgt := 9) hx hb dJ3_checkIndex_8e157_1 (by decide) (fun h1 => absurd h1 (by exact nI_pos (by omega))) (fun h1 => ?_)
  refine lv_iload_n hx hb dJ3_checkIndex_8e157_4 rfl (lv_at hl 0 rfl) ?_
  refine lv_iload_n hx hb dJ3_checkIndex_8e157_5 rfl (lv_at hl 1 rfl) ?_
  refine lv_icmp_lt (tgt := 16) hx hb dJ3_checkIndex_8e157_6 (by decide) (fun h6 => ?_) (fun h6 => absurd h6 (by exact fun q => q (nI_lt hkn hn)))
  refine lv_iload_n hx hb dJ3_checkIndex_8e157_16 rfl (lv_at hl 0 rfl) ?_
  refine ret_si go dJ3_checkIndex_8e157_17 ?_
  rfl

set_option maxHeartbeats 4000000 in
set_option maxRecDepth 100000 in
theorem kJ0_checkIndex_df160 (l : Launch) (G : Cx) (k n : Nat) (hkn : k < n) (hn : n < 2 ^ 31) : Sv l G yJ0_checkIndex_df160 cJ0_checkIndex_df160 2 (Rm 1 22) [.int (nI k), .int (nI n)] := by
  refine Sv.mk (by decide) (Nat.le_of_ble_eq_true rfl) ?_
  intro p e s m below meth c A ls go hk hl
  have hS : va_S A s.heap s.heap [] := va_S.rf
  have hx := go.1
  have hb := go.2.1
  have hl : lv_has ls 2 [(0, .int (nI k)), (1, .int (nI n))] := hl
  refine lv_iload_n hx hb dJ0_checkIndex_df160_0 rfl (lv_at hl 0 rfl) ?_
  refine lv_iload_n hx hb dJ0_checkIndex_df160_1 rfl (lv_at hl 1 rfl) ?_
  rcases hk.2.2.2.2.2.2 with hZ | ⟨f0, hZ⟩
  · refine va_gets hx hb hZ hS go.2.2.2.2.1 (go.2.2.2.2.2.1 _ q247) (fun _ h => h) dJ0_checkIndex_df160_2 ?_
    refine cal_S (kJ3_checkIndex_8e157 l G k n hkn hn none) go hS hk dJ0_checkIndex_df160_5 (And.intro q249 (And.intro q7 q251)) q250 kyJ3_checkIndex_8e157 ⟨rfl, rfl⟩ ⟨Nat.le_of_ble_eq_true rfl, Nat.le_of_ble_eq_true rfl⟩ hl.1 rfl (Nat.le_of_ble_eq_true rfl) ⟨Nat.le_of_ble_eq_true rfl, Nat.le_of_ble_eq_true rfl⟩ ?_
    refine lv_pop hx hb dJ0_checkIndex_df160_8 rfl ?_
    exact ret_sv go dJ0_checkIndex_df160_9
  · refine va_gets hx hb hZ hS go.2.2.2.2.1 (go.2.2.2.2.2.1 _ q247) (fun _ h => h) dJ0_checkIndex_df160_2 ?_
    refine cal_S (kJ3_checkIndex_8e157 l G k n hkn hn (some f0)) go hS hk dJ0_checkIndex_df160_5 (And.intro q249 (And.intro q7 q251)) q250 kyJ3_checkIndex_8e157 ⟨rfl, rfl⟩ ⟨Nat.le_of_ble_eq_true rfl, Nat.le_of_ble_eq_true rfl⟩ hl.1 rfl (Nat.le_of_ble_eq_true rfl) ⟨Nat.le_of_ble_eq_true rfl, Nat.le_of_ble_eq_true rfl⟩ ?_
    refine lv_pop hx hb dJ0_checkIndex_df160_8 rfl ?_
    exact ret_sv go dJ0_checkIndex_df160_9

set_option maxHeartbeats 4000000 in
set_option maxRecDepth 100000 in
theorem kJ1_charAt_3b067 (l : Launch) (G : Cx) (i : Nat) (hi : i < 13) (k : Nat) (hkk : k < lenJ.getD i 0) : Si l G yJ1_charAt_3b067 cJ1_charAt_3b067 2 .char (Rm 2 43) [.ref (G.2.2.2 i), .int (nI k)] (fun r => r = chB i k) := by
  refine Si.mk (by decide) (Nat.le_of_ble_eq_true rfl) ?_
  intro p e s m below meth c A ls go hk hl
  have hS : va_S A s.heap s.heap [] := va_S.rf
  have hx := go.1
  have hb := go.2.1
  have hl : lv_has ls 2 [(0, .ref (G.2.2.2 i)), (1, .int (nI k))] := hl
  refine lv_iload_n hx hb dJ1_charAt_3b067_0 rfl (lv_at hl 1 rfl) ?_
  refine lv_aload_n hx hb dJ1_charAt_3b067_1 rfl (lv_at hl 0 rfl) ?_
  refine va_tlen hx hb (hk.2.2.2.1.1 i hi).2.2.2 hS rfl dJ1_charAt_3b067_2 ?_
  refine cal_Sv (kJ0_checkIndex_df160 l G k (lenJ.getD i 0) hkk (by have := lenJ_5 i hi; omega)) go hS hk dJ1_charAt_3b067_3 (And.intro q244 (And.intro q5 q246)) q245 kyJ0_checkIndex_df160 ⟨rfl, rfl⟩ ⟨Nat.le_of_ble_eq_true rfl, Nat.le_of_ble_eq_true rfl⟩ hl.1 rfl (Nat.le_of_ble_eq_true rfl) ⟨Nat.le_of_ble_eq_true rfl, Nat.le_of_ble_eq_true rfl⟩ ?_
  refine lv_aload_n hx hb dJ1_charAt_3b067_6 rfl (lv_at hl 0 rfl) ?_
  refine lv_iload_n hx hb dJ1_charAt_3b067_7 rfl (lv_at hl 1 rfl) ?_
  refine va_tb hx hb (hk.2.2.2.1.1 i hi).2.2.2 hS (vp_in_nI hkk (by have := lenJ_5 i hi; omega)) (v := .int (chB i k)) (by show Value.int ((bytJ.getD i []).getD (nI k).toNatClampNeg 0) = _; rw [nI_clamp (by have := lenJ_5 i hi; omega)]; rfl) dJ1_charAt_3b067_8 ?_
  refine lv_sipush (v := 255) hx hb dJ1_charAt_3b067_9 (by decide) ?_
  refine lv_iand hx hb dJ1_charAt_3b067_12 ?_
  refine lv_i2c hx hb dJ1_charAt_3b067_13 rfl ?_
  refine toI (show (((chB i k) &&& 255).toUInt32 % 65536).toInt32 = chB i k from by exact (chB_c i hi k hkk).1) ?_
  refine ret_sc go dJ1_charAt_3b067_14 (chB_c i hi k hkk).2 ?_
  rfl

set_option maxHeartbeats 4000000 in
set_option maxRecDepth 100000 in
theorem kJ0_charAt_5068e (l : Launch) (G : Cx) (i : Nat) (hi : i < 13) (k : Nat) (hkk : k < lenJ.getD i 0) : Si l G yJ0_charAt_5068e cJ0_charAt_5068e 2 .char (Rm 3 64) [.ref (G.2.2.1 i), .int (nI k)] (fun r => r = chB i k) := by
  refine Si.mk (by decide) (Nat.le_of_ble_eq_true rfl) ?_
  intro p e s m below meth c A ls go hk hl
  have hS : va_S A s.heap s.heap [] := va_S.rf
  have hx := go.1
  have hb := go.2.1
  have hl : lv_has ls 2 [(0, .ref (G.2.2.1 i)), (1, .int (nI k))] := hl
  refine lv_aload_n hx hb dJ0_charAt_5068e_0 rfl (lv_at hl 0 rfl) ?_
  refine cal_VS (kJ0_isLatin1_aae02 l G i hi) go hS hk dJ0_charAt_5068e_1 (And.intro q237 (And.intro q5 q240)) q238 q239 kyJ0_isLatin1_aae02 ⟨rfl, rfl⟩ ⟨Nat.le_of_ble_eq_true rfl, Nat.le_of_ble_eq_true rfl⟩ (vk_recv hk.2.2.2.1 hi hS) hl.1 rfl (Nat.le_of_ble_eq_true rfl) ⟨Nat.le_of_ble_eq_true rfl, Nat.le_of_ble_eq_true rfl⟩ ?_
  refine lv_if_eq (tgt := 16) hx hb dJ0_charAt_5068e_4 (by decide) (fun q => absurd q (by decide)) (fun _ => ?_)
  refine lv_aload_n hx hb dJ0_charAt_5068e_7 rfl (lv_at hl 0 rfl) ?_
  refine vk_getf hx hb (hk.2.2.2.1.1 i hi).2.2.1 hS go.2.2.2.2.1 (go.2.2.2.2.2.1 _ q923) (fun _ h => h) dJ0_charAt_5068e_8 ?_
  refine lv_iload_n hx hb dJ0_charAt_5068e_11 rfl (lv_at hl 1 rfl) ?_
  refine cal_S (kJ1_charAt_3b067 l G i hi k hkk) go hS hk dJ0_charAt_5068e_12 (And.intro q241 (And.intro q6 q243)) q242 kyJ1_charAt_3b067 ⟨rfl, rfl⟩ ⟨Nat.le_of_ble_eq_true rfl, Nat.le_of_ble_eq_true rfl⟩ hl.1 rfl (Nat.le_of_ble_eq_true rfl) ⟨Nat.le_of_ble_eq_true rfl, Nat.le_of_ble_eq_true rfl⟩ ?_
  refine ret_sc go dJ0_charAt_5068e_15 (chB_c i hi k hkk).2 ?_
  rfl

set_option maxHeartbeats 4000000 in
set_option maxRecDepth 100000 in
theorem kX2_isDigit (l : Launch) (G : Cx) (a : Int32) : Si l G yX2_isDigit cX2_isDigit 1 .boolean (Rm 0 0) [.int a] (fun r => r = bI (dgB a)) := by
  refine Si.mk (by decide) (Nat.le_of_ble_eq_true rfl) ?_
  intro p e s m below meth c A ls go hk hl
  have hS : va_S A s.heap s.heap [] := va_S.rf
  have hx := go.1
  have hb := go.2.1
  have hl : lv_has ls 1 [(0, .int a)] := hl
  refine lv_iload_n hx hb dX2_isDigit_0 rfl (lv_at hl 0 rfl) ?_
  refine lv_bipush (v := 48) hx hb dX2_isDigit_1 (by decide) ?_
  refine lv_icmp_lt (tgt := 16) hx hb dX2_isDigit_3 (by decide) (fun h3 => ?_) (fun h3 => ?_)
  · skip
    refine lv_iconst (v := 0) hx hb dX2_isDigit_16 (by decide) ?_
    refine ret_sz go dX2_isDigit_17 rfl ?_
    simp [dgB, bI, *]
  · skip
    refine lv_iload_n hx hb dX2_isDigit_6 rfl (lv_at hl 0 rfl) ?_
    refine lv_bipush (v := 57) hx hb dX2_isDigit_7 (by decide) ?_
    refine lv_icmp_gt (tgt := 16) hx hb dX2_isDigit_9 (by decide) (fun h9 => ?_) (fun h9 => ?_)
    · skip
      refine lv_iconst (v := 0) hx hb dX2_isDigit_16 (by decide) ?_
      refine ret_sz go dX2_isDigit_17 rfl ?_
      simp [dgB, bI, *]
    · skip
      refine lv_iconst (v := 1) hx hb dX2_isDigit_12 (by decide) ?_
      refine lv_goto (tgt := 17) hx hb dX2_isDigit_13 (by decide) ?_
      refine ret_sz go dX2_isDigit_17 rfl ?_
      simp [dgB, bI, *]

set_option maxHeartbeats 4000000 in
set_option maxRecDepth 100000 in
theorem kX2_isSmall (l : Launch) (G : Cx) (a : Int32) : Si l G yX2_isSmall cX2_isSmall 1 .boolean (Rm 0 0) [.int a] (fun r => r = bI (smB a)) := by
  refine Si.mk (by decide) (Nat.le_of_ble_eq_true rfl) ?_
  intro p e s m below meth c A ls go hk hl
  have hS : va_S A s.heap s.heap [] := va_S.rf
  have hx := go.1
  have hb := go.2.1
  have hl : lv_has ls 1 [(0, .int a)] := hl
  refine lv_iload_n hx hb dX2_isSmall_0 rfl (lv_at hl 0 rfl) ?_
  refine lv_bipush (v := 97) hx hb dX2_isSmall_1 (by decide) ?_
  refine lv_icmp_lt (tgt := 16) hx hb dX2_isSmall_3 (by decide) (fun h3 => ?_) (fun h3 => ?_)
  · skip
    refine lv_iconst (v := 0) hx hb dX2_isSmall_16 (by decide) ?_
    refine ret_sz go dX2_isSmall_17 rfl ?_
    simp [smB, bI, *]
  · skip
    refine lv_iload_n hx hb dX2_isSmall_6 rfl (lv_at hl 0 rfl) ?_
    refine lv_bipush (v := 122) hx hb dX2_isSmall_7 (by decide) ?_
    refine lv_icmp_gt (tgt := 16) hx hb dX2_isSmall_9 (by decide) (fun h9 => ?_) (fun h9 => ?_)
    · skip
      refine lv_iconst (v := 0) hx hb dX2_isSmall_16 (by decide) ?_
      refine ret_sz go dX2_isSmall_17 rfl ?_
      simp [smB, bI, *]
    · skip
      refine lv_iconst (v := 1) hx hb dX2_isSmall_12 (by decide) ?_
      refine lv_goto (tgt := 17) hx hb dX2_isSmall_13 (by decide) ?_
      refine ret_sz go dX2_isSmall_17 rfl ?_
      simp [smB, bI, *]

set_option maxHeartbeats 4000000 in
set_option maxRecDepth 100000 in
theorem kX2_areOfOneRow (l : Launch) (G : Cx) (a b : Int32) : Si l G yX2_areOfOneRow cX2_areOfOneRow 2 .boolean (Rm 1 20) [.int a, .int b] (fun r => r = bI (oneB a b)) := by
  refine Si.mk (by decide) (Nat.le_of_ble_eq_true rfl) ?_
  intro p e s m below meth c A ls go hk hl
  have hS : va_S A s.heap s.heap [] := va_S.rf
  have hx := go.1
  have hb := go.2.1
  have hl : lv_has ls 2 [(0, .int a), (1, .int b)] := hl
  refine lv_iload_n hx hb dX2_areOfOneRow_0 rfl (lv_at hl 0 rfl) ?_
  refine cal_S (kX2_isDigit l G a) go hS hk dX2_areOfOneRow_1 (And.intro q195 (And.intro q2 q197)) q196 kyX2_isDigit ⟨rfl, rfl⟩ ⟨Nat.le_of_ble_eq_true rfl, Nat.le_of_ble_eq_true rfl⟩ hl.1 rfl (Nat.le_of_ble_eq_true rfl) ⟨Nat.le_of_ble_eq_true rfl, Nat.le_of_ble_eq_true rfl⟩ ?_
  refine lv_if_eq (tgt := 14) hx hb dX2_areOfOneRow_4 (by decide) (fun h4 => ?_) (fun h4 => ?_)
  · skip
    have h4 := bI_0 h4
    refine lv_iload_n hx hb dX2_areOfOneRow_14 rfl (lv_at hl 0 rfl) ?_
    refine cal_S (kX2_isSmall l G a) go hS hk dX2_areOfOneRow_15 (And.intro q198 (And.intro q2 q200)) q199 kyX2_isSmall ⟨rfl, rfl⟩ ⟨Nat.le_of_ble_eq_true rfl, Nat.le_of_ble_eq_true rfl⟩ hl.1 rfl (Nat.le_of_ble_eq_true rfl) ⟨Nat.le_of_ble_eq_true rfl, Nat.le_of_ble_eq_true rfl⟩ ?_
    refine lv_if_eq (tgt := 32) hx hb dX2_areOfOneRow_18 (by decide) (fun h18 => ?_) (fun h18 => ?_)
    · skip
      have h18 := bI_0 h18
      refine lv_iconst (v := 0) hx hb dX2_areOfOneRow_32 (by decide) ?_
      refine ret_sz go dX2_areOfOneRow_33 rfl ?_
      simp [oneB, bI, *]
    · skip
      have h18 := bI_1 h18
      refine lv_iload_n hx hb dX2_areOfOneRow_21 rfl (lv_at hl 1 rfl) ?_
      refine cal_S (kX2_isSmall l G b) go hS hk dX2_areOfOneRow_22 (And.intro q198 (And.intro q2 q200)) q199 kyX2_isSmall ⟨rfl, rfl⟩ ⟨Nat.le_of_ble_eq_true rfl, Nat.le_of_ble_eq_true rfl⟩ hl.1 rfl (Nat.le_of_ble_eq_true rfl) ⟨Nat.le_of_ble_eq_true rfl, Nat.le_of_ble_eq_true rfl⟩ ?_
      refine lv_if_eq (tgt := 32) hx hb dX2_areOfOneRow_25 (by decide) (fun h25 => ?_) (fun h25 => ?_)
      · skip
        have h25 := bI_0 h25
        refine lv_iconst (v := 0) hx hb dX2_areOfOneRow_32 (by decide) ?_
        refine ret_sz go dX2_areOfOneRow_33 rfl ?_
        simp [oneB, bI, *]
      · skip
        have h25 := bI_1 h25
        refine lv_iconst (v := 1) hx hb dX2_areOfOneRow_28 (by decide) ?_
        refine lv_goto (tgt := 33) hx hb dX2_areOfOneRow_29 (by decide) ?_
        refine ret_sz go dX2_areOfOneRow_33 rfl ?_
        simp [oneB, bI, *]
  · skip
    have h4 := bI_1 h4
    refine lv_iload_n hx hb dX2_areOfOneRow_7 rfl (lv_at hl 1 rfl) ?_
    refine cal_S (kX2_isDigit l G b) go hS hk dX2_areOfOneRow_8 (And.intro q195 (And.intro q2 q197)) q196 kyX2_isDigit ⟨rfl, rfl⟩ ⟨Nat.le_of_ble_eq_true rfl, Nat.le_of_ble_eq_true rfl⟩ hl.1 rfl (Nat.le_of_ble_eq_true rfl) ⟨Nat.le_of_ble_eq_true rfl, Nat.le_of_ble_eq_true rfl⟩ ?_
    refine lv_if_ne (tgt := 28) hx hb dX2_areOfOneRow_11 (by decide) (fun h11 => ?_) (fun h11 => ?_)
    · skip
      have h11 := bI_1 h11
      refine lv_iconst (v := 1) hx hb dX2_areOfOneRow_28 (by decide) ?_
      refine lv_goto (tgt := 33) hx hb dX2_areOfOneRow_29 (by decide) ?_
      refine ret_sz go dX2_areOfOneRow_33 rfl ?_
      simp [oneB, bI, *]
    · skip
      have h11 := bI_0 h11
      refine lv_iload_n hx hb dX2_areOfOneRow_14 rfl (lv_at hl 0 rfl) ?_
      refine cal_S (kX2_isSmall l G a) go hS hk dX2_areOfOneRow_15 (And.intro q198 (And.intro q2 q200)) q199 kyX2_isSmall ⟨rfl, rfl⟩ ⟨Nat.le_of_ble_eq_true rfl, Nat.le_of_ble_eq_true rfl⟩ hl.1 rfl (Nat.le_of_ble_eq_true rfl) ⟨Nat.le_of_ble_eq_true rfl, Nat.le_of_ble_eq_true rfl⟩ ?_
      refine lv_if_eq (tgt := 32) hx hb dX2_areOfOneRow_18 (by decide) (fun h18 => ?_) (fun h18 => ?_)
      · skip
        have h18 := bI_0 h18
        refine lv_iconst (v := 0) hx hb dX2_areOfOneRow_32 (by decide) ?_
        refine ret_sz go dX2_areOfOneRow_33 rfl ?_
        simp [oneB, bI, *]
      · skip
        have h18 := bI_1 h18
        refine lv_iload_n hx hb dX2_areOfOneRow_21 rfl (lv_at hl 1 rfl) ?_
        refine cal_S (kX2_isSmall l G b) go hS hk dX2_areOfOneRow_22 (And.intro q198 (And.intro q2 q200)) q199 kyX2_isSmall ⟨rfl, rfl⟩ ⟨Nat.le_of_ble_eq_true rfl, Nat.le_of_ble_eq_true rfl⟩ hl.1 rfl (Nat.le_of_ble_eq_true rfl) ⟨Nat.le_of_ble_eq_true rfl, Nat.le_of_ble_eq_true rfl⟩ ?_
        refine lv_if_eq (tgt := 32) hx hb dX2_areOfOneRow_25 (by decide) (fun h25 => ?_) (fun h25 => ?_)
        · skip
          have h25 := bI_0 h25
          refine lv_iconst (v := 0) hx hb dX2_areOfOneRow_32 (by decide) ?_
          refine ret_sz go dX2_areOfOneRow_33 rfl ?_
          simp [oneB, bI, *]
        · skip
          have h25 := bI_1 h25
          refine lv_iconst (v := 1) hx hb dX2_areOfOneRow_28 (by decide) ?_
          refine lv_goto (tgt := 33) hx hb dX2_areOfOneRow_29 (by decide) ?_
          refine ret_sz go dX2_areOfOneRow_33 rfl ?_
          simp [oneB, bI, *]

set_option maxHeartbeats 4000000 in
set_option maxRecDepth 100000 in
theorem kX2_leastOf (l : Launch) (G : Cx) (a : Int32) : Si l G yX2_leastOf cX2_leastOf 1 .int (Rm 0 0) [.int a] (fun r => r = lsI a) := by
  refine Si.mk (by decide) (Nat.le_of_ble_eq_true rfl) ?_
  intro p e s m below meth c A ls go hk hl
  have hS : va_S A s.heap s.heap [] := va_S.rf
  have hx := go.1
  have hb := go.2.1
  have hl : lv_has ls 1 [(0, .int a)] := hl
  refine lv_iload_n hx hb dX2_leastOf_0 rfl (lv_at hl 0 rfl) ?_
  refine lv_bipush (v := 78) hx hb dX2_leastOf_1 (by decide) ?_
  refine lv_icmp_ne (tgt := 10) hx hb dX2_leastOf_3 (by decide) (fun h3 => ?_) (fun h3 => ?_)
  · skip
    refine lv_iconst (v := 0) hx hb dX2_leastOf_10 (by decide) ?_
    refine ret_si go dX2_leastOf_11 ?_
    simp [lsI, *]
  · skip
    refine lv_iconst (v := 1) hx hb dX2_leastOf_6 (by decide) ?_
    refine lv_goto (tgt := 11) hx hb dX2_leastOf_7 (by decide) ?_
    refine ret_si go dX2_leastOf_11 ?_
    simp [lsI, *]

set_option maxHeartbeats 4000000 in
set_option maxRecDepth 100000 in
theorem kX2_mostOf (l : Launch) (G : Cx) (a : Int32) : Si l G yX2_mostOf cX2_mostOf 1 .int (Rm 0 0) [.int a] (fun r => r = moI a) := by
  refine Si.mk (by decide) (Nat.le_of_ble_eq_true rfl) ?_
  intro p e s m below meth c A ls go hk hl
  have hS : va_S A s.heap s.heap [] := va_S.rf
  have hx := go.1
  have hb := go.2.1
  have hl : lv_has ls 1 [(0, .int a)] := hl
  refine lv_iload_n hx hb dX2_mostOf_0 rfl (lv_at hl 0 rfl) ?_
  by_cases w1_73 : a = 73
  · refine toI w1_73 ?_
    refine lv_lookup (off := 35) (tgt := 36) hx hb dX2_mostOf_1 (by decide) (by decide) (by decide) ?_
    refine lv_bipush (v := 7) hx hb dX2_mostOf_36 (by decide) ?_
    refine ret_si go dX2_mostOf_38 ?_
    simp [moI, *]
  by_cases w1_78 : a = 78
  · refine toI w1_78 ?_
    refine lv_lookup (off := 42) (tgt := 43) hx hb dX2_mostOf_1 (by decide) (by decide) (by decide) ?_
    refine lv_bipush (v := 9) hx hb dX2_mostOf_43 (by decide) ?_
    refine ret_si go dX2_mostOf_45 ?_
    simp [moI, *]
  by_cases w1_86 : a = 86
  · refine toI w1_86 ?_
    refine lv_lookup (off := 38) (tgt := 39) hx hb dX2_mostOf_1 (by decide) (by decide) (by decide) ?_
    refine lv_sipush (v := 9999) hx hb dX2_mostOf_39 (by decide) ?_
    refine ret_si go dX2_mostOf_42 ?_
    simp [moI, *]
  refine lv_lookup (off := 45) (tgt := 46) hx hb dX2_mostOf_1 (by decide) (by show Op.lookupswitch.offset [(73, 35), (78, 42), (86, 38)] 45 a.toInt = 45; rw [lv_osw (a := 73) w1_73 rfl, lv_osw (a := 78) w1_78 rfl, lv_osw (a := 86) w1_86 rfl]; rfl) (by decide) ?_
  refine lv_iconst (v := 5) hx hb dX2_mostOf_46 (by decide) ?_
  refine ret_si go dX2_mostOf_47 ?_
  simp [moI, *]

set_option maxHeartbeats 4000000 in
set_option maxRecDepth 100000 in
theorem kX2_wordOf (l : Launch) (G : Cx) (k : Nat) (hk7 : k < 7) : Sq l G yX2_wordOf cX2_wordOf 1 (.object "java/lang/String") (Rm 0 0) [.int (nI k)] (fun r => r = some (G.2.2.1 k)) := by
  refine Sq.mk (by decide) (Nat.le_of_ble_eq_true rfl) ?_
  intro p e s m below meth c A ls go hk hl
  have hS : va_S A s.heap s.heap [] := va_S.rf
  have hx := go.1
  have hb := go.2.1
  have hl : lv_has ls 1 [(0, .int (nI k))] := hl
  refine lv_iload_n hx hb dX2_wordOf_0 rfl (lv_at hl 0 rfl) ?_
  by_cases w1_0 : nI k = 0
  · refine toI w1_0 ?_
    refine lv_tableIn (off := 39) (tgt := 40) hx hb dX2_wordOf_1 (by decide) (by decide) (by decide) (by decide) ?_
    refine va_ldcS hx hb go.2.2.2.2.1 (hk.2.2.2.2.1 0 (by decide)) dX2_wordOf_40 ?_
    refine ret_sq (r := (some (G.2.2.1 0))) go dX2_wordOf_42 ?_
    obtain rfl : k = 0 := (nI_eq (b := 0) (by omega) (by decide)).mp w1_0
    rfl
  by_cases w1_1 : nI k = 1
  · refine toI w1_1 ?_
    refine lv_tableIn (off := 42) (tgt := 43) hx hb dX2_wordOf_1 (by decide) (by decide) (by decide) (by decide) ?_
    refine va_ldcS hx hb go.2.2.2.2.1 (hk.2.2.2.2.1 1 (by decide)) dX2_wordOf_43 ?_
    refine ret_sq (r := (some (G.2.2.1 1))) go dX2_wordOf_45 ?_
    obtain rfl : k = 1 := (nI_eq (b := 1) (by omega) (by decide)).mp w1_1
    rfl
  by_cases w1_2 : nI k = 2
  · refine toI w1_2 ?_
    refine lv_tableIn (off := 45) (tgt := 46) hx hb dX2_wordOf_1 (by decide) (by decide) (by decide) (by decide) ?_
    refine va_ldcS hx hb go.2.2.2.2.1 (hk.2.2.2.2.1 2 (by decide)) dX2_wordOf_46 ?_
    refine ret_sq (r := (some (G.2.2.1 2))) go dX2_wordOf_48 ?_
    obtain rfl : k = 2 := (nI_eq (b := 2) (by omega) (by decide)).mp w1_2
    rfl
  by_cases w1_3 : nI k = 3
  · refine toI w1_3 ?_
    refine lv_tableIn (off := 48) (tgt := 49) hx hb dX2_wordOf_1 (by decide) (by decide) (by decide) (by decide) ?_
    refine va_ldcS hx hb go.2.2.2.2.1 (hk.2.2.2.2.1 3 (by decide)) dX2_wordOf_49 ?_
    refine ret_sq (r := (some (G.2.2.1 3))) go dX2_wordOf_51 ?_
    obtain rfl : k = 3 := (nI_eq (b := 3) (by omega) (by decide)).mp w1_3
    rfl
  by_cases w1_4 : nI k = 4
  · refine toI w1_4 ?_
    refine lv_tableIn (off := 51) (tgt := 52) hx hb dX2_wordOf_1 (by decide) (by decide) (by decide) (by decide) ?_
    refine va_ldcS hx hb go.2.2.2.2.1 (hk.2.2.2.2.1 4 (by decide)) dX2_wordOf_52 ?_
    refine ret_sq (r := (some (G.2.2.1 4))) go dX2_wordOf_54 ?_
    obtain rfl : k = 4 := (nI_eq (b := 4) (by omega) (by decide)).mp w1_4
    rfl
  by_cases w1_5 : nI k = 5
  · refine toI w1_5 ?_
    refine lv_tableIn (off := 54) (tgt := 55) hx hb dX2_wordOf_1 (by decide) (by decide) (by decide) (by decide) ?_
    refine va_ldcS hx hb go.2.2.2.2.1 (hk.2.2.2.2.1 5 (by decide)) dX2_wordOf_55 ?_
    refine ret_sq (r := (some (G.2.2.1 5))) go dX2_wordOf_57 ?_
    obtain rfl : k = 5 := (nI_eq (b := 5) (by omega) (by decide)).mp w1_5
    rfl
  refine lv_tableOut (tgt := 58) hx hb dX2_wordOf_1 (by have z0 := lv_neT (a := 0) w1_0 rfl; have z1 := lv_neT (a := 1) w1_1 rfl; have z2 := lv_neT (a := 2) w1_2 rfl; have z3 := lv_neT (a := 3) w1_3 rfl; have z4 := lv_neT (a := 4) w1_4 rfl; have z5 := lv_neT (a := 5) w1_5 rfl; omega) (by decide) ?_
  refine va_ldcS hx hb go.2.2.2.2.1 (hk.2.2.2.2.1 6 (by decide)) dX2_wordOf_58 ?_
  refine ret_sq (r := (some (G.2.2.1 6))) go dX2_wordOf_60 ?_
  obtain rfl : k = 6 := by
    have z0 : k ≠ 0 := fun q => w1_0 (by rw [q]; rfl)
    have z1 : k ≠ 1 := fun q => w1_1 (by rw [q]; rfl)
    have z2 : k ≠ 2 := fun q => w1_2 (by rw [q]; rfl)
    have z3 : k ≠ 3 := fun q => w1_3 (by rw [q]; rfl)
    have z4 : k ≠ 4 := fun q => w1_4 (by rw [q]; rfl)
    have z5 : k ≠ 5 := fun q => w1_5 (by rw [q]; rfl)
    omega
  rfl

set_option maxHeartbeats 4000000 in
set_option maxRecDepth 100000 in
theorem kX2_formOf (l : Launch) (G : Cx) (k : Nat) (hk7 : k < 7) : Sq l G yX2_formOf cX2_formOf 1 (.object "java/lang/String") (Rm 0 0) [.int (nI k)] (fun r => r = some (G.2.2.1 (fmJ k))) := by
  refine Sq.mk (by decide) (Nat.le_of_ble_eq_true rfl) ?_
  intro p e s m below meth c A ls go hk hl
  have hS : va_S A s.heap s.heap [] := va_S.rf
  have hx := go.1
  have hb := go.2.1
  have hl : lv_has ls 1 [(0, .int (nI k))] := hl
  refine lv_iload_n hx hb dX2_formOf_0 rfl (lv_at hl 0 rfl) ?_
  by_cases w1_0 : nI k = 0
  · refine toI w1_0 ?_
    refine lv_tableIn (off := 39) (tgt := 40) hx hb dX2_formOf_1 (by decide) (by decide) (by decide) (by decide) ?_
    refine va_ldcS hx hb go.2.2.2.2.1 (hk.2.2.2.2.1 7 (by decide)) dX2_formOf_40 ?_
    refine ret_sq (r := (some (G.2.2.1 7))) go dX2_formOf_42 ?_
    obtain rfl : k = 0 := (nI_eq (b := 0) (by omega) (by decide)).mp w1_0
    rfl
  by_cases w1_1 : nI k = 1
  · refine toI w1_1 ?_
    refine lv_tableIn (off := 42) (tgt := 43) hx hb dX2_formOf_1 (by decide) (by decide) (by decide) (by decide) ?_
    refine va_ldcS hx hb go.2.2.2.2.1 (hk.2.2.2.2.1 8 (by decide)) dX2_formOf_43 ?_
    refine ret_sq (r := (some (G.2.2.1 8))) go dX2_formOf_45 ?_
    obtain rfl : k = 1 := (nI_eq (b := 1) (by omega) (by decide)).mp w1_1
    rfl
  by_cases w1_2 : nI k = 2
  · refine toI w1_2 ?_
    refine lv_tableIn (off := 45) (tgt := 46) hx hb dX2_formOf_1 (by decide) (by decide) (by decide) (by decide) ?_
    refine va_ldcS hx hb go.2.2.2.2.1 (hk.2.2.2.2.1 9 (by decide)) dX2_formOf_46 ?_
    refine ret_sq (r := (some (G.2.2.1 9))) go dX2_formOf_48 ?_
    obtain rfl : k = 2 := (nI_eq (b := 2) (by omega) (by decide)).mp w1_2
    rfl
  by_cases w1_3 : nI k = 3
  · refine toI w1_3 ?_
    refine lv_tableIn (off := 48) (tgt := 49) hx hb dX2_formOf_1 (by decide) (by decide) (by decide) (by decide) ?_
    refine va_ldcS hx hb go.2.2.2.2.1 (hk.2.2.2.2.1 10 (by decide)) dX2_formOf_49 ?_
    refine ret_sq (r := (some (G.2.2.1 10))) go dX2_formOf_51 ?_
    obtain rfl : k = 3 := (nI_eq (b := 3) (by omega) (by decide)).mp w1_3
    rfl
  by_cases w1_4 : nI k = 4
  · refine toI w1_4 ?_
    refine lv_tableIn (off := 51) (tgt := 52) hx hb dX2_formOf_1 (by decide) (by decide) (by decide) (by decide) ?_
    refine va_ldcS hx hb go.2.2.2.2.1 (hk.2.2.2.2.1 11 (by decide)) dX2_formOf_52 ?_
    refine ret_sq (r := (some (G.2.2.1 11))) go dX2_formOf_54 ?_
    obtain rfl : k = 4 := (nI_eq (b := 4) (by omega) (by decide)).mp w1_4
    rfl
  by_cases w1_5 : nI k = 5
  · refine toI w1_5 ?_
    refine lv_tableIn (off := 54) (tgt := 55) hx hb dX2_formOf_1 (by decide) (by decide) (by decide) (by decide) ?_
    refine va_ldcS hx hb go.2.2.2.2.1 (hk.2.2.2.2.1 12 (by decide)) dX2_formOf_55 ?_
    refine ret_sq (r := (some (G.2.2.1 12))) go dX2_formOf_57 ?_
    obtain rfl : k = 5 := (nI_eq (b := 5) (by omega) (by decide)).mp w1_5
    rfl
  refine lv_tableOut (tgt := 58) hx hb dX2_formOf_1 (by have z0 := lv_neT (a := 0) w1_0 rfl; have z1 := lv_neT (a := 1) w1_1 rfl; have z2 := lv_neT (a := 2) w1_2 rfl; have z3 := lv_neT (a := 3) w1_3 rfl; have z4 := lv_neT (a := 4) w1_4 rfl; have z5 := lv_neT (a := 5) w1_5 rfl; omega) (by decide) ?_
  refine va_ldcS hx hb go.2.2.2.2.1 (hk.2.2.2.2.1 10 (by decide)) dX2_formOf_58 ?_
  refine ret_sq (r := (some (G.2.2.1 10))) go dX2_formOf_60 ?_
  obtain rfl : k = 6 := by
    have z0 : k ≠ 0 := fun q => w1_0 (by rw [q]; rfl)
    have z1 : k ≠ 1 := fun q => w1_1 (by rw [q]; rfl)
    have z2 : k ≠ 2 := fun q => w1_2 (by rw [q]; rfl)
    have z3 : k ≠ 3 := fun q => w1_3 (by rw [q]; rfl)
    have z4 : k ≠ 4 := fun q => w1_4 (by rw [q]; rfl)
    have z5 : k ≠ 5 := fun q => w1_5 (by rw [q]; rfl)
    omega
  rfl

set_option maxHeartbeats 4000000 in
set_option maxRecDepth 100000 in
theorem kX2_letterAt (l : Launch) (G : Cx) (g : Nat → Nat → Nat) (x : Sg) (t : Nat) (ht : sI x 1 1 = nI t) (ht2 : t ≤ 200) (a : Nat) (ha : a ≤ 400) : Ci l G yX2_letterAt cX2_letterAt 2 .int (Rm 0 0) (cw G g) [.ref (g 1 0), .int (nI a)] x (fun r u => r = ltA (sA x 1 0) t a ∧ u = x) := by
  refine Ci.mk (by decide) (Nat.le_of_ble_eq_true rfl) ?_
  intro p e s m below meth c A ls go hw hl
  generalize s.heap = H at hw ⊢
  generalize ([] : List Loc) = locs at hw ⊢
  have hx := go.1
  have hb := go.2.1
  have hl : lv_has ls 2 [(0, .ref (g 1 0)), (1, .int (nI a))] := hl
  refine lv_iload_n hx hb dX2_letterAt_0 rfl (lv_at hl 1 rfl) ?_
  refine lv_if_lt (tgt := 28) hx hb dX2_letterAt_1 (by decide) (fun h1 => absurd h1 (by exact nI_pos (by omega))) (fun h1 => ?_)
  refine lv_iload_n hx hb dX2_letterAt_4 rfl (lv_at hl 1 rfl) ?_
  refine lv_aload_n hx hb dX2_letterAt_5 rfl (lv_at hl 0 rfl) ?_
  refine gTi (k := 1) (v := nI t) (by decide) ht go hw dX2_letterAt_6 q26 ?_
  refine lv_icmp_ge (tgt := 28) hx hb dX2_letterAt_9 (by decide) (fun h9 => ?_) (fun h9 => ?_)
  · skip
    have h9b : ¬ a < t := fun q => nI_ge q (by omega) h9
    refine lv_iconst (v := (-1)) hx hb dX2_letterAt_28 (by decide) ?_
    refine ret_i (wf := cw G g) go hw dX2_letterAt_29 ?_
    exact ⟨by simp [ltA, *], rfl⟩
  · skip
    have h9b : a < t := by
      rcases Nat.lt_or_ge a t with q | q
      · exact q
      · exact absurd (nI_le q (by omega)) h9
    refine lv_iload_n hx hb dX2_letterAt_12 rfl (lv_at hl 1 rfl) ?_
    refine lv_sipush (v := 200) hx hb dX2_letterAt_13 (by decide) ?_
    refine lv_icmp_ge (tgt := 28) hx hb dX2_letterAt_16 (by decide) (fun h16 => absurd h16 (by exact nI_ge (b := 200) (by omega) (by decide))) (fun h16 => ?_)
    refine lv_aload_n hx hb dX2_letterAt_19 rfl (lv_at hl 0 rfl) ?_
    refine gT (k := 0) (v := .ref (g 1 1)) rfl (by decide) rfl go hw dX2_letterAt_20 q25 ?_
    refine lv_iload_n hx hb dX2_letterAt_23 rfl (lv_at hl 1 rfl) ?_
    refine aT (k := 0) (j := a) (by decide) (by show a < 200; omega) go hw dX2_letterAt_24 ?_
    refine lv_goto (tgt := 29) hx hb dX2_letterAt_25 (by decide) ?_
    refine ret_i (wf := cw G g) go hw dX2_letterAt_29 ?_
    exact ⟨by simp [ltA, *], rfl⟩

set_option maxHeartbeats 4000000 in
set_option maxRecDepth 100000 in
theorem kX2_nextToken (l : Launch) (G : Cx) (g : Nat → Nat → Nat) (x : Sg) (t : Nat) (ht : sI x 1 1 = nI t) (ht2 : t ≤ 200) (b : Nat) (hbt : b ≤ t) (hz6 : sI x 1 6 = nI b) : Cv l G yX2_nextToken cX2_nextToken 2 (Rm 2 41) (cw G g) [.ref (g 1 0)] x (fun u => u = stT x t (tkS (sA x 1 0) t b)) := by
  refine Cv.mk (by decide) (Nat.le_of_ble_eq_true rfl) ?_
  intro p e s m below meth c A ls go hw hl
  generalize s.heap = H at hw ⊢
  generalize ([] : List Loc) = locs at hw ⊢
  have hx := go.1
  have hb := go.2.1
  have hl : lv_has ls 2 [(0, .ref (g 1 0))] := hl
  refine lv_aload_n hx hb dX2_nextToken_0 rfl (lv_at hl 0 rfl) ?_
  refine gTi (k := 6) (v := nI b) (by decide) hz6 go hw dX2_nextToken_1 q33 ?_
  refine lv_istore_n (lv' := [(1, .int (nI b)), (0, .ref (g 1 0))]) hx hb dX2_nextToken_4 rfl hl (by decide) rfl (fun ls hl => ?_)
  have hl0 : lv_has ls 2 [(0, .ref (g 1 0)), (1, .int (nI b))] := lv_sub hl [1, 0] rfl
  refine loop_up (N := t) (P := fun i H locs ls => Wd G A s H locs (cw G g x) ∧ lv_has ls 2 [(0, .ref (g 1 0)), (1, .int (nI i))] ∧ runN (fun a => decide (sA x 1 0 a = 32)) (t - i) i = tkS (sA x 1 0) t b) (X := fun H locs ls => W p l e (Rm 2 41) s m ([.ref (g 1 0)] : List Value).toArray below meth c H locs 0 0 (MQ below (va_Qv (fun u => u = stT x t (tkS (sA x 1 0) t b)) (PostW G (cw G g) A) A) ([.ref (g 1 0)] : List Value).toArray s (Rm 2 41).cells (Rm 2 41).slots A) (F0 m 5 ls [])) ?_ b (by omega) H locs ls ⟨hw, hl0, rfl⟩
  clear hl0 hl hw
  intro i hi ih H locs ls hP
  obtain ⟨hw, hl, hE0⟩ := hP
  refine lv_iload_n hx hb dX2_nextToken_5 rfl (lv_at hl 1 rfl) ?_
  refine lv_aload_n hx hb dX2_nextToken_6 rfl (lv_at hl 0 rfl) ?_
  refine gTi (k := 1) (v := nI t) (by decide) ht go hw dX2_nextToken_7 q26 ?_
  refine lv_icmp_ge (tgt := 29) hx hb dX2_nextToken_10 (by decide) (fun h10 => ?_) (fun h10 => ?_)
  · skip
    have hE : i = t := lp_end h10 rfl rfl hi (by omega)
    have hs : i = tkS (sA x 1 0) t b := (runN_end hE).symm.trans hE0
    have hiE := hE
    clear hE hE0
    refine lv_aload_n hx hb dX2_nextToken_29 rfl (lv_at hl 0 rfl) ?_
    refine lv_iload_n hx hb dX2_nextToken_30 rfl (lv_at hl 1 rfl) ?_
    refine pT (k := 5) (by decide) go hw dX2_nextToken_31 q32 (fun H locs hw => ?_)
    refine lv_iload_n hx hb dX2_nextToken_34 rfl (lv_at hl 1 rfl) ?_
    refine lv_aload_n hx hb dX2_nextToken_35 rfl (lv_at hl 0 rfl) ?_
    refine gTi (k := 1) (v := nI t) (by decide) ((sI_ne (by omega)).trans ht) go hw dX2_nextToken_36 q26 ?_
    refine lv_icmp_ge (tgt := 45) hx hb dX2_nextToken_39 (by decide) (fun _ => ?_) (fun q => absurd h10 q)
    have hl0 : lv_has ls 2 [(0, .ref (g 1 0)), (1, .int (nI i))] := lv_sub hl [0, 1] rfl
    refine loop_up (N := t) (P := fun j H locs ls => Wd G A s H locs (cw G g (pI x 1 5 (nI i))) ∧ lv_has ls 2 [(0, .ref (g 1 0)), (1, .int (nI j))] ∧ runN (fun a => oneB (sA x 1 0 i) (sA x 1 0 a)) (t - j) j = runN (fun a => oneB (sA x 1 0 i) (sA x 1 0 a)) (t - (i)) (i) ∧ i ≤ j) (X := fun H locs ls => W p l e (Rm 2 41) s m ([.ref (g 1 0)] : List Value).toArray below meth c H locs 0 0 (MQ below (va_Qv (fun u => u = stT x t (tkS (sA x 1 0) t b)) (PostW G (cw G g) A) A) ([.ref (g 1 0)] : List Value).toArray s (Rm 2 41).cells (Rm 2 41).slots A) (F0 m 45 ls [])) ?_ i (by omega) H locs ls ⟨hw, hl0, rfl, (Nat.le_refl _)⟩
    clear hl0 hl hw
    intro j hi ih H locs ls hP
    obtain ⟨hw, hl, hE0, hE1⟩ := hP
    refine lv_iload_n hx hb dX2_nextToken_45 rfl (lv_at hl 1 rfl) ?_
    refine lv_aload_n hx hb dX2_nextToken_46 rfl (lv_at hl 0 rfl) ?_
    refine gTi (k := 1) (v := nI t) (by decide) ((sI_ne (by omega)).trans ht) go hw dX2_nextToken_47 q26 ?_
    refine lv_icmp_ge (tgt := 78) hx hb dX2_nextToken_50 (by decide) (fun h50 => ?_) (fun h50 => ?_)
    · skip
      have hE : j = t := lp_end h50 rfl rfl hi (by omega)
      have jr := (runN_end hE).symm.trans hE0
      refine lv_aload_n hx hb dX2_nextToken_78 rfl (lv_at hl 0 rfl) ?_
      refine lv_iload_n hx hb dX2_nextToken_79 rfl (lv_at hl 1 rfl) ?_
      refine pT (k := 6) (by decide) go hw dX2_nextToken_80 q33 (fun H locs hw => ?_)
      refine ret_v (wf := cw G g) go hw dX2_nextToken_83 ?_
      have he : j = tkE (sA x 1 0) t i := by rw [tkE, if_neg (by omega), jr]; exact runN_end (by omega)
      show _ = stT x t (tkS (sA x 1 0) t b)
      rw [stT, ← hs, ← he]
    · skip
      have hlt : j < t := lp_in h50 rfl rfl hi (by omega)
      refine lv_aload_n hx hb dX2_nextToken_53 rfl (lv_at hl 0 rfl) ?_
      refine lv_aload_n hx hb dX2_nextToken_54 rfl (lv_at hl 0 rfl) ?_
      refine gTi (k := 5) (v := nI i) (by decide) sI_eq go hw dX2_nextToken_55 q32 ?_
      refine cal_Vi' (kX2_letterAt l G g (pI x 1 5 (nI i)) t ht ht2 i (by omega)) go hw dX2_nextToken_58 (And.intro q188 (And.intro q2 q191)) q189 q190 kyX2_letterAt ⟨Nat.le_of_ble_eq_true rfl, Nat.le_of_ble_eq_true rfl⟩ rc_T hl.1 rfl (Nat.le_of_ble_eq_true rfl) ⟨rfl, rfl⟩ ⟨Nat.le_of_ble_eq_true rfl, Nat.le_of_ble_eq_true rfl⟩ (fun H locs hw => ?_)
      refine toI (show ltA (sA (pI x 1 5 (nI i)) 1 0) t i = sA x 1 0 i from by exact if_pos (by omega)) ?_
      refine lv_aload_n hx hb dX2_nextToken_61 rfl (lv_at hl 0 rfl) ?_
      refine lv_iload_n hx hb dX2_nextToken_62 rfl (lv_at hl 1 rfl) ?_
      refine cal_Vi' (kX2_letterAt l G g (pI x 1 5 (nI i)) t ht ht2 j (by omega)) go hw dX2_nextToken_63 (And.intro q188 (And.intro q2 q191)) q189 q190 kyX2_letterAt ⟨Nat.le_of_ble_eq_true rfl, Nat.le_of_ble_eq_true rfl⟩ rc_T hl.1 rfl (Nat.le_of_ble_eq_true rfl) ⟨rfl, rfl⟩ ⟨Nat.le_of_ble_eq_true rfl, Nat.le_of_ble_eq_true rfl⟩ (fun H locs hw => ?_)
      refine toI (show ltA (sA (pI x 1 5 (nI i)) 1 0) t j = sA x 1 0 j from by exact if_pos hlt) ?_
      refine cal_S (kX2_areOfOneRow l G (sA x 1 0 i) (sA x 1 0 j)) go hw.2.2.1 hw.2.2.2.1 dX2_nextToken_66 (And.intro q192 (And.intro q2 q194)) q193 kyX2_areOfOneRow ⟨rfl, rfl⟩ ⟨Nat.le_of_ble_eq_true rfl, Nat.le_of_ble_eq_true rfl⟩ hl.1 rfl (Nat.le_of_ble_eq_true rfl) ⟨Nat.le_of_ble_eq_true rfl, Nat.le_of_ble_eq_true rfl⟩ ?_
      refine lv_if_eq (tgt := 78) hx hb dX2_nextToken_69 (by decide) (fun h69 => ?_) (fun h69 => ?_)
      · skip
        have h69 := bI_0 h69
        have jr := (runN_f (p := (fun a => oneB (sA x 1 0 i) (sA x 1 0 a))) h69).symm.trans hE0
        refine lv_aload_n hx hb dX2_nextToken_78 rfl (lv_at hl 0 rfl) ?_
        refine lv_iload_n hx hb dX2_nextToken_79 rfl (lv_at hl 1 rfl) ?_
        refine pT (k := 6) (by decide) go hw dX2_nextToken_80 q33 (fun H locs hw => ?_)
        refine ret_v (wf := cw G g) go hw dX2_nextToken_83 ?_
        have he : j = tkE (sA x 1 0) t i := by rw [tkE, if_neg (by omega), jr]; exact runN_end (by omega)
        show _ = stT x t (tkS (sA x 1 0) t b)
        rw [stT, ← hs, ← he]
      · skip
        have h69 := bI_1 h69
        refine lv_iinc (v := nI (j + 1)) (lv' := [(1, .int (nI (j + 1))), (0, .ref (g 1 0))]) hx hb dX2_nextToken_72 hl (k := 1) rfl (nI_1 _) (by decide) rfl (fun ls hl => ?_)
        refine lv_goto (tgt := 45) hx hb dX2_nextToken_75 (by decide) ?_
        have hl9 : lv_has ls 2 [(0, .ref (g 1 0)), (1, .int (nI (j + 1)))] := lv_sub hl [1, 0] rfl
        exact ih _ _ _ (by omega) ⟨hw, hl9, ((runN_t (p := (fun a => oneB (sA x 1 0 i) (sA x 1 0 a))) hlt h69).trans hE0), (by omega)⟩
  · skip
    have hlt : i < t := lp_in h10 rfl rfl hi (by omega)
    refine lv_aload_n hx hb dX2_nextToken_13 rfl (lv_at hl 0 rfl) ?_
    refine lv_iload_n hx hb dX2_nextToken_14 rfl (lv_at hl 1 rfl) ?_
    refine cal_Vi' (kX2_letterAt l G g x t ht ht2 i (by omega)) go hw dX2_nextToken_15 (And.intro q188 (And.intro q2 q191)) q189 q190 kyX2_letterAt ⟨Nat.le_of_ble_eq_true rfl, Nat.le_of_ble_eq_true rfl⟩ rc_T hl.1 rfl (Nat.le_of_ble_eq_true rfl) ⟨rfl, rfl⟩ ⟨Nat.le_of_ble_eq_true rfl, Nat.le_of_ble_eq_true rfl⟩ (fun H locs hw => ?_)
    refine toI (show ltA (sA x 1 0) t i = sA x 1 0 i from by exact if_pos hlt) ?_
    refine lv_bipush (v := 32) hx hb dX2_nextToken_18 (by decide) ?_
    refine lv_icmp_ne (tgt := 29) hx hb dX2_nextToken_20 (by decide) (fun h20 => ?_) (fun h20 => ?_)
    · skip
      have hs : i = tkS (sA x 1 0) t b := (runN_f (p := (fun a => decide (sA x 1 0 a = 32))) (decide_eq_false h20)).symm.trans hE0
      clear hE0
      refine lv_aload_n hx hb dX2_nextToken_29 rfl (lv_at hl 0 rfl) ?_
      refine lv_iload_n hx hb dX2_nextToken_30 rfl (lv_at hl 1 rfl) ?_
      refine pT (k := 5) (by decide) go hw dX2_nextToken_31 q32 (fun H locs hw => ?_)
      refine lv_iload_n hx hb dX2_nextToken_34 rfl (lv_at hl 1 rfl) ?_
      refine lv_aload_n hx hb dX2_nextToken_35 rfl (lv_at hl 0 rfl) ?_
      refine gTi (k := 1) (v := nI t) (by decide) ((sI_ne (by omega)).trans ht) go hw dX2_nextToken_36 q26 ?_
      refine lv_icmp_ge (tgt := 45) hx hb dX2_nextToken_39 (by decide) (fun q => absurd q h10) (fun _ => ?_)
      refine lv_iinc (v := nI (i + 1)) (lv' := [(1, .int (nI (i + 1))), (0, .ref (g 1 0))]) hx hb dX2_nextToken_42 hl (k := 1) rfl (nI_1 _) (by decide) rfl (fun ls hl => ?_)
      have hl0 : lv_has ls 2 [(0, .ref (g 1 0)), (1, .int (nI (i + 1)))] := lv_sub hl [1, 0] rfl
      refine loop_up (N := t) (P := fun j H locs ls => Wd G A s H locs (cw G g (pI x 1 5 (nI i))) ∧ lv_has ls 2 [(0, .ref (g 1 0)), (1, .int (nI j))] ∧ runN (fun a => oneB (sA x 1 0 i) (sA x 1 0 a)) (t - j) j = runN (fun a => oneB (sA x 1 0 i) (sA x 1 0 a)) (t - (i + 1)) (i + 1) ∧ (i + 1) ≤ j) (X := fun H locs ls => W p l e (Rm 2 41) s m ([.ref (g 1 0)] : List Value).toArray below meth c H locs 0 0 (MQ below (va_Qv (fun u => u = stT x t (tkS (sA x 1 0) t b)) (PostW G (cw G g) A) A) ([.ref (g 1 0)] : List Value).toArray s (Rm 2 41).cells (Rm 2 41).slots A) (F0 m 45 ls [])) ?_ (i + 1) (by omega) H locs ls ⟨hw, hl0, rfl, (Nat.le_refl _)⟩
      clear hl0 hl hw
      intro j hi ih H locs ls hP
      obtain ⟨hw, hl, hE0, hE1⟩ := hP
      refine lv_iload_n hx hb dX2_nextToken_45 rfl (lv_at hl 1 rfl) ?_
      refine lv_aload_n hx hb dX2_nextToken_46 rfl (lv_at hl 0 rfl) ?_
      refine gTi (k := 1) (v := nI t) (by decide) ((sI_ne (by omega)).trans ht) go hw dX2_nextToken_47 q26 ?_
      refine lv_icmp_ge (tgt := 78) hx hb dX2_nextToken_50 (by decide) (fun h50 => ?_) (fun h50 => ?_)
      · skip
        have hE : j = t := lp_end h50 rfl rfl hi (by omega)
        have jr := (runN_end hE).symm.trans hE0
        refine lv_aload_n hx hb dX2_nextToken_78 rfl (lv_at hl 0 rfl) ?_
        refine lv_iload_n hx hb dX2_nextToken_79 rfl (lv_at hl 1 rfl) ?_
        refine pT (k := 6) (by decide) go hw dX2_nextToken_80 q33 (fun H locs hw => ?_)
        refine ret_v (wf := cw G g) go hw dX2_nextToken_83 ?_
        have he : j = tkE (sA x 1 0) t i := by rw [tkE, if_pos (by omega), jr]
        show _ = stT x t (tkS (sA x 1 0) t b)
        rw [stT, ← hs, ← he]
      · skip
        have hlt : j < t := lp_in h50 rfl rfl hi (by omega)
        refine lv_aload_n hx hb dX2_nextToken_53 rfl (lv_at hl 0 rfl) ?_
        refine lv_aload_n hx hb dX2_nextToken_54 rfl (lv_at hl 0 rfl) ?_
        refine gTi (k := 5) (v := nI i) (by decide) sI_eq go hw dX2_nextToken_55 q32 ?_
        refine cal_Vi' (kX2_letterAt l G g (pI x 1 5 (nI i)) t ht ht2 i (by omega)) go hw dX2_nextToken_58 (And.intro q188 (And.intro q2 q191)) q189 q190 kyX2_letterAt ⟨Nat.le_of_ble_eq_true rfl, Nat.le_of_ble_eq_true rfl⟩ rc_T hl.1 rfl (Nat.le_of_ble_eq_true rfl) ⟨rfl, rfl⟩ ⟨Nat.le_of_ble_eq_true rfl, Nat.le_of_ble_eq_true rfl⟩ (fun H locs hw => ?_)
        refine toI (show ltA (sA (pI x 1 5 (nI i)) 1 0) t i = sA x 1 0 i from by exact if_pos (by omega)) ?_
        refine lv_aload_n hx hb dX2_nextToken_61 rfl (lv_at hl 0 rfl) ?_
        refine lv_iload_n hx hb dX2_nextToken_62 rfl (lv_at hl 1 rfl) ?_
        refine cal_Vi' (kX2_letterAt l G g (pI x 1 5 (nI i)) t ht ht2 j (by omega)) go hw dX2_nextToken_63 (And.intro q188 (And.intro q2 q191)) q189 q190 kyX2_letterAt ⟨Nat.le_of_ble_eq_true rfl, Nat.le_of_ble_eq_true rfl⟩ rc_T hl.1 rfl (Nat.le_of_ble_eq_true rfl) ⟨rfl, rfl⟩ ⟨Nat.le_of_ble_eq_true rfl, Nat.le_of_ble_eq_true rfl⟩ (fun H locs hw => ?_)
        refine toI (show ltA (sA (pI x 1 5 (nI i)) 1 0) t j = sA x 1 0 j from by exact if_pos hlt) ?_
        refine cal_S (kX2_areOfOneRow l G (sA x 1 0 i) (sA x 1 0 j)) go hw.2.2.1 hw.2.2.2.1 dX2_nextToken_66 (And.intro q192 (And.intro q2 q194)) q193 kyX2_areOfOneRow ⟨rfl, rfl⟩ ⟨Nat.le_of_ble_eq_true rfl, Nat.le_of_ble_eq_true rfl⟩ hl.1 rfl (Nat.le_of_ble_eq_true rfl) ⟨Nat.le_of_ble_eq_true rfl, Nat.le_of_ble_eq_true rfl⟩ ?_
        refine lv_if_eq (tgt := 78) hx hb dX2_nextToken_69 (by decide) (fun h69 => ?_) (fun h69 => ?_)
        · skip
          have h69 := bI_0 h69
          have jr := (runN_f (p := (fun a => oneB (sA x 1 0 i) (sA x 1 0 a))) h69).symm.trans hE0
          refine lv_aload_n hx hb dX2_nextToken_78 rfl (lv_at hl 0 rfl) ?_
          refine lv_iload_n hx hb dX2_nextToken_79 rfl (lv_at hl 1 rfl) ?_
          refine pT (k := 6) (by decide) go hw dX2_nextToken_80 q33 (fun H locs hw => ?_)
          refine ret_v (wf := cw G g) go hw dX2_nextToken_83 ?_
          have he : j = tkE (sA x 1 0) t i := by rw [tkE, if_pos (by omega), jr]
          show _ = stT x t (tkS (sA x 1 0) t b)
          rw [stT, ← hs, ← he]
        · skip
          have h69 := bI_1 h69
          refine lv_iinc (v := nI (j + 1)) (lv' := [(1, .int (nI (j + 1))), (0, .ref (g 1 0))]) hx hb dX2_nextToken_72 hl (k := 1) rfl (nI_1 _) (by decide) rfl (fun ls hl => ?_)
          refine lv_goto (tgt := 45) hx hb dX2_nextToken_75 (by decide) ?_
          have hl9 : lv_has ls 2 [(0, .ref (g 1 0)), (1, .int (nI (j + 1)))] := lv_sub hl [1, 0] rfl
          exact ih _ _ _ (by omega) ⟨hw, hl9, ((runN_t (p := (fun a => oneB (sA x 1 0 i) (sA x 1 0 a))) hlt h69).trans hE0), (by omega)⟩
    · skip
      refine lv_iinc (v := nI (i + 1)) (lv' := [(1, .int (nI (i + 1))), (0, .ref (g 1 0))]) hx hb dX2_nextToken_23 hl (k := 1) rfl (nI_1 _) (by decide) rfl (fun ls hl => ?_)
      refine lv_goto (tgt := 5) hx hb dX2_nextToken_26 (by decide) ?_
      have hl9 : lv_has ls 2 [(0, .ref (g 1 0)), (1, .int (nI (i + 1)))] := lv_sub hl [1, 0] rfl
      exact ih _ _ _ (by omega) ⟨hw, hl9, ((runN_t hlt (decide_eq_true h20)).trans hE0)⟩

set_option maxHeartbeats 4000000 in
set_option maxRecDepth 100000 in
theorem kX2_numberOfToken (l : Launch) (G : Cx) (g : Nat → Nat → Nat) (x : Sg) (t : Nat) (ht : sI x 1 1 = nI t) (ht2 : t ≤ 200) (z : Nat) (hs : z ≤ t) (hz5 : sI x 1 5 = nI z) (hz6 : sI x 1 6 = nI (tkE (sA x 1 0) t z)) : Ci l G yX2_numberOfToken cX2_numberOfToken 3 .int (Rm 1 21) (cw G g) [.ref (g 1 0)] x (fun r u => r = nuV (sA x 1 0) t z ∧ u = x) := by
  refine Ci.mk (by decide) (Nat.le_of_ble_eq_true rfl) ?_
  intro p e s m below meth c A ls go hw hl
  generalize s.heap = H at hw ⊢
  generalize ([] : List Loc) = locs at hw ⊢
  have hx := go.1
  have hb := go.2.1
  have hl : lv_has ls 3 [(0, .ref (g 1 0))] := hl
  have hE9 := tkE_b (L := sA x 1 0) hs
  refine lv_aload_n hx hb dX2_numberOfToken_0 rfl (lv_at hl 0 rfl) ?_
  refine lv_aload_n hx hb dX2_numberOfToken_1 rfl (lv_at hl 0 rfl) ?_
  refine gTi (k := 5) (v := nI z) (by decide) hz5 go hw dX2_numberOfToken_2 q32 ?_
  refine cal_Vi' (kX2_letterAt l G g x t ht ht2 z (by omega)) go hw dX2_numberOfToken_5 (And.intro q188 (And.intro q2 q191)) q189 q190 kyX2_letterAt ⟨Nat.le_of_ble_eq_true rfl, Nat.le_of_ble_eq_true rfl⟩ rc_T hl.1 rfl (Nat.le_of_ble_eq_true rfl) ⟨rfl, rfl⟩ ⟨Nat.le_of_ble_eq_true rfl, Nat.le_of_ble_eq_true rfl⟩ (fun H locs hw => ?_)
  refine cal_S (kX2_isDigit l G (ltA (sA x 1 0) t z)) go hw.2.2.1 hw.2.2.2.1 dX2_numberOfToken_8 (And.intro q195 (And.intro q2 q197)) q196 kyX2_isDigit ⟨rfl, rfl⟩ ⟨Nat.le_of_ble_eq_true rfl, Nat.le_of_ble_eq_true rfl⟩ hl.1 rfl (Nat.le_of_ble_eq_true rfl) ⟨Nat.le_of_ble_eq_true rfl, Nat.le_of_ble_eq_true rfl⟩ ?_
  refine lv_if_eq (tgt := 27) hx hb dX2_numberOfToken_11 (by decide) (fun h11 => ?_) (fun h11 => ?_)
  · skip
    have h11 := bI_0 h11
    refine lv_iconst (v := (-1)) hx hb dX2_numberOfToken_27 (by decide) ?_
    refine ret_i (wf := cw G g) go hw dX2_numberOfToken_28 ?_
    exact ⟨by rw [nuV, if_neg (by simp [*])], rfl⟩
  · skip
    have h11 := bI_1 h11
    refine lv_aload_n hx hb dX2_numberOfToken_14 rfl (lv_at hl 0 rfl) ?_
    refine gTi (k := 6) (v := nI (tkE (sA x 1 0) t z)) (by decide) hz6 go hw dX2_numberOfToken_15 q33 ?_
    refine lv_aload_n hx hb dX2_numberOfToken_18 rfl (lv_at hl 0 rfl) ?_
    refine gTi (k := 5) (v := nI z) (by decide) hz5 go hw dX2_numberOfToken_19 q32 ?_
    refine lv_isub hx hb dX2_numberOfToken_22 ?_
    refine lv_iconst (v := 4) hx hb dX2_numberOfToken_23 (by decide) ?_
    refine lv_icmp_le (tgt := 29) hx hb dX2_numberOfToken_24 (by decide) (fun h24 => ?_) (fun h24 => ?_)
    · skip
      refine lv_iconst (v := 0) hx hb dX2_numberOfToken_29 (by decide) ?_
      refine lv_istore_n (lv' := [(1, .int 0), (0, .ref (g 1 0))]) hx hb dX2_numberOfToken_30 rfl hl (by decide) rfl (fun ls hl => ?_)
      refine lv_aload_n hx hb dX2_numberOfToken_31 rfl (lv_at hl 1 rfl) ?_
      refine gTi (k := 5) (v := nI z) (by decide) hz5 go hw dX2_numberOfToken_32 q32 ?_
      refine lv_istore_n (lv' := [(2, .int (nI z)), (1, .int 0), (0, .ref (g 1 0))]) hx hb dX2_numberOfToken_35 rfl hl (by decide) rfl (fun ls hl => ?_)
      have hl0 : lv_has ls 3 [(0, .ref (g 1 0)), (1, .int (nuA (ltA (sA x 1 0) t) z (z - z))), (2, .int (nI z))] := lv_to (lv_sub (l' := [(0, .ref (g 1 0)), (1, .int 0), (2, .int (nI z))]) hl [2, 1, 0] rfl) (lr (lc (show (0 : Int32) = nuA (ltA (sA x 1 0) t) z (z - z) from by rw [Nat.sub_self]; rfl) (lr rfl)))
      refine loop_up (N := (tkE (sA x 1 0) t z)) (P := fun i H locs ls => Wd G A s H locs (cw G g x) ∧ lv_has ls 3 [(0, .ref (g 1 0)), (1, .int (nuA (ltA (sA x 1 0) t) z (i - z))), (2, .int (nI i))] ∧ z ≤ i) (X := fun H locs ls => W p l e (Rm 1 21) s m ([.ref (g 1 0)] : List Value).toArray below meth c H locs 0 0 (MQ below (va_Qi (fun r u => r = nuV (sA x 1 0) t z ∧ u = x) (PostW G (cw G g) A) A) ([.ref (g 1 0)] : List Value).toArray s (Rm 1 21).cells (Rm 1 21).slots A) (F0 m 36 ls [])) ?_ z (by omega) H locs ls ⟨hw, hl0, (Nat.le_refl _)⟩
      clear hl0 hl hw
      intro i hi ih H locs ls hP
      obtain ⟨hw, hl, hE0⟩ := hP
      refine lv_iload_n hx hb dX2_numberOfToken_36 rfl (lv_at hl 2 rfl) ?_
      refine lv_aload_n hx hb dX2_numberOfToken_37 rfl (lv_at hl 0 rfl) ?_
      refine gTi (k := 6) (v := nI (tkE (sA x 1 0) t z)) (by decide) hz6 go hw dX2_numberOfToken_38 q33 ?_
      refine lv_icmp_ge (tgt := 64) hx hb dX2_numberOfToken_41 (by decide) (fun h41 => ?_) (fun h41 => ?_)
      · skip
        have hE : i = (tkE (sA x 1 0) t z) := lp_end h41 rfl rfl hi (by omega)
        refine lv_iload_n hx hb dX2_numberOfToken_64 rfl (lv_at hl 1 rfl) ?_
        refine ret_i (wf := cw G g) go hw dX2_numberOfToken_65 ?_
        exact ⟨by rw [nuV, if_pos ⟨h11, h24⟩, ← hE], rfl⟩
      · skip
        have hlt : i < (tkE (sA x 1 0) t z) := lp_in h41 rfl rfl hi (by omega)
        refine lv_iload_n hx hb dX2_numberOfToken_44 rfl (lv_at hl 1 rfl) ?_
        refine lv_bipush (v := 10) hx hb dX2_numberOfToken_45 (by decide) ?_
        refine lv_imul hx hb dX2_numberOfToken_47 ?_
        refine lv_aload_n hx hb dX2_numberOfToken_48 rfl (lv_at hl 0 rfl) ?_
        refine lv_iload_n hx hb dX2_numberOfToken_49 rfl (lv_at hl 2 rfl) ?_
        refine cal_Vi' (kX2_letterAt l G g x t ht ht2 i (by omega)) go hw dX2_numberOfToken_50 (And.intro q188 (And.intro q2 q191)) q189 q190 kyX2_letterAt ⟨Nat.le_of_ble_eq_true rfl, Nat.le_of_ble_eq_true rfl⟩ rc_T hl.1 rfl (Nat.le_of_ble_eq_true rfl) ⟨rfl, rfl⟩ ⟨Nat.le_of_ble_eq_true rfl, Nat.le_of_ble_eq_true rfl⟩ (fun H locs hw => ?_)
        refine lv_iadd hx hb dX2_numberOfToken_53 ?_
        refine lv_bipush (v := 48) hx hb dX2_numberOfToken_54 (by decide) ?_
        refine lv_isub hx hb dX2_numberOfToken_56 ?_
        refine lv_istore_n (lv' := [(1, .int ((((nuA (ltA (sA x 1 0) t) z (i - z)) * 10) + (ltA (sA x 1 0) t i)) - 48)), (0, .ref (g 1 0)), (2, .int (nI i))]) hx hb dX2_numberOfToken_57 rfl hl (by decide) rfl (fun ls hl => ?_)
        refine lv_iinc (v := nI (i + 1)) (lv' := [(2, .int (nI (i + 1))), (1, .int ((((nuA (ltA (sA x 1 0) t) z (i - z)) * 10) + (ltA (sA x 1 0) t i)) - 48)), (0, .ref (g 1 0))]) hx hb dX2_numberOfToken_58 hl (k := 2) rfl (nI_1 _) (by decide) rfl (fun ls hl => ?_)
        refine lv_goto (tgt := 36) hx hb dX2_numberOfToken_61 (by decide) ?_
        have hl9 : lv_has ls 3 [(0, .ref (g 1 0)), (1, .int (nuA (ltA (sA x 1 0) t) z ((i + 1) - z))), (2, .int (nI (i + 1)))] := lv_to (lv_sub (l' := [(0, .ref (g 1 0)), (1, .int ((((nuA (ltA (sA x 1 0) t) z (i - z)) * 10) + (ltA (sA x 1 0) t i)) - 48)), (2, .int (nI (i + 1)))]) hl [2, 1, 0] rfl) (lr (lc (show ((((nuA (ltA (sA x 1 0) t) z (i - z)) * 10) + (ltA (sA x 1 0) t i)) - 48 : Int32) = nuA (ltA (sA x 1 0) t) z ((i + 1) - z) from by rw [show i + 1 - z = (i - z) + 1 by omega, nuA, show z + (i - z) = i by omega]) (lr rfl)))
        exact ih _ _ _ (by omega) ⟨hw, hl9, (by omega)⟩
    · skip
      refine lv_iconst (v := (-1)) hx hb dX2_numberOfToken_27 (by decide) ?_
      refine ret_i (wf := cw G g) go hw dX2_numberOfToken_28 ?_
      exact ⟨by rw [nuV, if_neg (by simp [*])], rfl⟩

set_option maxHeartbeats 4000000 in
set_option maxRecDepth 100000 in
theorem kX2_tokenIs (l : Launch) (G : Cx) (g : Nat → Nat → Nat) (x : Sg) (t : Nat) (ht : sI x 1 1 = nI t) (ht2 : t ≤ 200) (z : Nat) (hs : z ≤ t) (hz5 : sI x 1 5 = nI z) (hz6 : sI x 1 6 = nI (tkE (sA x 1 0) t z)) (w : Nat) (hw13 : w < 13) : Ci l G yX2_tokenIs cX2_tokenIs 3 .boolean (Rm 4 85) (cw G g) [.ref (g 1 0), .ref (G.2.2.1 w)] x (fun r u => r = bI (wdB (sA x 1 0) t z w) ∧ u = x) := by
  refine Ci.mk (by decide) (Nat.le_of_ble_eq_true rfl) ?_
  intro p e s m below meth c A ls go hw hl
  generalize s.heap = H at hw ⊢
  generalize ([] : List Loc) = locs at hw ⊢
  have hx := go.1
  have hb := go.2.1
  have hl : lv_has ls 3 [(0, .ref (g 1 0)), (1, .ref (G.2.2.1 w))] := hl
  have hl5 := lenJ_5 w hw13
  refine lv_aload_n hx hb dX2_tokenIs_0 rfl (lv_at hl 0 rfl) ?_
  refine gTi (k := 6) (v := nI (tkE (sA x 1 0) t z)) (by decide) hz6 go hw dX2_tokenIs_1 q33 ?_
  refine lv_aload_n hx hb dX2_tokenIs_4 rfl (lv_at hl 0 rfl) ?_
  refine gTi (k := 5) (v := nI z) (by decide) hz5 go hw dX2_tokenIs_5 q32 ?_
  refine lv_isub hx hb dX2_tokenIs_8 ?_
  refine lv_aload_n hx hb dX2_tokenIs_9 rfl (lv_at hl 1 rfl) ?_
  refine cal_VS (kJ0_length_8abf5 l G w hw13) go hw.2.2.1 hw.2.2.2.1 dX2_tokenIs_10 (And.intro q223 (And.intro q5 q226)) q224 q225 kyJ0_length_8abf5 ⟨rfl, rfl⟩ ⟨Nat.le_of_ble_eq_true rfl, Nat.le_of_ble_eq_true rfl⟩ (vk_recv hw.2.2.2.1.2.2.2.1 hw13 hw.2.2.1) hl.1 rfl (Nat.le_of_ble_eq_true rfl) ⟨Nat.le_of_ble_eq_true rfl, Nat.le_of_ble_eq_true rfl⟩ ?_
  refine lv_icmp_eq (tgt := 18) hx hb dX2_tokenIs_13 (by decide) (fun h13 => ?_) (fun h13 => ?_)
  · skip
    refine lv_iconst (v := 0) hx hb dX2_tokenIs_18 (by decide) ?_
    refine lv_istore_n (lv' := [(2, .int 0), (0, .ref (g 1 0)), (1, .ref (G.2.2.1 w))]) hx hb dX2_tokenIs_19 rfl hl (by decide) rfl (fun ls hl => ?_)
    have hl0 : lv_has ls 3 [(0, .ref (g 1 0)), (1, .ref (G.2.2.1 w)), (2, .int (nI 0))] := lv_to (lv_sub (l' := [(0, .ref (g 1 0)), (1, .ref (G.2.2.1 w)), (2, .int 0)]) hl [1, 2, 0] rfl) (lr (lr (lc (show (0 : Int32) = nI 0 from rfl) rfl)))
    refine loop_up (N := (lenJ.getD w 0)) (P := fun i H locs ls => Wd G A s H locs (cw G g x) ∧ lv_has ls 3 [(0, .ref (g 1 0)), (1, .ref (G.2.2.1 w)), (2, .int (nI i))] ∧ (∀ j, j < i → (fun k => !decide (ltA (sA x 1 0) t (z + k) = chB w k)) j = false)) (X := fun H locs ls => W p l e (Rm 4 85) s m ([.ref (g 1 0), .ref (G.2.2.1 w)] : List Value).toArray below meth c H locs 0 0 (MQ below (va_Qi (fun r u => r = bI (wdB (sA x 1 0) t z w) ∧ u = x) (PostW G (cw G g) A) A) ([.ref (g 1 0), .ref (G.2.2.1 w)] : List Value).toArray s (Rm 4 85).cells (Rm 4 85).slots A) (F0 m 20 ls [])) ?_ 0 (Nat.zero_le _) H locs ls ⟨hw, hl0, (fun j hj => absurd hj (by omega))⟩
    clear hl0 hl hw
    intro i hi ih H locs ls hP
    obtain ⟨hw, hl, hE0⟩ := hP
    refine lv_iload_n hx hb dX2_tokenIs_20 rfl (lv_at hl 2 rfl) ?_
    refine lv_aload_n hx hb dX2_tokenIs_21 rfl (lv_at hl 1 rfl) ?_
    refine cal_VS (kJ0_length_8abf5 l G w hw13) go hw.2.2.1 hw.2.2.2.1 dX2_tokenIs_22 (And.intro q223 (And.intro q5 q226)) q224 q225 kyJ0_length_8abf5 ⟨rfl, rfl⟩ ⟨Nat.le_of_ble_eq_true rfl, Nat.le_of_ble_eq_true rfl⟩ (vk_recv hw.2.2.2.1.2.2.2.1 hw13 hw.2.2.1) hl.1 rfl (Nat.le_of_ble_eq_true rfl) ⟨Nat.le_of_ble_eq_true rfl, Nat.le_of_ble_eq_true rfl⟩ ?_
    refine lv_icmp_ge (tgt := 54) hx hb dX2_tokenIs_25 (by decide) (fun h25 => ?_) (fun h25 => ?_)
    · skip
      have hE : i = (lenJ.getD w 0) := lp_end h25 rfl rfl hi (by omega)
      refine lv_iconst (v := 1) hx hb dX2_tokenIs_54 (by decide) ?_
      refine ret_z (wf := cw G g) go hw dX2_tokenIs_55 rfl ?_
      exact ⟨by rw [wdB, exB_f (p := (fun k => !decide (ltA (sA x 1 0) t (z + k) = chB w k))) (by rw [← hE]; exact hE0)]; simp [bI, *], rfl⟩
    · skip
      have hlt : i < (lenJ.getD w 0) := lp_in h25 rfl rfl hi (by omega)
      refine lv_aload_n hx hb dX2_tokenIs_28 rfl (lv_at hl 0 rfl) ?_
      refine lv_aload_n hx hb dX2_tokenIs_29 rfl (lv_at hl 0 rfl) ?_
      refine gTi (k := 5) (v := nI z) (by decide) hz5 go hw dX2_tokenIs_30 q32 ?_
      refine lv_iload_n hx hb dX2_tokenIs_33 rfl (lv_at hl 2 rfl) ?_
      refine lv_iadd hx hb dX2_tokenIs_34 ?_
      refine toI (show (nI z) + (nI i) = nI (z + i) from by exact nI_add z i) ?_
      refine cal_Vi' (kX2_letterAt l G g x t ht ht2 (z + i) (by omega)) go hw dX2_tokenIs_35 (And.intro q188 (And.intro q2 q191)) q189 q190 kyX2_letterAt ⟨Nat.le_of_ble_eq_true rfl, Nat.le_of_ble_eq_true rfl⟩ rc_T hl.1 rfl (Nat.le_of_ble_eq_true rfl) ⟨rfl, rfl⟩ ⟨Nat.le_of_ble_eq_true rfl, Nat.le_of_ble_eq_true rfl⟩ (fun H locs hw => ?_)
      refine lv_aload_n hx hb dX2_tokenIs_38 rfl (lv_at hl 1 rfl) ?_
      refine lv_iload_n hx hb dX2_tokenIs_39 rfl (lv_at hl 2 rfl) ?_
      refine cal_VS (kJ0_charAt_5068e l G w hw13 i hlt) go hw.2.2.1 hw.2.2.2.1 dX2_tokenIs_40 (And.intro q233 (And.intro q5 q236)) q234 q235 kyJ0_charAt_5068e ⟨rfl, rfl⟩ ⟨Nat.le_of_ble_eq_true rfl, Nat.le_of_ble_eq_true rfl⟩ (vk_recv hw.2.2.2.1.2.2.2.1 hw13 hw.2.2.1) hl.1 rfl (Nat.le_of_ble_eq_true rfl) ⟨Nat.le_of_ble_eq_true rfl, Nat.le_of_ble_eq_true rfl⟩ ?_
      refine lv_icmp_eq (tgt := 48) hx hb dX2_tokenIs_43 (by decide) (fun h43 => ?_) (fun h43 => ?_)
      · skip
        refine lv_iinc (v := nI (i + 1)) (lv' := [(2, .int (nI (i + 1))), (0, .ref (g 1 0)), (1, .ref (G.2.2.1 w))]) hx hb dX2_tokenIs_48 hl (k := 2) rfl (nI_1 _) (by decide) rfl (fun ls hl => ?_)
        refine lv_goto (tgt := 20) hx hb dX2_tokenIs_51 (by decide) ?_
        have hl9 : lv_has ls 3 [(0, .ref (g 1 0)), (1, .ref (G.2.2.1 w)), (2, .int (nI (i + 1)))] := lv_sub hl [1, 2, 0] rfl
        exact ih _ _ _ (by omega) ⟨hw, hl9, (lt_s hE0 (by simp [*]))⟩
      · skip
        refine lv_iconst (v := 0) hx hb dX2_tokenIs_46 (by decide) ?_
        refine ret_z (wf := cw G g) go hw dX2_tokenIs_47 rfl ?_
        exact ⟨by rw [wdB, exB_t (p := (fun k => !decide (ltA (sA x 1 0) t (z + k) = chB w k))) (i := i) (by simp [*]) hlt]; simp [bI], rfl⟩
  · skip
    refine lv_iconst (v := 0) hx hb dX2_tokenIs_16 (by decide) ?_
    refine ret_z (wf := cw G g) go hw dX2_tokenIs_17 rfl ?_
    exact ⟨by rw [wdB, decide_eq_false h13]; rfl, rfl⟩

set_option maxHeartbeats 4000000 in
set_option maxRecDepth 100000 in
theorem kX2_kindOfToken (l : Launch) (G : Cx) (g : Nat → Nat → Nat) (x : Sg) (t : Nat) (ht : sI x 1 1 = nI t) (ht2 : t ≤ 200) (z : Nat) (hs : z ≤ t) (hz5 : sI x 1 5 = nI z) (hz6 : sI x 1 6 = nI (tkE (sA x 1 0) t z)) : Ci l G yX2_kindOfToken cX2_kindOfToken 2 .int (Rm 5 107) (cw G g) [.ref (g 1 0)] x (fun r u => r = kdI (sA x 1 0) t z ∧ u = x) := by
  refine Ci.mk (by decide) (Nat.le_of_ble_eq_true rfl) ?_
  intro p e s m below meth c A ls go hw hl
  generalize s.heap = H at hw ⊢
  generalize ([] : List Loc) = locs at hw ⊢
  have hx := go.1
  have hb := go.2.1
  have hl : lv_has ls 2 [(0, .ref (g 1 0))] := hl
  refine lv_iconst (v := 0) hx hb dX2_kindOfToken_0 (by decide) ?_
  refine lv_istore_n (lv' := [(1, .int 0), (0, .ref (g 1 0))]) hx hb dX2_kindOfToken_1 rfl hl (by decide) rfl (fun ls hl => ?_)
  have hl0 : lv_has ls 2 [(0, .ref (g 1 0)), (1, .int (nI 0))] := lv_to (lv_sub (l' := [(0, .ref (g 1 0)), (1, .int 0)]) hl [1, 0] rfl) (lr (lc (show (0 : Int32) = nI 0 from rfl) rfl))
  refine loop_up (N := 7) (P := fun i H locs ls => Wd G A s H locs (cw G g x) ∧ lv_has ls 2 [(0, .ref (g 1 0)), (1, .int (nI i))] ∧ (∀ j, j < i → wdB (sA x 1 0) t z j = false)) (X := fun H locs ls => W p l e (Rm 5 107) s m ([.ref (g 1 0)] : List Value).toArray below meth c H locs 0 0 (MQ below (va_Qi (fun r u => r = kdI (sA x 1 0) t z ∧ u = x) (PostW G (cw G g) A) A) ([.ref (g 1 0)] : List Value).toArray s (Rm 5 107).cells (Rm 5 107).slots A) (F0 m 2 ls [])) ?_ 0 (by omega) H locs ls ⟨hw, hl0, (fun j hj => absurd hj (by omega))⟩
  clear hl0 hl hw
  intro i hi ih H locs ls hP
  obtain ⟨hw, hl, hE0⟩ := hP
  refine lv_iload_n hx hb dX2_kindOfToken_2 rfl (lv_at hl 1 rfl) ?_
  refine lv_bipush (v := 7) hx hb dX2_kindOfToken_3 (by decide) ?_
  refine lv_icmp_ge (tgt := 27) hx hb dX2_kindOfToken_5 (by decide) (fun h5 => ?_) (fun h5 => ?_)
  · skip
    have hE : i = 7 := lp_end h5 rfl rfl hi (by decide)
    subst hE
    refine lv_iconst (v := (-1)) hx hb dX2_kindOfToken_27 (by decide) ?_
    refine ret_i (wf := cw G g) go hw dX2_kindOfToken_28 ?_
    exact ⟨((kdI_eq _ _ _).trans (fstI_no hE0)).symm, rfl⟩
  · skip
    have hlt : i < 7 := lp_in h5 rfl rfl hi (by decide)
    refine lv_aload_n hx hb dX2_kindOfToken_8 rfl (lv_at hl 0 rfl) ?_
    refine lv_iload_n hx hb dX2_kindOfToken_9 rfl (lv_at hl 1 rfl) ?_
    refine cal_Sq (kX2_wordOf l G i (by omega)) go hw.2.2.1 hw.2.2.2.1 dX2_kindOfToken_10 (And.intro q209 (And.intro q2 q211)) q210 kyX2_wordOf ⟨rfl, rfl⟩ ⟨Nat.le_of_ble_eq_true rfl, Nat.le_of_ble_eq_true rfl⟩ hl.1 rfl (Nat.le_of_ble_eq_true rfl) ⟨Nat.le_of_ble_eq_true rfl, Nat.le_of_ble_eq_true rfl⟩ ?_
    refine cal_Vi' (kX2_tokenIs l G g x t ht ht2 z hs hz5 hz6 i (Nat.lt_trans hlt (by decide))) go hw dX2_kindOfToken_13 (And.intro q219 (And.intro q2 q222)) q220 q221 kyX2_tokenIs ⟨Nat.le_of_ble_eq_true rfl, Nat.le_of_ble_eq_true rfl⟩ rc_T hl.1 rfl (Nat.le_of_ble_eq_true rfl) ⟨rfl, rfl⟩ ⟨Nat.le_of_ble_eq_true rfl, Nat.le_of_ble_eq_true rfl⟩ (fun H locs hw => ?_)
    refine lv_if_eq (tgt := 21) hx hb dX2_kindOfToken_16 (by decide) (fun h16 => ?_) (fun h16 => ?_)
    · skip
      have h16 := bI_0 h16
      refine lv_iinc (v := nI (i + 1)) (lv' := [(1, .int (nI (i + 1))), (0, .ref (g 1 0))]) hx hb dX2_kindOfToken_21 hl (k := 1) rfl (nI_1 _) (by decide) rfl (fun ls hl => ?_)
      refine lv_goto (tgt := 2) hx hb dX2_kindOfToken_24 (by decide) ?_
      have hl9 : lv_has ls 2 [(0, .ref (g 1 0)), (1, .int (nI (i + 1)))] := lv_sub hl [1, 0] rfl
      exact ih _ _ _ (by omega) ⟨hw, hl9, (lt_s hE0 (by simp [*]))⟩
    · skip
      have h16 := bI_1 h16
      refine lv_iload_n hx hb dX2_kindOfToken_19 rfl (lv_at hl 1 rfl) ?_
      refine ret_i (wf := cw G g) go hw dX2_kindOfToken_20 ?_
      exact ⟨((kdI_eq _ _ _).trans (fstI_at (p := wdB (sA x 1 0) t z) (i := i) h16 hE0 hlt)).symm, rfl⟩
