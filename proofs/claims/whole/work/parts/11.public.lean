set_option maxHeartbeats 4000000 in
set_option maxRecDepth 100000 in
theorem kX2_append (l : Launch) (G : Cx) (g : Nat → Nat → Nat) (x : Sg) (t : Nat) (ht : sI x 1 1 = nI t) (h2 : t < 200) (v : Int32) : Cv l G yX2_append cX2_append 2 (Rm 0 0) (cw G g) [.ref (g 1 0), .int v] x (fun u => u = apC x t v) := by
  refine Cv.mk (by decide) (Nat.le_of_ble_eq_true rfl) ?_
  intro p e s m below meth c A ls go hw hl
  generalize s.heap = H at hw ⊢
  generalize ([] : List Loc) = locs at hw ⊢
  have hx := go.1
  have hb := go.2.1
  have hl : lv_has ls 2 [(0, .ref (g 1 0)), (1, .int v)] := hl
  refine lv_aload_n hx hb dX2_append_0 rfl (lv_at hl 0 rfl) ?_
  refine gTi (k := 1) (v := nI t) (by decide) ht go hw dX2_append_1 q26 ?_
  refine lv_sipush (v := 200) hx hb dX2_append_4 (by decide) ?_
  refine lv_icmp_ge (tgt := 30) hx hb dX2_append_7 (by decide) (fun h7 => absurd h7 (by exact nI_ge h2 (by decide))) (fun h7 => ?_)
  refine lv_aload_n hx hb dX2_append_10 rfl (lv_at hl 0 rfl) ?_
  refine gT (k := 0) (v := .ref (g 1 1)) rfl (by decide) rfl go hw dX2_append_11 q25 ?_
  refine lv_aload_n hx hb dX2_append_14 rfl (lv_at hl 0 rfl) ?_
  refine gTi (k := 1) (v := nI t) (by decide) ht go hw dX2_append_15 q26 ?_
  refine lv_iload_n hx hb dX2_append_18 rfl (lv_at hl 1 rfl) ?_
  refine sT (k := 0) (j := t) (by decide) (by exact h2) go hw dX2_append_19 (fun H locs hw => ?_)
  refine lv_aload_n hx hb dX2_append_20 rfl (lv_at hl 0 rfl) ?_
  refine lv_dup hx hb dX2_append_21 rfl ?_
  refine gTi (k := 1) (v := nI t) (by decide) ((sI_pA _ _ _ _ _ _).trans ht) go hw dX2_append_22 q26 ?_
  refine lv_iconst (v := 1) hx hb dX2_append_25 (by decide) ?_
  refine lv_iadd hx hb dX2_append_26 ?_
  refine toI (show (nI t) + 1 = nI (t + 1) from by exact nI_1 t) ?_
  refine pT (k := 1) (by decide) go hw dX2_append_27 q26 (fun H locs hw => ?_)
  refine ret_v (wf := cw G g) go hw dX2_append_30 ?_
  rfl

set_option maxHeartbeats 4000000 in
set_option maxRecDepth 100000 in
theorem kX2_kindOf (l : Launch) (G : Cx) (g : Nat → Nat → Nat) (x : Sg) (k : Nat) (hk : k < 24) : Ci l G yX2_kindOf cX2_kindOf 2 .int (Rm 0 0) (cw G g) [.ref (g 1 0), .int (nI k)] x (fun r u => r = sA x 1 2 k ∧ u = x) := by
  refine Ci.mk (by decide) (Nat.le_of_ble_eq_true rfl) ?_
  intro p e s m below meth c A ls go hw hl
  generalize s.heap = H at hw ⊢
  generalize ([] : List Loc) = locs at hw ⊢
  have hx := go.1
  have hb := go.2.1
  have hl : lv_has ls 2 [(0, .ref (g 1 0)), (1, .int (nI k))] := hl
  refine lv_iload_n hx hb dX2_kindOf_0 rfl (lv_at hl 1 rfl) ?_
  refine lv_if_lt (tgt := 19) hx hb dX2_kindOf_1 (by decide) (fun h1 => absurd h1 (by exact nI_pos (by omega))) (fun h1 => ?_)
  refine lv_iload_n hx hb dX2_kindOf_4 rfl (lv_at hl 1 rfl) ?_
  refine lv_bipush (v := 24) hx hb dX2_kindOf_5 (by decide) ?_
  refine lv_icmp_ge (tgt := 19) hx hb dX2_kindOf_7 (by decide) (fun h7 => absurd h7 (by exact nI_ge hk (by decide))) (fun h7 => ?_)
  refine lv_aload_n hx hb dX2_kindOf_10 rfl (lv_at hl 0 rfl) ?_
  refine gT (k := 2) (v := .ref (g 1 3)) rfl (by decide) rfl go hw dX2_kindOf_11 q28 ?_
  refine lv_iload_n hx hb dX2_kindOf_14 rfl (lv_at hl 1 rfl) ?_
  refine aT (k := 2) (j := k) (by decide) (by exact hk) go hw dX2_kindOf_15 ?_
  refine lv_goto (tgt := 20) hx hb dX2_kindOf_16 (by decide) ?_
  refine ret_i (wf := cw G g) go hw dX2_kindOf_20 ?_
  exact ⟨rfl, rfl⟩

set_option maxHeartbeats 4000000 in
set_option maxRecDepth 100000 in
theorem kX2_numberOf (l : Launch) (G : Cx) (g : Nat → Nat → Nat) (x : Sg) (k : Nat) (hk : k < 24) (j : Nat) (hj : j < 3) : Ci l G yX2_numberOf cX2_numberOf 4 .int (Rm 0 0) (cw G g) [.ref (g 1 0), .int (nI k), .int (nI j)] x (fun r u => r = sA x 1 3 (k * 3 + j) ∧ u = x) := by
  refine Ci.mk (by decide) (Nat.le_of_ble_eq_true rfl) ?_
  intro p e s m below meth c A ls go hw hl
  generalize s.heap = H at hw ⊢
  generalize ([] : List Loc) = locs at hw ⊢
  have hx := go.1
  have hb := go.2.1
  have hl : lv_has ls 4 [(0, .ref (g 1 0)), (1, .int (nI k)), (2, .int (nI j))] := hl
  refine lv_iload_n hx hb dX2_numberOf_0 rfl (lv_at hl 1 rfl) ?_
  refine lv_if_lt (tgt := 23) hx hb dX2_numberOf_1 (by decide) (fun h1 => absurd h1 (by exact nI_pos (by omega))) (fun h1 => ?_)
  refine lv_iload_n hx hb dX2_numberOf_4 rfl (lv_at hl 1 rfl) ?_
  refine lv_bipush (v := 24) hx hb dX2_numberOf_5 (by decide) ?_
  refine lv_icmp_ge (tgt := 23) hx hb dX2_numberOf_7 (by decide) (fun h7 => absurd h7 (by exact nI_ge hk (by decide))) (fun h7 => ?_)
  refine lv_iload_n hx hb dX2_numberOf_10 rfl (lv_at hl 2 rfl) ?_
  refine lv_if_lt (tgt := 23) hx hb dX2_numberOf_11 (by decide) (fun h11 => absurd h11 (by exact nI_pos (by omega))) (fun h11 => ?_)
  refine lv_iload_n hx hb dX2_numberOf_14 rfl (lv_at hl 2 rfl) ?_
  refine lv_iconst (v := 3) hx hb dX2_numberOf_15 (by decide) ?_
  refine lv_icmp_ge (tgt := 23) hx hb dX2_numberOf_16 (by decide) (fun h16 => absurd h16 (by exact nI_ge hj (by decide))) (fun h16 => ?_)
  refine lv_iconst (v := 1) hx hb dX2_numberOf_19 (by decide) ?_
  refine lv_goto (tgt := 24) hx hb dX2_numberOf_20 (by decide) ?_
  refine lv_istore_n (lv' := [(3, .int 1), (0, .ref (g 1 0)), (1, .int (nI k)), (2, .int (nI j))]) hx hb dX2_numberOf_24 rfl hl (by decide) rfl (fun ls hl => ?_)
  refine lv_iload_n hx hb dX2_numberOf_25 rfl (lv_at hl 0 rfl) ?_
  refine lv_if_eq (tgt := 42) hx hb dX2_numberOf_26 (by decide) (fun q => absurd q (by decide)) (fun _ => ?_)
  refine lv_aload_n hx hb dX2_numberOf_29 rfl (lv_at hl 1 rfl) ?_
  refine gT (k := 3) (v := .ref (g 1 4)) rfl (by decide) rfl go hw dX2_numberOf_30 q29 ?_
  refine lv_iload_n hx hb dX2_numberOf_33 rfl (lv_at hl 2 rfl) ?_
  refine lv_iconst (v := 3) hx hb dX2_numberOf_34 (by decide) ?_
  refine lv_imul hx hb dX2_numberOf_35 ?_
  refine lv_iload_n hx hb dX2_numberOf_36 rfl (lv_at hl 3 rfl) ?_
  refine lv_iadd hx hb dX2_numberOf_37 ?_
  refine toI (show (((nI k) * 3) + (nI j) : Int32) = nI (k * 3 + j) from by rw [show (3 : Int32) = nI 3 from rfl, pk_mul, nI_add]) ?_
  refine aT (k := 3) (j := (k * 3 + j)) (by decide) (by show k * 3 + j < 72; omega) go hw dX2_numberOf_38 ?_
  refine lv_goto (tgt := 43) hx hb dX2_numberOf_39 (by decide) ?_
  refine ret_i (wf := cw G g) go hw dX2_numberOf_43 ?_
  exact ⟨rfl, rfl⟩

set_option maxHeartbeats 4000000 in
set_option maxRecDepth 100000 in
theorem kX3_write (l : Launch) (G : Cx) (g : Nat → Nat → Nat) (x : Sg) (t : Nat) (ht : sI x 1 1 = nI t) (ht2 : t ≤ 200) (v : Int32) : Ci l G yX3_write cX3_write 2 .int (Rm 1 21) (cw G g) [.ref (g 0 0), .int v] x (fun r u => r = (wrC x t v).1 ∧ u = (wrC x t v).2) := by
  refine Ci.mk (by decide) (Nat.le_of_ble_eq_true rfl) ?_
  intro p e s m below meth c A ls go hw hl
  generalize s.heap = H at hw ⊢
  generalize ([] : List Loc) = locs at hw ⊢
  have hx := go.1
  have hb := go.2.1
  have hl : lv_has ls 2 [(0, .ref (g 0 0)), (1, .int v)] := hl
  refine lv_iload_n hx hb dX3_write_0 rfl (lv_at hl 1 rfl) ?_
  refine lv_if_lt (tgt := 11) hx hb dX3_write_1 (by decide) (fun h1 => ?_) (fun h1 => ?_)
  · skip
    refine lv_bipush (v := (-3)) hx hb dX3_write_11 (by decide) ?_
    refine ret_i (wf := cw G g) go hw dX3_write_13 ?_
    exact ⟨by simp [wrC, apC, sI_pI, *], by simp [wrC, *]⟩
  · skip
    refine lv_iload_n hx hb dX3_write_4 rfl (lv_at hl 1 rfl) ?_
    refine lv_sipush (v := 255) hx hb dX3_write_5 (by decide) ?_
    refine lv_icmp_le (tgt := 14) hx hb dX3_write_8 (by decide) (fun h8 => ?_) (fun h8 => ?_)
    · skip
      refine lv_aload_n hx hb dX3_write_14 rfl (lv_at hl 0 rfl) ?_
      refine gX (k := 0) (v := .ref (g 1 0)) rfl (by decide) rfl go hw dX3_write_15 q127 ?_
      refine gTi (k := 1) (v := nI t) (by decide) ht go hw dX3_write_18 q27 ?_
      refine lv_sipush (v := 200) hx hb dX3_write_21 (by decide) ?_
      refine lv_icmp_lt (tgt := 30) hx hb dX3_write_24 (by decide) (fun h24 => ?_) (fun h24 => ?_)
      · skip
        have h24b : t < 200 := (nI_ltI (by omega) (by decide)).mp h24
        refine lv_aload_n hx hb dX3_write_30 rfl (lv_at hl 0 rfl) ?_
        refine gX (k := 0) (v := .ref (g 1 0)) rfl (by decide) rfl go hw dX3_write_31 q127 ?_
        refine lv_iload_n hx hb dX3_write_34 rfl (lv_at hl 1 rfl) ?_
        refine cal_Vv' (kX2_append l G g x t ht h24b v) go hw dX3_write_35 (And.intro q168 (And.intro q2 q171)) q169 q170 kyX2_append ⟨Nat.le_of_ble_eq_true rfl, Nat.le_of_ble_eq_true rfl⟩ rc_T hl.1 rfl (Nat.le_of_ble_eq_true rfl) ⟨rfl, rfl⟩ ⟨Nat.le_of_ble_eq_true rfl, Nat.le_of_ble_eq_true rfl⟩ (fun H locs hw => ?_)
        refine lv_aload_n hx hb dX3_write_38 rfl (lv_at hl 0 rfl) ?_
        refine gX (k := 0) (v := .ref (g 1 0)) rfl (by decide) rfl go hw dX3_write_39 q127 ?_
        refine gTi (k := 1) (v := sI (apC x t v) 1 1) (by decide) rfl go hw dX3_write_42 q27 ?_
        refine ret_i (wf := cw G g) go hw dX3_write_45 ?_
        exact ⟨by simp [wrC, apC, sI_pI, *], by simp [wrC, *]⟩
      · skip
        have h24b : ¬ t < 200 := fun q => h24 (nI_lt q (by decide))
        refine lv_bipush (v := (-5)) hx hb dX3_write_27 (by decide) ?_
        refine ret_i (wf := cw G g) go hw dX3_write_29 ?_
        exact ⟨by simp [wrC, apC, sI_pI, *], by simp [wrC, *]⟩
    · skip
      refine lv_bipush (v := (-3)) hx hb dX3_write_11 (by decide) ?_
      refine ret_i (wf := cw G g) go hw dX3_write_13 ?_
      exact ⟨by simp [wrC, apC, sI_pI, *], by simp [wrC, *]⟩

set_option maxHeartbeats 4000000 in
set_option maxRecDepth 100000 in
theorem kX3_erase (l : Launch) (G : Cx) (g : Nat → Nat → Nat) (x : Sg) : Ci l G yX3_erase cX3_erase 2 .int (Rm 0 0) (cw G g) [.ref (g 0 0)] x (fun r u => r = sI x 1 1 ∧ u = pI x 1 1 0) := by
  refine Ci.mk (by decide) (Nat.le_of_ble_eq_true rfl) ?_
  intro p e s m below meth c A ls go hw hl
  generalize s.heap = H at hw ⊢
  generalize ([] : List Loc) = locs at hw ⊢
  have hx := go.1
  have hb := go.2.1
  have hl : lv_has ls 2 [(0, .ref (g 0 0))] := hl
  refine lv_aload_n hx hb dX3_erase_0 rfl (lv_at hl 0 rfl) ?_
  refine gX (k := 0) (v := .ref (g 1 0)) rfl (by decide) rfl go hw dX3_erase_1 q127 ?_
  refine gTi (k := 1) (v := sI x 1 1) (by decide) rfl go hw dX3_erase_4 q27 ?_
  refine lv_istore_n (lv' := [(1, .int (sI x 1 1)), (0, .ref (g 0 0))]) hx hb dX3_erase_7 rfl hl (by decide) rfl (fun ls hl => ?_)
  refine lv_aload_n hx hb dX3_erase_8 rfl (lv_at hl 1 rfl) ?_
  refine gX (k := 0) (v := .ref (g 1 0)) rfl (by decide) rfl go hw dX3_erase_9 q127 ?_
  refine lv_iconst (v := 0) hx hb dX3_erase_12 (by decide) ?_
  refine pT (k := 1) (by decide) go hw dX3_erase_13 q27 (fun H locs hw => ?_)
  refine lv_iload_n hx hb dX3_erase_16 rfl (lv_at hl 0 rfl) ?_
  refine ret_i (wf := cw G g) go hw dX3_erase_17 ?_
  exact ⟨rfl, rfl⟩

set_option maxHeartbeats 4000000 in
set_option maxRecDepth 100000 in
theorem kX3_item (l : Launch) (G : Cx) (g : Nat → Nat → Nat) (x : Sg) (a w : Int32) : Ci l G yX3_item cX3_item 3 .int (Rm 1 20) (cw G g) [.ref (g 0 0), .int a, .int w] x (fun r u => r = itC x a w ∧ u = x) := by
  refine Ci.mk (by decide) (Nat.le_of_ble_eq_true rfl) ?_
  intro p e s m below meth c A ls go hw hl
  generalize s.heap = H at hw ⊢
  generalize ([] : List Loc) = locs at hw ⊢
  have hx := go.1
  have hb := go.2.1
  have hl : lv_has ls 3 [(0, .ref (g 0 0)), (1, .int a), (2, .int w)] := hl
  refine lv_iload_n hx hb dX3_item_0 rfl (lv_at hl 1 rfl) ?_
  refine cal_S (kX3_isItem l G a) go hw.2.2.1 hw.2.2.2.1 dX3_item_1 (And.intro q311 (And.intro q1 q313)) q312 kyX3_isItem ⟨rfl, rfl⟩ ⟨Nat.le_of_ble_eq_true rfl, Nat.le_of_ble_eq_true rfl⟩ hl.1 rfl (Nat.le_of_ble_eq_true rfl) ⟨Nat.le_of_ble_eq_true rfl, Nat.le_of_ble_eq_true rfl⟩ ?_
  refine lv_if_ne (tgt := 10) hx hb dX3_item_4 (by decide) (fun h4 => ?_) (fun h4 => ?_)
  · skip
    have h4 := bI_1 h4
    obtain ⟨i, hi, rfl⟩ := inB_of (n := 8) h4 rfl (by decide)
    have ci : (nI i).toNatClampNeg = i := nI_clamp (by omega)
    refine lv_iload_n hx hb dX3_item_10 rfl (lv_at hl 2 rfl) ?_
    by_cases w11_0 : w = 0
    · refine toI w11_0 ?_
      refine lv_lookup (off := 25) (tgt := 36) hx hb dX3_item_11 (by decide) (by decide) (by decide) ?_
      refine lv_aload_n hx hb dX3_item_36 rfl (lv_at hl 0 rfl) ?_
      refine gX (k := 1) (v := .ref (g 0 2)) rfl (by decide) rfl go hw dX3_item_37 q128 ?_
      refine lv_iload_n hx hb dX3_item_40 rfl (lv_at hl 1 rfl) ?_
      refine aX (k := 1) (j := i) (by decide) (by exact hi) go hw dX3_item_41 ?_
      refine ret_i (wf := cw G g) go hw dX3_item_42 ?_
      exact ⟨by simp [itC, *], rfl⟩
    by_cases w11_1 : w = 1
    · refine toI w11_1 ?_
      refine lv_lookup (off := 32) (tgt := 43) hx hb dX3_item_11 (by decide) (by decide) (by decide) ?_
      refine lv_aload_n hx hb dX3_item_43 rfl (lv_at hl 0 rfl) ?_
      refine gX (k := 2) (v := .ref (g 0 3)) rfl (by decide) rfl go hw dX3_item_44 q129 ?_
      refine lv_iload_n hx hb dX3_item_47 rfl (lv_at hl 1 rfl) ?_
      refine aX (k := 2) (j := i) (by decide) (by exact hi) go hw dX3_item_48 ?_
      refine ret_i (wf := cw G g) go hw dX3_item_49 ?_
      exact ⟨by simp [itC, *], rfl⟩
    refine lv_lookup (off := 39) (tgt := 50) hx hb dX3_item_11 (by decide) (by show Op.lookupswitch.offset [(0, 25), (1, 32)] 39 w.toInt = 39; rw [lv_osw (a := 0) w11_0 rfl, lv_osw (a := 1) w11_1 rfl]; rfl) (by decide) ?_
    refine lv_bipush (v := (-3)) hx hb dX3_item_50 (by decide) ?_
    refine ret_i (wf := cw G g) go hw dX3_item_52 ?_
    exact ⟨by simp [itC, *], rfl⟩
  · skip
    have h4 := bI_0 h4
    refine lv_bipush (v := (-2)) hx hb dX3_item_7 (by decide) ?_
    refine ret_i (wf := cw G g) go hw dX3_item_9 ?_
    exact ⟨by simp [itC, *], rfl⟩

set_option maxHeartbeats 4000000 in
set_option maxRecDepth 100000 in
theorem kX3_limit (l : Launch) (G : Cx) (g : Nat → Nat → Nat) (x : Sg) (n : Int32) : Ci l G yX3_limit cX3_limit 3 .int (Rm 0 0) (cw G g) [.ref (g 0 0), .int n] x (fun r u => r = (liC x n).1 ∧ u = (liC x n).2) := by
  refine Ci.mk (by decide) (Nat.le_of_ble_eq_true rfl) ?_
  intro p e s m below meth c A ls go hw hl
  generalize s.heap = H at hw ⊢
  generalize ([] : List Loc) = locs at hw ⊢
  have hx := go.1
  have hb := go.2.1
  have hl : lv_has ls 3 [(0, .ref (g 0 0)), (1, .int n)] := hl
  refine lv_iload_n hx hb dX3_limit_0 rfl (lv_at hl 1 rfl) ?_
  refine lv_iconst (v := 1) hx hb dX3_limit_1 (by decide) ?_
  refine lv_icmp_lt (tgt := 11) hx hb dX3_limit_2 (by decide) (fun h2 => ?_) (fun h2 => ?_)
  · skip
    refine lv_bipush (v := (-3)) hx hb dX3_limit_11 (by decide) ?_
    refine ret_i (wf := cw G g) go hw dX3_limit_13 ?_
    exact ⟨by simp [liC, *], by simp [liC, *]⟩
  · skip
    refine lv_iload_n hx hb dX3_limit_5 rfl (lv_at hl 1 rfl) ?_
    refine lv_bipush (v := 9) hx hb dX3_limit_6 (by decide) ?_
    refine lv_icmp_le (tgt := 14) hx hb dX3_limit_8 (by decide) (fun h8 => ?_) (fun h8 => ?_)
    · skip
      refine lv_aload_n hx hb dX3_limit_14 rfl (lv_at hl 0 rfl) ?_
      refine gXi (k := 6) (v := sI x 0 6) ⟨by decide, by decide⟩ rfl go hw dX3_limit_15 q133 ?_
      refine lv_istore_n (lv' := [(2, .int (sI x 0 6)), (0, .ref (g 0 0)), (1, .int n)]) hx hb dX3_limit_18 rfl hl (by decide) rfl (fun ls hl => ?_)
      refine lv_aload_n hx hb dX3_limit_19 rfl (lv_at hl 1 rfl) ?_
      refine lv_iload_n hx hb dX3_limit_20 rfl (lv_at hl 2 rfl) ?_
      refine pX (k := 6) ⟨by decide, by decide⟩ go hw dX3_limit_21 q133 (fun H locs hw => ?_)
      refine lv_iload_n hx hb dX3_limit_24 rfl (lv_at hl 0 rfl) ?_
      refine ret_i (wf := cw G g) go hw dX3_limit_25 ?_
      exact ⟨by simp [liC, *], by simp [liC, *]⟩
    · skip
      refine lv_bipush (v := (-3)) hx hb dX3_limit_11 (by decide) ?_
      refine ret_i (wf := cw G g) go hw dX3_limit_13 ?_
      exact ⟨by simp [liC, *], by simp [liC, *]⟩

set_option maxHeartbeats 4000000 in
set_option maxRecDepth 100000 in
theorem kX3_begin (l : Launch) (G : Cx) (g : Nat → Nat → Nat) (x : Sg) (a : Int32) : Ci l G yX3_begin cX3_begin 3 .int (Rm 1 23) (cw G g) [.ref (g 0 0), .int a] x (fun r u => r = (beC x a).1 ∧ u = (beC x a).2) := by
  refine Ci.mk (by decide) (Nat.le_of_ble_eq_true rfl) ?_
  intro p e s m below meth c A ls go hw hl
  generalize s.heap = H at hw ⊢
  generalize ([] : List Loc) = locs at hw ⊢
  have hx := go.1
  have hb := go.2.1
  have hl : lv_has ls 3 [(0, .ref (g 0 0)), (1, .int a)] := hl
  refine lv_iload_n hx hb dX3_begin_0 rfl (lv_at hl 1 rfl) ?_
  refine cal_S (kX3_isDeal l G a) go hw.2.2.1 hw.2.2.2.1 dX3_begin_1 (And.intro q382 (And.intro q1 q384)) q383 kyX3_isDeal ⟨rfl, rfl⟩ ⟨Nat.le_of_ble_eq_true rfl, Nat.le_of_ble_eq_true rfl⟩ hl.1 rfl (Nat.le_of_ble_eq_true rfl) ⟨Nat.le_of_ble_eq_true rfl, Nat.le_of_ble_eq_true rfl⟩ ?_
  refine lv_if_ne (tgt := 10) hx hb dX3_begin_4 (by decide) (fun h4 => ?_) (fun h4 => ?_)
  · skip
    have h4 := bI_1 h4
    obtain ⟨d, hd, rfl⟩ := inB_of (n := 6) h4 rfl (by decide)
    have cd : (nI d).toNatClampNeg = d := nI_clamp (by omega)
    refine lv_aload_n hx hb dX3_begin_10 rfl (lv_at hl 0 rfl) ?_
    refine gX (k := 3) (v := .ref (g 0 4)) rfl (by decide) rfl go hw dX3_begin_11 q130 ?_
    refine lv_iload_n hx hb dX3_begin_14 rfl (lv_at hl 1 rfl) ?_
    refine aDl (d := d) (by exact hd) go hw dX3_begin_15 ?_
    refine lv_astore_n (lv' := [(2, .ref (g (2 + d) 0)), (0, .ref (g 0 0)), (1, .int (nI d))]) hx hb dX3_begin_16 rfl hl (by decide) rfl (fun ls hl => ?_)
    refine lv_aload_n hx hb dX3_begin_17 rfl (lv_at hl 0 rfl) ?_
    refine gDi (d := d) (k := 1) (v := sI x (2 + d) 1) hd (by decide) rfl go hw dX3_begin_18 q63 ?_
    refine lv_if_eq (tgt := 27) hx hb dX3_begin_21 (by decide) (fun h21 => ?_) (fun h21 => ?_)
    · skip
      refine lv_aload_n hx hb dX3_begin_27 rfl (lv_at hl 1 rfl) ?_
      refine lv_dup hx hb dX3_begin_28 rfl ?_
      refine gXi (k := 7) (v := sI x 0 7) ⟨by decide, by decide⟩ rfl go hw dX3_begin_29 q134 ?_
      refine lv_iconst (v := 1) hx hb dX3_begin_32 (by decide) ?_
      refine lv_iadd hx hb dX3_begin_33 ?_
      refine pX (k := 7) ⟨by decide, by decide⟩ go hw dX3_begin_34 q134 (fun H locs hw => ?_)
      refine lv_aload_n hx hb dX3_begin_37 rfl (lv_at hl 0 rfl) ?_
      refine lv_aload_n hx hb dX3_begin_38 rfl (lv_at hl 1 rfl) ?_
      refine gXi (k := 5) (v := sI x 0 5) ⟨by decide, by decide⟩ ((sI_ne (by omega)).trans rfl) go hw dX3_begin_39 q132 ?_
      refine lv_aload_n hx hb dX3_begin_42 rfl (lv_at hl 1 rfl) ?_
      refine gXi (k := 7) (v := (sI x 0 7) + 1) ⟨by decide, by decide⟩ sI_eq go hw dX3_begin_43 q134 ?_
      refine lv_iconst (v := 0) hx hb dX3_begin_46 (by decide) ?_
      refine cal_Vv' (kX0_becomeOpen l G g (pI x 0 7 ((sI x 0 7) + 1)) d hd (sI x 0 5) ((sI x 0 7) + 1) 0) go hw dX3_begin_47 (And.intro q385 (And.intro q3 q388)) q386 q387 kyX0_becomeOpen ⟨Nat.le_of_ble_eq_true rfl, Nat.le_of_ble_eq_true rfl⟩ (rc_D hd) hl.1 rfl (Nat.le_of_ble_eq_true rfl) ⟨rfl, rfl⟩ ⟨Nat.le_of_ble_eq_true rfl, Nat.le_of_ble_eq_true rfl⟩ (fun H locs hw => ?_)
      refine lv_aload_n hx hb dX3_begin_50 rfl (lv_at hl 0 rfl) ?_
      refine gDi (d := d) (k := 3) (v := sI (opD (pI x 0 7 ((sI x 0 7) + 1)) d (sI x 0 5) ((sI x 0 7) + 1) 0) (2 + d) 3) hd (by decide) rfl go hw dX3_begin_51 q68 ?_
      refine ret_i (wf := cw G g) go hw dX3_begin_54 ?_
      exact ⟨by simp [beC, opD, sI_pI, *], by simp [beC, *]⟩
    · skip
      refine lv_bipush (v := (-4)) hx hb dX3_begin_24 (by decide) ?_
      refine ret_i (wf := cw G g) go hw dX3_begin_26 ?_
      exact ⟨by simp [beC, opD, sI_pI, *], by simp [beC, *]⟩
  · skip
    have h4 := bI_0 h4
    refine lv_bipush (v := (-2)) hx hb dX3_begin_7 (by decide) ?_
    refine ret_i (wf := cw G g) go hw dX3_begin_9 ?_
    exact ⟨by simp [beC, opD, sI_pI, *], by simp [beC, *]⟩

set_option maxHeartbeats 4000000 in
set_option maxRecDepth 100000 in
theorem kX3_retry (l : Launch) (G : Cx) (g : Nat → Nat → Nat) (x : Sg) (a : Int32) : Ci l G yX3_retry cX3_retry 3 .int (Rm 1 23) (cw G g) [.ref (g 0 0), .int a] x (fun r u => r = (reC x a).1 ∧ u = (reC x a).2) := by
  refine Ci.mk (by decide) (Nat.le_of_ble_eq_true rfl) ?_
  intro p e s m below meth c A ls go hw hl
  generalize s.heap = H at hw ⊢
  generalize ([] : List Loc) = locs at hw ⊢
  have hx := go.1
  have hb := go.2.1
  have hl : lv_has ls 3 [(0, .ref (g 0 0)), (1, .int a)] := hl
  refine lv_iload_n hx hb dX3_retry_0 rfl (lv_at hl 1 rfl) ?_
  refine cal_S (kX3_isDeal l G a) go hw.2.2.1 hw.2.2.2.1 dX3_retry_1 (And.intro q382 (And.intro q1 q384)) q383 kyX3_isDeal ⟨rfl, rfl⟩ ⟨Nat.le_of_ble_eq_true rfl, Nat.le_of_ble_eq_true rfl⟩ hl.1 rfl (Nat.le_of_ble_eq_true rfl) ⟨Nat.le_of_ble_eq_true rfl, Nat.le_of_ble_eq_true rfl⟩ ?_
  refine lv_if_ne (tgt := 10) hx hb dX3_retry_4 (by decide) (fun h4 => ?_) (fun h4 => ?_)
  · skip
    have h4 := bI_1 h4
    obtain ⟨d, hd, rfl⟩ := inB_of (n := 6) h4 rfl (by decide)
    have cd : (nI d).toNatClampNeg = d := nI_clamp (by omega)
    refine lv_aload_n hx hb dX3_retry_10 rfl (lv_at hl 0 rfl) ?_
    refine gX (k := 3) (v := .ref (g 0 4)) rfl (by decide) rfl go hw dX3_retry_11 q130 ?_
    refine lv_iload_n hx hb dX3_retry_14 rfl (lv_at hl 1 rfl) ?_
    refine aDl (d := d) (by exact hd) go hw dX3_retry_15 ?_
    refine lv_astore_n (lv' := [(2, .ref (g (2 + d) 0)), (0, .ref (g 0 0)), (1, .int (nI d))]) hx hb dX3_retry_16 rfl hl (by decide) rfl (fun ls hl => ?_)
    refine lv_aload_n hx hb dX3_retry_17 rfl (lv_at hl 0 rfl) ?_
    refine gDi (d := d) (k := 8) (v := sI x (2 + d) 8) hd (by decide) rfl go hw dX3_retry_18 q81 ?_
    refine lv_if_ne (tgt := 27) hx hb dX3_retry_21 (by decide) (fun h21 => ?_) (fun h21 => ?_)
    · skip
      refine lv_aload_n hx hb dX3_retry_27 rfl (lv_at hl 0 rfl) ?_
      refine lv_aload_n hx hb dX3_retry_28 rfl (lv_at hl 1 rfl) ?_
      refine gXi (k := 5) (v := sI x 0 5) ⟨by decide, by decide⟩ rfl go hw dX3_retry_29 q132 ?_
      refine lv_aload_n hx hb dX3_retry_32 rfl (lv_at hl 0 rfl) ?_
      refine gDi (d := d) (k := 3) (v := sI x (2 + d) 3) hd (by decide) rfl go hw dX3_retry_33 q68 ?_
      refine lv_aload_n hx hb dX3_retry_36 rfl (lv_at hl 0 rfl) ?_
      refine gDi (d := d) (k := 4) (v := sI x (2 + d) 4) hd (by decide) rfl go hw dX3_retry_37 q71 ?_
      refine lv_iconst (v := 1) hx hb dX3_retry_40 (by decide) ?_
      refine lv_iadd hx hb dX3_retry_41 ?_
      refine cal_Vv' (kX0_becomeOpen l G g x d hd (sI x 0 5) (sI x (2 + d) 3) ((sI x (2 + d) 4) + 1)) go hw dX3_retry_42 (And.intro q385 (And.intro q3 q388)) q386 q387 kyX0_becomeOpen ⟨Nat.le_of_ble_eq_true rfl, Nat.le_of_ble_eq_true rfl⟩ (rc_D hd) hl.1 rfl (Nat.le_of_ble_eq_true rfl) ⟨rfl, rfl⟩ ⟨Nat.le_of_ble_eq_true rfl, Nat.le_of_ble_eq_true rfl⟩ (fun H locs hw => ?_)
      refine lv_aload_n hx hb dX3_retry_45 rfl (lv_at hl 0 rfl) ?_
      refine gDi (d := d) (k := 4) (v := sI (opD x d (sI x 0 5) (sI x (2 + d) 3) ((sI x (2 + d) 4) + 1)) (2 + d) 4) hd (by decide) rfl go hw dX3_retry_46 q71 ?_
      refine ret_i (wf := cw G g) go hw dX3_retry_49 ?_
      exact ⟨by simp [reC, opD, sI_pI, *], by simp [reC, *]⟩
    · skip
      refine lv_bipush (v := (-4)) hx hb dX3_retry_24 (by decide) ?_
      refine ret_i (wf := cw G g) go hw dX3_retry_26 ?_
      exact ⟨by simp [reC, opD, sI_pI, *], by simp [reC, *]⟩
  · skip
    have h4 := bI_0 h4
    refine lv_bipush (v := (-2)) hx hb dX3_retry_7 (by decide) ?_
    refine ret_i (wf := cw G g) go hw dX3_retry_9 ?_
    exact ⟨by simp [reC, opD, sI_pI, *], by simp [reC, *]⟩

set_option maxHeartbeats 4000000 in
set_option maxRecDepth 100000 in
theorem kX3_read (l : Launch) (G : Cx) (g : Nat → Nat → Nat) (x : Sg) (a b : Int32) : Ci l G yX3_read cX3_read 4 .int (Rm 2 43) (cw G g) [.ref (g 0 0), .int a, .int b] x (fun r u => r = (rdC x a b).1 ∧ u = (rdC x a b).2) := by
  refine Ci.mk (by decide) (Nat.le_of_ble_eq_true rfl) ?_
  intro p e s m below meth c A ls go hw hl
  generalize s.heap = H at hw ⊢
  generalize ([] : List Loc) = locs at hw ⊢
  have hx := go.1
  have hb := go.2.1
  have hl : lv_has ls 4 [(0, .ref (g 0 0)), (1, .int a), (2, .int b)] := hl
  refine lv_iload_n hx hb dX3_read_0 rfl (lv_at hl 1 rfl) ?_
  refine cal_S (kX3_isDeal l G a) go hw.2.2.1 hw.2.2.2.1 dX3_read_1 (And.intro q382 (And.intro q1 q384)) q383 kyX3_isDeal ⟨rfl, rfl⟩ ⟨Nat.le_of_ble_eq_true rfl, Nat.le_of_ble_eq_true rfl⟩ hl.1 rfl (Nat.le_of_ble_eq_true rfl) ⟨Nat.le_of_ble_eq_true rfl, Nat.le_of_ble_eq_true rfl⟩ ?_
  refine lv_if_eq (tgt := 14) hx hb dX3_read_4 (by decide) (fun h4 => ?_) (fun h4 => ?_)
  · skip
    have h4 := bI_0 h4
    refine lv_bipush (v := (-2)) hx hb dX3_read_14 (by decide) ?_
    refine ret_i (wf := cw G g) go hw dX3_read_16 ?_
    exact ⟨by simp [rdC, noD, sA_pA, sA_pI, upd, *], by simp [rdC, *]⟩
  · skip
    have h4 := bI_1 h4
    refine lv_iload_n hx hb dX3_read_7 rfl (lv_at hl 2 rfl) ?_
    refine cal_S (kX3_isItem l G b) go hw.2.2.1 hw.2.2.2.1 dX3_read_8 (And.intro q311 (And.intro q1 q313)) q312 kyX3_isItem ⟨rfl, rfl⟩ ⟨Nat.le_of_ble_eq_true rfl, Nat.le_of_ble_eq_true rfl⟩ hl.1 rfl (Nat.le_of_ble_eq_true rfl) ⟨Nat.le_of_ble_eq_true rfl, Nat.le_of_ble_eq_true rfl⟩ ?_
    refine lv_if_ne (tgt := 17) hx hb dX3_read_11 (by decide) (fun h11 => ?_) (fun h11 => ?_)
    · skip
      have h11 := bI_1 h11
      obtain ⟨d, hd, rfl⟩ := inB_of (n := 6) h4 rfl (by decide)
      have cd : (nI d).toNatClampNeg = d := nI_clamp (by omega)
      obtain ⟨i, hi, rfl⟩ := inB_of (n := 8) h11 rfl (by decide)
      have ci : (nI i).toNatClampNeg = i := nI_clamp (by omega)
      refine lv_aload_n hx hb dX3_read_17 rfl (lv_at hl 0 rfl) ?_
      refine gX (k := 3) (v := .ref (g 0 4)) rfl (by decide) rfl go hw dX3_read_18 q130 ?_
      refine lv_iload_n hx hb dX3_read_21 rfl (lv_at hl 1 rfl) ?_
      refine aDl (d := d) (by exact hd) go hw dX3_read_22 ?_
      refine lv_astore_n (lv' := [(3, .ref (g (2 + d) 0)), (0, .ref (g 0 0)), (1, .int (nI d)), (2, .int (nI i))]) hx hb dX3_read_23 rfl hl (by decide) rfl (fun ls hl => ?_)
      refine lv_aload_n hx hb dX3_read_24 rfl (lv_at hl 0 rfl) ?_
      refine gDi (d := d) (k := 1) (v := sI x (2 + d) 1) hd (by decide) rfl go hw dX3_read_25 q63 ?_
      refine lv_iconst (v := 1) hx hb dX3_read_28 (by decide) ?_
      refine lv_icmp_eq (tgt := 35) hx hb dX3_read_29 (by decide) (fun h29 => ?_) (fun h29 => ?_)
      · skip
        refine lv_aload_n hx hb dX3_read_35 rfl (lv_at hl 0 rfl) ?_
        refine gDi (d := d) (k := 6) (v := sI x (2 + d) 6) hd (by decide) rfl go hw dX3_read_36 q77 ?_
        refine lv_iload_n hx hb dX3_read_39 rfl (lv_at hl 3 rfl) ?_
        refine cal_S (kX3_has l G (sI x (2 + d) 6) (nI i)) go hw.2.2.1 hw.2.2.2.1 dX3_read_40 (And.intro q393 (And.intro q1 q395)) q394 kyX3_has ⟨rfl, rfl⟩ ⟨Nat.le_of_ble_eq_true rfl, Nat.le_of_ble_eq_true rfl⟩ hl.1 rfl (Nat.le_of_ble_eq_true rfl) ⟨Nat.le_of_ble_eq_true rfl, Nat.le_of_ble_eq_true rfl⟩ ?_
        refine lv_if_eq (tgt := 53) hx hb dX3_read_43 (by decide) (fun h43 => ?_) (fun h43 => ?_)
        · skip
          have h43 := bI_0 h43
          refine lv_aload_n hx hb dX3_read_53 rfl (lv_at hl 0 rfl) ?_
          refine gDi (d := d) (k := 5) (v := sI x (2 + d) 5) hd (by decide) rfl go hw dX3_read_54 q74 ?_
          refine lv_iload_n hx hb dX3_read_57 rfl (lv_at hl 3 rfl) ?_
          refine cal_S (kX3_has l G (sI x (2 + d) 5) (nI i)) go hw.2.2.1 hw.2.2.2.1 dX3_read_58 (And.intro q393 (And.intro q1 q395)) q394 kyX3_has ⟨rfl, rfl⟩ ⟨Nat.le_of_ble_eq_true rfl, Nat.le_of_ble_eq_true rfl⟩ hl.1 rfl (Nat.le_of_ble_eq_true rfl) ⟨Nat.le_of_ble_eq_true rfl, Nat.le_of_ble_eq_true rfl⟩ ?_
          refine lv_if_ne (tgt := 81) hx hb dX3_read_61 (by decide) (fun h61 => ?_) (fun h61 => ?_)
          · skip
            have h61 := bI_1 h61
            refine lv_aload_n hx hb dX3_read_81 rfl (lv_at hl 0 rfl) ?_
            refine gD (d := d) (k := 9) (v := .ref (g (2 + d) 10)) hd rfl (by decide) rfl go hw dX3_read_82 q83 ?_
            refine lv_iload_n hx hb dX3_read_85 rfl (lv_at hl 3 rfl) ?_
            refine aD (d := d) (k := 9) (j := i) hd (by decide) (by exact hi) go hw dX3_read_86 ?_
            refine ret_i (wf := cw G g) go hw dX3_read_87 ?_
            exact ⟨by simp [rdC, noD, sA_pA, sA_pI, upd, *], by simp [rdC, *]⟩
          · skip
            have h61 := bI_0 h61
            refine lv_aload_n hx hb dX3_read_64 rfl (lv_at hl 0 rfl) ?_
            refine lv_iload_n hx hb dX3_read_65 rfl (lv_at hl 3 rfl) ?_
            refine lv_aload_n hx hb dX3_read_66 rfl (lv_at hl 1 rfl) ?_
            refine gX (k := 1) (v := .ref (g 0 2)) rfl (by decide) rfl go hw dX3_read_67 q128 ?_
            refine lv_iload_n hx hb dX3_read_70 rfl (lv_at hl 3 rfl) ?_
            refine aX (k := 1) (j := i) (by decide) (by exact hi) go hw dX3_read_71 ?_
            refine lv_aload_n hx hb dX3_read_72 rfl (lv_at hl 1 rfl) ?_
            refine gX (k := 2) (v := .ref (g 0 3)) rfl (by decide) rfl go hw dX3_read_73 q129 ?_
            refine lv_iload_n hx hb dX3_read_76 rfl (lv_at hl 3 rfl) ?_
            refine aX (k := 2) (j := i) (by decide) (by exact hi) go hw dX3_read_77 ?_
            refine cal_Vv' (kX0_note l G g x d hd i (by omega) (sA x 0 1 i) (sA x 0 2 i)) go hw dX3_read_78 (And.intro q397 (And.intro q3 q400)) q398 q399 kyX0_note ⟨Nat.le_of_ble_eq_true rfl, Nat.le_of_ble_eq_true rfl⟩ (rc_D hd) hl.1 rfl (Nat.le_of_ble_eq_true rfl) ⟨rfl, rfl⟩ ⟨Nat.le_of_ble_eq_true rfl, Nat.le_of_ble_eq_true rfl⟩ (fun H locs hw => ?_)
            refine lv_aload_n hx hb dX3_read_81 rfl (lv_at hl 0 rfl) ?_
            refine gD (d := d) (k := 9) (v := .ref (g (2 + d) 10)) hd rfl (by decide) rfl go hw dX3_read_82 q83 ?_
            refine lv_iload_n hx hb dX3_read_85 rfl (lv_at hl 3 rfl) ?_
            refine aD (d := d) (k := 9) (j := i) hd (by decide) (by exact hi) go hw dX3_read_86 ?_
            refine ret_i (wf := cw G g) go hw dX3_read_87 ?_
            exact ⟨by simp [rdC, noD, sA_pA, sA_pI, upd, *], by simp [rdC, *]⟩
        · skip
          have h43 := bI_1 h43
          refine lv_aload_n hx hb dX3_read_46 rfl (lv_at hl 0 rfl) ?_
          refine gD (d := d) (k := 11) (v := .ref (g (2 + d) 12)) hd rfl (by decide) rfl go hw dX3_read_47 q89 ?_
          refine lv_iload_n hx hb dX3_read_50 rfl (lv_at hl 3 rfl) ?_
          refine aD (d := d) (k := 11) (j := i) hd (by decide) (by exact hi) go hw dX3_read_51 ?_
          refine ret_i (wf := cw G g) go hw dX3_read_52 ?_
          exact ⟨by simp [rdC, noD, sA_pA, sA_pI, upd, *], by simp [rdC, *]⟩
      · skip
        refine lv_bipush (v := (-4)) hx hb dX3_read_32 (by decide) ?_
        refine ret_i (wf := cw G g) go hw dX3_read_34 ?_
        exact ⟨by simp [rdC, noD, sA_pA, sA_pI, upd, *], by simp [rdC, *]⟩
    · skip
      have h11 := bI_0 h11
      refine lv_bipush (v := (-2)) hx hb dX3_read_14 (by decide) ?_
      refine ret_i (wf := cw G g) go hw dX3_read_16 ?_
      exact ⟨by simp [rdC, noD, sA_pA, sA_pI, upd, *], by simp [rdC, *]⟩

set_option maxHeartbeats 4000000 in
set_option maxRecDepth 100000 in
theorem kX3_lay (l : Launch) (G : Cx) (g : Nat → Nat → Nat) (x : Sg) (a b v : Int32) : Ci l G yX3_lay cX3_lay 5 .int (Rm 1 20) (cw G g) [.ref (g 0 0), .int a, .int b, .int v] x (fun r u => r = (laC x a b v).1 ∧ u = (laC x a b v).2) := by
  refine Ci.mk (by decide) (Nat.le_of_ble_eq_true rfl) ?_
  intro p e s m below meth c A ls go hw hl
  generalize s.heap = H at hw ⊢
  generalize ([] : List Loc) = locs at hw ⊢
  have hx := go.1
  have hb := go.2.1
  have hl : lv_has ls 5 [(0, .ref (g 0 0)), (1, .int a), (2, .int b), (3, .int v)] := hl
  refine lv_iload_n hx hb dX3_lay_0 rfl (lv_at hl 1 rfl) ?_
  refine cal_S (kX3_isDeal l G a) go hw.2.2.1 hw.2.2.2.1 dX3_lay_1 (And.intro q382 (And.intro q1 q384)) q383 kyX3_isDeal ⟨rfl, rfl⟩ ⟨Nat.le_of_ble_eq_true rfl, Nat.le_of_ble_eq_true rfl⟩ hl.1 rfl (Nat.le_of_ble_eq_true rfl) ⟨Nat.le_of_ble_eq_true rfl, Nat.le_of_ble_eq_true rfl⟩ ?_
  refine lv_if_eq (tgt := 14) hx hb dX3_lay_4 (by decide) (fun h4 => ?_) (fun h4 => ?_)
  · skip
    have h4 := bI_0 h4
    refine lv_bipush (v := (-2)) hx hb dX3_lay_14 (by decide) ?_
    refine ret_i (wf := cw G g) go hw dX3_lay_16 ?_
    exact ⟨by simp [laC, *], by simp [laC, laS, *]⟩
  · skip
    have h4 := bI_1 h4
    refine lv_iload_n hx hb dX3_lay_7 rfl (lv_at hl 2 rfl) ?_
    refine cal_S (kX3_isItem l G b) go hw.2.2.1 hw.2.2.2.1 dX3_lay_8 (And.intro q311 (And.intro q1 q313)) q312 kyX3_isItem ⟨rfl, rfl⟩ ⟨Nat.le_of_ble_eq_true rfl, Nat.le_of_ble_eq_true rfl⟩ hl.1 rfl (Nat.le_of_ble_eq_true rfl) ⟨Nat.le_of_ble_eq_true rfl, Nat.le_of_ble_eq_true rfl⟩ ?_
    refine lv_if_ne (tgt := 17) hx hb dX3_lay_11 (by decide) (fun h11 => ?_) (fun h11 => ?_)
    · skip
      have h11 := bI_1 h11
      obtain ⟨d, hd, rfl⟩ := inB_of (n := 6) h4 rfl (by decide)
      have cd : (nI d).toNatClampNeg = d := nI_clamp (by omega)
      obtain ⟨i, hi, rfl⟩ := inB_of (n := 8) h11 rfl (by decide)
      have ci : (nI i).toNatClampNeg = i := nI_clamp (by omega)
      refine lv_iload_n hx hb dX3_lay_17 rfl (lv_at hl 3 rfl) ?_
      refine cal_S (kX3_isValue l G v) go hw.2.2.1 hw.2.2.2.1 dX3_lay_18 (And.intro q314 (And.intro q1 q316)) q315 kyX3_isValue ⟨rfl, rfl⟩ ⟨Nat.le_of_ble_eq_true rfl, Nat.le_of_ble_eq_true rfl⟩ hl.1 rfl (Nat.le_of_ble_eq_true rfl) ⟨Nat.le_of_ble_eq_true rfl, Nat.le_of_ble_eq_true rfl⟩ ?_
      refine lv_if_ne (tgt := 27) hx hb dX3_lay_21 (by decide) (fun h21 => ?_) (fun h21 => ?_)
      · skip
        have h21 := bI_1 h21
        refine lv_aload_n hx hb dX3_lay_27 rfl (lv_at hl 0 rfl) ?_
        refine gX (k := 3) (v := .ref (g 0 4)) rfl (by decide) rfl go hw dX3_lay_28 q130 ?_
        refine lv_iload_n hx hb dX3_lay_31 rfl (lv_at hl 1 rfl) ?_
        refine aDl (d := d) (by exact hd) go hw dX3_lay_32 ?_
        refine lv_astore (lv' := [(4, .ref (g (2 + d) 0)), (0, .ref (g 0 0)), (1, .int (nI d)), (2, .int (nI i)), (3, .int v)]) hx hb dX3_lay_33 hl (by decide) rfl (fun ls hl => ?_)
        refine lv_aload hx hb dX3_lay_35 (lv_at hl 0 rfl) ?_
        refine gDi (d := d) (k := 1) (v := sI x (2 + d) 1) hd (by decide) rfl go hw dX3_lay_37 q63 ?_
        refine lv_iconst (v := 1) hx hb dX3_lay_40 (by decide) ?_
        refine lv_icmp_eq (tgt := 47) hx hb dX3_lay_41 (by decide) (fun h41 => ?_) (fun h41 => ?_)
        · skip
          refine lv_aload hx hb dX3_lay_47 (lv_at hl 0 rfl) ?_
          refine lv_dup hx hb dX3_lay_49 rfl ?_
          refine gDi (d := d) (k := 6) (v := sI x (2 + d) 6) hd (by decide) rfl go hw dX3_lay_50 q77 ?_
          refine lv_iload_n hx hb dX3_lay_53 rfl (lv_at hl 3 rfl) ?_
          refine cal_S (kX3_bit l G (nI i)) go hw.2.2.1 hw.2.2.2.1 dX3_lay_54 (And.intro q396 (And.intro q1 q369)) q368 kyX3_bit ⟨rfl, rfl⟩ ⟨Nat.le_of_ble_eq_true rfl, Nat.le_of_ble_eq_true rfl⟩ hl.1 rfl (Nat.le_of_ble_eq_true rfl) ⟨Nat.le_of_ble_eq_true rfl, Nat.le_of_ble_eq_true rfl⟩ ?_
          refine lv_ior hx hb dX3_lay_57 ?_
          refine pD (d := d) (k := 6) hd ⟨by decide, by decide⟩ go hw dX3_lay_58 q77 (fun H locs hw => ?_)
          refine lv_aload hx hb dX3_lay_61 (lv_at hl 0 rfl) ?_
          refine gD (d := d) (k := 11) (v := .ref (g (2 + d) 12)) hd rfl (by decide) rfl go hw dX3_lay_63 q89 ?_
          refine lv_iload_n hx hb dX3_lay_66 rfl (lv_at hl 3 rfl) ?_
          refine lv_iload_n hx hb dX3_lay_67 rfl (lv_at hl 4 rfl) ?_
          refine sD (d := d) (k := 11) (j := i) hd (by decide) (by exact hi) go hw dX3_lay_68 (fun H locs hw => ?_)
          rw [show sA (pI x (2 + d) 6 ((sI x (2 + d) 6) ||| (bt (nI i)))) (2 + d) 11 = sA x (2 + d) 11 from ((sA_pI _ _ _ _ _ _).trans rfl)] at hw
          refine lv_aload hx hb dX3_lay_69 (lv_at hl 0 rfl) ?_
          refine gDi (d := d) (k := 6) (v := (sI x (2 + d) 6) ||| (bt (nI i))) hd (by decide) ((sI_pA _ _ _ _ _ _).trans sI_eq) go hw dX3_lay_71 q77 ?_
          refine cal_S (kJ6_bitCount_0f7a4 l G ((sI x (2 + d) 6) ||| (bt (nI i)))) go hw.2.2.1 hw.2.2.2.1 dX3_lay_74 (And.intro q406 (And.intro q10 q408)) q407 kyJ6_bitCount_0f7a4 ⟨rfl, rfl⟩ ⟨Nat.le_of_ble_eq_true rfl, Nat.le_of_ble_eq_true rfl⟩ hl.1 rfl (Nat.le_of_ble_eq_true rfl) ⟨Nat.le_of_ble_eq_true rfl, Nat.le_of_ble_eq_true rfl⟩ ?_
          refine ret_i (wf := cw G g) go hw dX3_lay_77 ?_
          exact ⟨by simp [laC, *], by simp [laC, laS, *]⟩
        · skip
          refine lv_bipush (v := (-4)) hx hb dX3_lay_44 (by decide) ?_
          refine ret_i (wf := cw G g) go hw dX3_lay_46 ?_
          exact ⟨by simp [laC, *], by simp [laC, laS, *]⟩
      · skip
        have h21 := bI_0 h21
        refine lv_bipush (v := (-3)) hx hb dX3_lay_24 (by decide) ?_
        refine ret_i (wf := cw G g) go hw dX3_lay_26 ?_
        exact ⟨by simp [laC, *], by simp [laC, laS, *]⟩
    · skip
      have h11 := bI_0 h11
      refine lv_bipush (v := (-2)) hx hb dX3_lay_14 (by decide) ?_
      refine ret_i (wf := cw G g) go hw dX3_lay_16 ?_
      exact ⟨by simp [laC, *], by simp [laC, laS, *]⟩

set_option maxHeartbeats 4000000 in
set_option maxRecDepth 100000 in
theorem kX3_peek (l : Launch) (G : Cx) (g : Nat → Nat → Nat) (x : Sg) (hN : Nm x) (a w : Int32) : Ci l G yX3_peek cX3_peek 3 .int (Rm 4 94) (cw G g) [.ref (g 0 0), .int a, .int w] x (fun r u => r = peC x a w ∧ u = x) := by
  refine Ci.mk (by decide) (Nat.le_of_ble_eq_true rfl) ?_
  intro p e s m below meth c A ls go hw hl
  generalize s.heap = H at hw ⊢
  generalize ([] : List Loc) = locs at hw ⊢
  have hx := go.1
  have hb := go.2.1
  have hl : lv_has ls 3 [(0, .ref (g 0 0)), (1, .int a), (2, .int w)] := hl
  refine lv_iload_n hx hb dX3_peek_0 rfl (lv_at hl 1 rfl) ?_
  refine cal_S (kX3_isDeal l G a) go hw.2.2.1 hw.2.2.2.1 dX3_peek_1 (And.intro q382 (And.intro q1 q384)) q383 kyX3_isDeal ⟨rfl, rfl⟩ ⟨Nat.le_of_ble_eq_true rfl, Nat.le_of_ble_eq_true rfl⟩ hl.1 rfl (Nat.le_of_ble_eq_true rfl) ⟨Nat.le_of_ble_eq_true rfl, Nat.le_of_ble_eq_true rfl⟩ ?_
  refine lv_if_eq (tgt := 21) hx hb dX3_peek_4 (by decide) (fun h4 => ?_) (fun h4 => ?_)
  · skip
    have h4 := bI_0 h4
    refine lv_bipush (v := (-2)) hx hb dX3_peek_21 (by decide) ?_
    refine ret_i (wf := cw G g) go hw dX3_peek_23 ?_
    exact ⟨by simp [peC, *], rfl⟩
  · skip
    have h4 := bI_1 h4
    obtain ⟨d, hd, rfl⟩ := inB_of (n := 6) h4 rfl (by decide)
    have cd : (nI d).toNatClampNeg = d := nI_clamp (by omega)
    refine lv_aload_n hx hb dX3_peek_7 rfl (lv_at hl 0 rfl) ?_
    refine lv_aload_n hx hb dX3_peek_8 rfl (lv_at hl 0 rfl) ?_
    refine gX (k := 3) (v := .ref (g 0 4)) rfl (by decide) rfl go hw dX3_peek_9 q130 ?_
    refine lv_iload_n hx hb dX3_peek_12 rfl (lv_at hl 1 rfl) ?_
    refine aDl (d := d) (by exact hd) go hw dX3_peek_13 ?_
    refine lv_iload_n hx hb dX3_peek_14 rfl (lv_at hl 2 rfl) ?_
    refine cal_Vi' (kX3_foretell l G g x hN d hd w) go hw dX3_peek_15 (And.intro q437 (And.intro q1 q440)) q439 qs5 kyX3_foretell ⟨Nat.le_of_ble_eq_true rfl, Nat.le_of_ble_eq_true rfl⟩ rc_X hl.1 rfl (Nat.le_of_ble_eq_true rfl) ⟨rfl, rfl⟩ ⟨Nat.le_of_ble_eq_true rfl, Nat.le_of_ble_eq_true rfl⟩ (fun H locs hw => ?_)
    refine lv_goto (tgt := 23) hx hb dX3_peek_18 (by decide) ?_
    refine ret_i (wf := cw G g) go hw dX3_peek_23 ?_
    exact ⟨by simp [peC, *], rfl⟩

set_option maxHeartbeats 4000000 in
set_option maxRecDepth 100000 in
theorem kX3_abort (l : Launch) (G : Cx) (g : Nat → Nat → Nat) (x : Sg) (a : Int32) : Ci l G yX3_abort cX3_abort 3 .int (Rm 2 43) (cw G g) [.ref (g 0 0), .int a] x (fun r u => r = (abC x a).1 ∧ u = (abC x a).2) := by
  refine Ci.mk (by decide) (Nat.le_of_ble_eq_true rfl) ?_
  intro p e s m below meth c A ls go hw hl
  generalize s.heap = H at hw ⊢
  generalize ([] : List Loc) = locs at hw ⊢
  have hx := go.1
  have hb := go.2.1
  have hl : lv_has ls 3 [(0, .ref (g 0 0)), (1, .int a)] := hl
  refine lv_iload_n hx hb dX3_abort_0 rfl (lv_at hl 1 rfl) ?_
  refine cal_S (kX3_isDeal l G a) go hw.2.2.1 hw.2.2.2.1 dX3_abort_1 (And.intro q382 (And.intro q1 q384)) q383 kyX3_isDeal ⟨rfl, rfl⟩ ⟨Nat.le_of_ble_eq_true rfl, Nat.le_of_ble_eq_true rfl⟩ hl.1 rfl (Nat.le_of_ble_eq_true rfl) ⟨Nat.le_of_ble_eq_true rfl, Nat.le_of_ble_eq_true rfl⟩ ?_
  refine lv_if_ne (tgt := 10) hx hb dX3_abort_4 (by decide) (fun h4 => ?_) (fun h4 => ?_)
  · skip
    have h4 := bI_1 h4
    obtain ⟨d, hd, rfl⟩ := inB_of (n := 6) h4 rfl (by decide)
    have cd : (nI d).toNatClampNeg = d := nI_clamp (by omega)
    refine lv_aload_n hx hb dX3_abort_10 rfl (lv_at hl 0 rfl) ?_
    refine gX (k := 3) (v := .ref (g 0 4)) rfl (by decide) rfl go hw dX3_abort_11 q130 ?_
    refine lv_iload_n hx hb dX3_abort_14 rfl (lv_at hl 1 rfl) ?_
    refine aDl (d := d) (by exact hd) go hw dX3_abort_15 ?_
    refine lv_astore_n (lv' := [(2, .ref (g (2 + d) 0)), (0, .ref (g 0 0)), (1, .int (nI d))]) hx hb dX3_abort_16 rfl hl (by decide) rfl (fun ls hl => ?_)
    refine lv_aload_n hx hb dX3_abort_17 rfl (lv_at hl 0 rfl) ?_
    refine gDi (d := d) (k := 1) (v := sI x (2 + d) 1) hd (by decide) rfl go hw dX3_abort_18 q63 ?_
    refine lv_iconst (v := 1) hx hb dX3_abort_21 (by decide) ?_
    refine lv_icmp_eq (tgt := 36) hx hb dX3_abort_22 (by decide) (fun h22 => ?_) (fun h22 => ?_)
    · skip
      refine lv_aload_n hx hb dX3_abort_36 rfl (lv_at hl 1 rfl) ?_
      refine lv_aload_n hx hb dX3_abort_37 rfl (lv_at hl 0 rfl) ?_
      refine lv_iconst (v := (-1)) hx hb dX3_abort_38 (by decide) ?_
      refine cal_Vi' (kX3_lose l G g x d hd (-1)) go hw dX3_abort_39 (And.intro q468 (And.intro q1 q471)) q470 qs12 kyX3_lose ⟨Nat.le_of_ble_eq_true rfl, Nat.le_of_ble_eq_true rfl⟩ rc_X hl.1 rfl (Nat.le_of_ble_eq_true rfl) ⟨rfl, rfl⟩ ⟨Nat.le_of_ble_eq_true rfl, Nat.le_of_ble_eq_true rfl⟩ (fun H locs hw => ?_)
      refine lv_pop hx hb dX3_abort_42 rfl ?_
      refine lv_aload_n hx hb dX3_abort_43 rfl (lv_at hl 1 rfl) ?_
      refine lv_iconst (v := 1) hx hb dX3_abort_44 (by decide) ?_
      refine cal_Vi' (kX3_howMany l G g (loS x d (-1)) 1) go hw dX3_abort_45 (And.intro q317 (And.intro q1 q320)) q319 qs2 kyX3_howMany ⟨Nat.le_of_ble_eq_true rfl, Nat.le_of_ble_eq_true rfl⟩ rc_X hl.1 rfl (Nat.le_of_ble_eq_true rfl) ⟨rfl, rfl⟩ ⟨Nat.le_of_ble_eq_true rfl, Nat.le_of_ble_eq_true rfl⟩ (fun H locs hw => ?_)
      refine ret_i (wf := cw G g) go hw dX3_abort_48 ?_
      exact ⟨by simp [abC, *], by simp [abC, *]⟩
    · skip
      refine lv_aload_n hx hb dX3_abort_25 rfl (lv_at hl 0 rfl) ?_
      refine gDi (d := d) (k := 1) (v := sI x (2 + d) 1) hd (by decide) rfl go hw dX3_abort_26 q63 ?_
      refine lv_iconst (v := 2) hx hb dX3_abort_29 (by decide) ?_
      refine lv_icmp_eq (tgt := 36) hx hb dX3_abort_30 (by decide) (fun h30 => ?_) (fun h30 => ?_)
      · skip
        refine lv_aload_n hx hb dX3_abort_36 rfl (lv_at hl 1 rfl) ?_
        refine lv_aload_n hx hb dX3_abort_37 rfl (lv_at hl 0 rfl) ?_
        refine lv_iconst (v := (-1)) hx hb dX3_abort_38 (by decide) ?_
        refine cal_Vi' (kX3_lose l G g x d hd (-1)) go hw dX3_abort_39 (And.intro q468 (And.intro q1 q471)) q470 qs12 kyX3_lose ⟨Nat.le_of_ble_eq_true rfl, Nat.le_of_ble_eq_true rfl⟩ rc_X hl.1 rfl (Nat.le_of_ble_eq_true rfl) ⟨rfl, rfl⟩ ⟨Nat.le_of_ble_eq_true rfl, Nat.le_of_ble_eq_true rfl⟩ (fun H locs hw => ?_)
        refine lv_pop hx hb dX3_abort_42 rfl ?_
        refine lv_aload_n hx hb dX3_abort_43 rfl (lv_at hl 1 rfl) ?_
        refine lv_iconst (v := 1) hx hb dX3_abort_44 (by decide) ?_
        refine cal_Vi' (kX3_howMany l G g (loS x d (-1)) 1) go hw dX3_abort_45 (And.intro q317 (And.intro q1 q320)) q319 qs2 kyX3_howMany ⟨Nat.le_of_ble_eq_true rfl, Nat.le_of_ble_eq_true rfl⟩ rc_X hl.1 rfl (Nat.le_of_ble_eq_true rfl) ⟨rfl, rfl⟩ ⟨Nat.le_of_ble_eq_true rfl, Nat.le_of_ble_eq_true rfl⟩ (fun H locs hw => ?_)
        refine ret_i (wf := cw G g) go hw dX3_abort_48 ?_
        exact ⟨by simp [abC, *], by simp [abC, *]⟩
      · skip
        refine lv_bipush (v := (-4)) hx hb dX3_abort_33 (by decide) ?_
        refine ret_i (wf := cw G g) go hw dX3_abort_35 ?_
        exact ⟨by simp [abC, *], by simp [abC, *]⟩
  · skip
    have h4 := bI_0 h4
    refine lv_bipush (v := (-2)) hx hb dX3_abort_7 (by decide) ?_
    refine ret_i (wf := cw G g) go hw dX3_abort_9 ?_
    exact ⟨by simp [abC, *], by simp [abC, *]⟩

set_option maxHeartbeats 4000000 in
set_option maxRecDepth 100000 in
theorem kX3_sweep (l : Launch) (G : Cx) (g : Nat → Nat → Nat) (x : Sg) : Ci l G yX3_sweep cX3_sweep 6 .int (Rm 3 64) (cw G g) [.ref (g 0 0)] x (fun r u => r = nI (swF x 6).2 ∧ u = (swF x 6).1) := by
  refine Ci.mk (by decide) (Nat.le_of_ble_eq_true rfl) ?_
  intro p e s m below meth c A ls go hw hl
  generalize s.heap = H at hw ⊢
  generalize ([] : List Loc) = locs at hw ⊢
  have hx := go.1
  have hb := go.2.1
  have hl : lv_has ls 6 [(0, .ref (g 0 0))] := hl
  refine lv_iconst (v := 0) hx hb dX3_sweep_0 (by decide) ?_
  refine lv_istore_n (lv' := [(1, .int 0), (0, .ref (g 0 0))]) hx hb dX3_sweep_1 rfl hl (by decide) rfl (fun ls hl => ?_)
  refine lv_aload_n hx hb dX3_sweep_2 rfl (lv_at hl 1 rfl) ?_
  refine gX (k := 3) (v := .ref (g 0 4)) rfl (by decide) rfl go hw dX3_sweep_3 q130 ?_
  refine lv_astore_n (lv' := [(2, .ref (g 0 4)), (1, .int 0), (0, .ref (g 0 0))]) hx hb dX3_sweep_6 rfl hl (by decide) rfl (fun ls hl => ?_)
  refine lv_aload_n hx hb dX3_sweep_7 rfl (lv_at hl 0 rfl) ?_
  refine lDl go hw dX3_sweep_8 ?_
  refine lv_istore_n (lv' := [(3, .int (nI 6)), (2, .ref (g 0 4)), (1, .int 0), (0, .ref (g 0 0))]) hx hb dX3_sweep_9 rfl hl (by decide) rfl (fun ls hl => ?_)
  refine lv_iconst (v := 0) hx hb dX3_sweep_10 (by decide) ?_
  refine lv_istore (lv' := [(4, .int 0), (3, .int (nI 6)), (2, .ref (g 0 4)), (1, .int 0), (0, .ref (g 0 0))]) hx hb dX3_sweep_11 hl (by decide) rfl (fun ls hl => ?_)
  rw [show x = (swF x 0).1 from by rfl] at hw
  have hl0 : lv_has ls 6 [(0, .ref (g 0 0)), (1, .int (nI (swF x 0).2)), (2, .ref (g 0 4)), (3, .int (nI 6)), (4, .int (nI 0))] := lv_to (lv_sub (l' := [(0, .ref (g 0 0)), (1, .int 0), (2, .ref (g 0 4)), (3, .int (nI 6)), (4, .int 0)]) hl [4, 3, 2, 1, 0] rfl) (lr (lc (show (0 : Int32) = nI (swF x 0).2 from rfl) (lr (lr (lc (show (0 : Int32) = nI 0 from rfl) rfl)))))
  refine loop_up (N := 6) (P := fun i H locs ls => Wd G A s H locs (cw G g ((swF x i).1)) ∧ lv_has ls 6 [(0, .ref (g 0 0)), (1, .int (nI (swF x i).2)), (2, .ref (g 0 4)), (3, .int (nI 6)), (4, .int (nI i))]) (X := fun H locs ls => W p l e (Rm 3 64) s m ([.ref (g 0 0)] : List Value).toArray below meth c H locs 0 0 (MQ below (va_Qi (fun r u => r = nI (swF x 6).2 ∧ u = (swF x 6).1) (PostW G (cw G g) A) A) ([.ref (g 0 0)] : List Value).toArray s (Rm 3 64).cells (Rm 3 64).slots A) (F0 m 13 ls [])) ?_ 0 (by omega) H locs ls ⟨hw, hl0⟩
  clear hl0 hl hw
  intro i hi ih H locs ls hP
  obtain ⟨hw, hl⟩ := hP
  refine lv_iload hx hb dX3_sweep_13 (lv_at hl 4 rfl) ?_
  refine lv_iload_n hx hb dX3_sweep_15 rfl (lv_at hl 3 rfl) ?_
  refine lv_icmp_ge (tgt := 61) hx hb dX3_sweep_16 (by decide) (fun h16 => ?_) (fun h16 => ?_)
  · skip
    have hE : i = 6 := lp_end h16 rfl rfl hi (by decide)
    subst hE
    refine lv_iload_n hx hb dX3_sweep_61 rfl (lv_at hl 1 rfl) ?_
    refine ret_i (wf := cw G g) go hw dX3_sweep_62 ?_
    exact ⟨rfl, rfl⟩
  · skip
    have hlt : i < 6 := lp_in h16 rfl rfl hi (by decide)
    refine lv_aload_n hx hb dX3_sweep_19 rfl (lv_at hl 2 rfl) ?_
    refine lv_iload hx hb dX3_sweep_20 (lv_at hl 4 rfl) ?_
    refine aDl (d := i) (by exact hlt) go hw dX3_sweep_22 ?_
    refine lv_astore (lv' := [(5, .ref (g (2 + i) 0)), (0, .ref (g 0 0)), (1, .int (nI (swF x i).2)), (2, .ref (g 0 4)), (3, .int (nI 6)), (4, .int (nI i))]) hx hb dX3_sweep_23 hl (by decide) rfl (fun ls hl => ?_)
    refine lv_aload hx hb dX3_sweep_25 (lv_at hl 0 rfl) ?_
    refine gDi (d := i) (k := 1) (v := sI ((swF x i).1) (2 + i) 1) hlt (by decide) rfl go hw dX3_sweep_27 q63 ?_
    refine lv_iconst (v := 1) hx hb dX3_sweep_30 (by decide) ?_
    refine lv_icmp_ne (tgt := 55) hx hb dX3_sweep_31 (by decide) (fun h31 => ?_) (fun h31 => ?_)
    · skip
      refine lv_iinc (v := nI (i + 1)) (lv' := [(4, .int (nI (i + 1))), (5, .ref (g (2 + i) 0)), (0, .ref (g 0 0)), (1, .int (nI (swF x i).2)), (2, .ref (g 0 4)), (3, .int (nI 6))]) hx hb dX3_sweep_55 hl (k := 5) rfl (nI_1 _) (by decide) rfl (fun ls hl => ?_)
      refine lv_goto (tgt := 13) hx hb dX3_sweep_58 (by decide) ?_
      have hl9 : lv_has ls 6 [(0, .ref (g 0 0)), (1, .int (nI (swF x (i + 1)).2)), (2, .ref (g 0 4)), (3, .int (nI 6)), (4, .int (nI (i + 1)))] := lv_to (lv_sub (l' := [(0, .ref (g 0 0)), (1, .int (nI (swF x i).2)), (2, .ref (g 0 4)), (3, .int (nI 6)), (4, .int (nI (i + 1)))]) hl [2, 3, 4, 5, 0] rfl) (lr (lc (show (nI (swF x i).2 : Int32) = nI (swF x (i + 1)).2 from by first | (simp [swF, *]; done) | (rw [nI_1]; simp [swF, *]; done)) (lr (lr (lr rfl)))))
      rw [show (swF x i).1 = (swF x (i + 1)).1 from by simp [swF, *]] at hw
      exact ih _ _ _ (by omega) ⟨hw, hl9⟩
    · skip
      refine lv_aload_n hx hb dX3_sweep_34 rfl (lv_at hl 1 rfl) ?_
      refine lv_aload hx hb dX3_sweep_35 (lv_at hl 0 rfl) ?_
      refine cal_Vi' (kX3_staleOf l G g ((swF x i).1) i hlt) go hw dX3_sweep_37 (And.intro q441 (And.intro q1 q444)) q443 qs6 kyX3_staleOf ⟨Nat.le_of_ble_eq_true rfl, Nat.le_of_ble_eq_true rfl⟩ rc_X hl.1 rfl (Nat.le_of_ble_eq_true rfl) ⟨rfl, rfl⟩ ⟨Nat.le_of_ble_eq_true rfl, Nat.le_of_ble_eq_true rfl⟩ (fun H locs hw => ?_)
      refine lv_if_eq (tgt := 55) hx hb dX3_sweep_40 (by decide) (fun h40 => ?_) (fun h40 => ?_)
      · skip
        refine lv_iinc (v := nI (i + 1)) (lv' := [(4, .int (nI (i + 1))), (5, .ref (g (2 + i) 0)), (0, .ref (g 0 0)), (1, .int (nI (swF x i).2)), (2, .ref (g 0 4)), (3, .int (nI 6))]) hx hb dX3_sweep_55 hl (k := 5) rfl (nI_1 _) (by decide) rfl (fun ls hl => ?_)
        refine lv_goto (tgt := 13) hx hb dX3_sweep_58 (by decide) ?_
        have hl9 : lv_has ls 6 [(0, .ref (g 0 0)), (1, .int (nI (swF x (i + 1)).2)), (2, .ref (g 0 4)), (3, .int (nI 6)), (4, .int (nI (i + 1)))] := lv_to (lv_sub (l' := [(0, .ref (g 0 0)), (1, .int (nI (swF x i).2)), (2, .ref (g 0 4)), (3, .int (nI 6)), (4, .int (nI (i + 1)))]) hl [2, 3, 4, 5, 0] rfl) (lr (lc (show (nI (swF x i).2 : Int32) = nI (swF x (i + 1)).2 from by first | (simp [swF, *]; done) | (rw [nI_1]; simp [swF, *]; done)) (lr (lr (lr rfl)))))
        rw [show (swF x i).1 = (swF x (i + 1)).1 from by simp [swF, *]] at hw
        exact ih _ _ _ (by omega) ⟨hw, hl9⟩
      · skip
        refine lv_aload_n hx hb dX3_sweep_43 rfl (lv_at hl 1 rfl) ?_
        refine lv_aload hx hb dX3_sweep_44 (lv_at hl 0 rfl) ?_
        refine lv_bipush (v := (-11)) hx hb dX3_sweep_46 (by decide) ?_
        refine cal_Vi' (kX3_lose l G g ((swF x i).1) i hlt (-11)) go hw dX3_sweep_48 (And.intro q468 (And.intro q1 q471)) q470 qs12 kyX3_lose ⟨Nat.le_of_ble_eq_true rfl, Nat.le_of_ble_eq_true rfl⟩ rc_X hl.1 rfl (Nat.le_of_ble_eq_true rfl) ⟨rfl, rfl⟩ ⟨Nat.le_of_ble_eq_true rfl, Nat.le_of_ble_eq_true rfl⟩ (fun H locs hw => ?_)
        refine lv_pop hx hb dX3_sweep_51 rfl ?_
        refine lv_iinc (v := nI (swF x i).2 + 1) (lv' := [(1, .int (nI (swF x i).2 + 1)), (5, .ref (g (2 + i) 0)), (0, .ref (g 0 0)), (2, .ref (g 0 4)), (3, .int (nI 6)), (4, .int (nI i))]) hx hb dX3_sweep_52 hl (k := 2) rfl rfl (by decide) rfl (fun ls hl => ?_)
        refine lv_iinc (v := nI (i + 1)) (lv' := [(4, .int (nI (i + 1))), (1, .int (nI (swF x i).2 + 1)), (5, .ref (g (2 + i) 0)), (0, .ref (g 0 0)), (2, .ref (g 0 4)), (3, .int (nI 6))]) hx hb dX3_sweep_55 hl (k := 5) rfl (nI_1 _) (by decide) rfl (fun ls hl => ?_)
        refine lv_goto (tgt := 13) hx hb dX3_sweep_58 (by decide) ?_
        have hl9 : lv_has ls 6 [(0, .ref (g 0 0)), (1, .int (nI (swF x (i + 1)).2)), (2, .ref (g 0 4)), (3, .int (nI 6)), (4, .int (nI (i + 1)))] := lv_to (lv_sub (l' := [(0, .ref (g 0 0)), (1, .int (nI (swF x i).2 + 1)), (2, .ref (g 0 4)), (3, .int (nI 6)), (4, .int (nI (i + 1)))]) hl [3, 1, 4, 5, 0] rfl) (lr (lc (show (nI (swF x i).2 + 1 : Int32) = nI (swF x (i + 1)).2 from by first | (simp [swF, *]; done) | (rw [nI_1]; simp [swF, *]; done)) (lr (lr (lr rfl)))))
        rw [show loS ((swF x i).1) i (-11) = (swF x (i + 1)).1 from by simp [swF, *]] at hw
        exact ih _ _ _ (by omega) ⟨hw, hl9⟩

set_option maxHeartbeats 4000000 in
set_option maxRecDepth 100000 in
theorem kX3_send (l : Launch) (G : Cx) (g : Nat → Nat → Nat) (x : Sg) (a : Int32) : Ci l G yX3_send cX3_send 3 .int (Rm 1 22) (cw G g) [.ref (g 0 0), .int a] x (fun r u => r = (snC x a).1 ∧ u = (snC x a).2) := by
  refine Ci.mk (by decide) (Nat.le_of_ble_eq_true rfl) ?_
  intro p e s m below meth c A ls go hw hl
  generalize s.heap = H at hw ⊢
  generalize ([] : List Loc) = locs at hw ⊢
  have hx := go.1
  have hb := go.2.1
  have hl : lv_has ls 3 [(0, .ref (g 0 0)), (1, .int a)] := hl
  refine lv_iload_n hx hb dX3_send_0 rfl (lv_at hl 1 rfl) ?_
  refine cal_S (kX3_isDeal l G a) go hw.2.2.1 hw.2.2.2.1 dX3_send_1 (And.intro q382 (And.intro q1 q384)) q383 kyX3_isDeal ⟨rfl, rfl⟩ ⟨Nat.le_of_ble_eq_true rfl, Nat.le_of_ble_eq_true rfl⟩ hl.1 rfl (Nat.le_of_ble_eq_true rfl) ⟨Nat.le_of_ble_eq_true rfl, Nat.le_of_ble_eq_true rfl⟩ ?_
  refine lv_if_ne (tgt := 10) hx hb dX3_send_4 (by decide) (fun h4 => ?_) (fun h4 => ?_)
  · skip
    have h4 := bI_1 h4
    obtain ⟨d, hd, rfl⟩ := inB_of (n := 6) h4 rfl (by decide)
    have cd : (nI d).toNatClampNeg = d := nI_clamp (by omega)
    refine lv_aload_n hx hb dX3_send_10 rfl (lv_at hl 0 rfl) ?_
    refine gX (k := 3) (v := .ref (g 0 4)) rfl (by decide) rfl go hw dX3_send_11 q130 ?_
    refine lv_iload_n hx hb dX3_send_14 rfl (lv_at hl 1 rfl) ?_
    refine aDl (d := d) (by exact hd) go hw dX3_send_15 ?_
    refine lv_astore_n (lv' := [(2, .ref (g (2 + d) 0)), (0, .ref (g 0 0)), (1, .int (nI d))]) hx hb dX3_send_16 rfl hl (by decide) rfl (fun ls hl => ?_)
    refine lv_aload_n hx hb dX3_send_17 rfl (lv_at hl 0 rfl) ?_
    refine gDi (d := d) (k := 1) (v := sI x (2 + d) 1) hd (by decide) rfl go hw dX3_send_18 q63 ?_
    refine lv_iconst (v := 1) hx hb dX3_send_21 (by decide) ?_
    refine lv_icmp_eq (tgt := 28) hx hb dX3_send_22 (by decide) (fun h22 => ?_) (fun h22 => ?_)
    · skip
      refine lv_aload_n hx hb dX3_send_28 rfl (lv_at hl 1 rfl) ?_
      refine lv_dup hx hb dX3_send_29 rfl ?_
      refine gXi (k := 8) (v := sI x 0 8) ⟨by decide, by decide⟩ rfl go hw dX3_send_30 q135 ?_
      refine lv_iconst (v := 1) hx hb dX3_send_33 (by decide) ?_
      refine lv_iadd hx hb dX3_send_34 ?_
      refine pX (k := 8) ⟨by decide, by decide⟩ go hw dX3_send_35 q135 (fun H locs hw => ?_)
      refine lv_aload_n hx hb dX3_send_38 rfl (lv_at hl 0 rfl) ?_
      refine lv_aload_n hx hb dX3_send_39 rfl (lv_at hl 1 rfl) ?_
      refine gXi (k := 8) (v := (sI x 0 8) + 1) ⟨by decide, by decide⟩ sI_eq go hw dX3_send_40 q135 ?_
      refine cal_Vv' (kX0_becomeSent l G g (pI x 0 8 ((sI x 0 8) + 1)) d hd ((sI x 0 8) + 1)) go hw dX3_send_43 (And.intro q416 (And.intro q3 q419)) q417 q418 kyX0_becomeSent ⟨Nat.le_of_ble_eq_true rfl, Nat.le_of_ble_eq_true rfl⟩ (rc_D hd) hl.1 rfl (Nat.le_of_ble_eq_true rfl) ⟨rfl, rfl⟩ ⟨Nat.le_of_ble_eq_true rfl, Nat.le_of_ble_eq_true rfl⟩ (fun H locs hw => ?_)
      refine lv_aload_n hx hb dX3_send_46 rfl (lv_at hl 0 rfl) ?_
      refine gDi (d := d) (k := 7) (v := sI (seD (pI x 0 8 ((sI x 0 8) + 1)) d ((sI x 0 8) + 1)) (2 + d) 7) hd (by decide) rfl go hw dX3_send_47 q79 ?_
      refine ret_i (wf := cw G g) go hw dX3_send_50 ?_
      exact ⟨by simp [snC, seD, foS, sI_pI, sI_pA, *], by simp [snC, *]⟩
    · skip
      refine lv_bipush (v := (-4)) hx hb dX3_send_25 (by decide) ?_
      refine ret_i (wf := cw G g) go hw dX3_send_27 ?_
      exact ⟨by simp [snC, seD, foS, sI_pI, sI_pA, *], by simp [snC, *]⟩
  · skip
    have h4 := bI_0 h4
    refine lv_bipush (v := (-2)) hx hb dX3_send_7 (by decide) ?_
    refine ret_i (wf := cw G g) go hw dX3_send_9 ?_
    exact ⟨by simp [snC, seD, foS, sI_pI, sI_pA, *], by simp [snC, *]⟩

set_option maxHeartbeats 4000000 in
set_option maxRecDepth 100000 in
theorem kX3_vote (l : Launch) (G : Cx) (g : Nat → Nat → Nat) (x : Sg) (hN : Nm x) (v : Int32) : Ci l G yX3_vote cX3_vote 4 .int (Rm 4 87) (cw G g) [.ref (g 0 0), .int v] x (fun r u => r = (voC x v).1 ∧ u = (voC x v).2) := by
  refine Ci.mk (by decide) (Nat.le_of_ble_eq_true rfl) ?_
  intro p e s m below meth c A ls go hw hl
  generalize s.heap = H at hw ⊢
  generalize ([] : List Loc) = locs at hw ⊢
  have hx := go.1
  have hb := go.2.1
  have hl : lv_has ls 4 [(0, .ref (g 0 0)), (1, .int v)] := hl
  refine lv_iload_n hx hb dX3_vote_0 rfl (lv_at hl 1 rfl) ?_
  refine cal_S (kX3_isValidator l G v) go hw.2.2.1 hw.2.2.2.1 dX3_vote_1 (And.intro q501 (And.intro q1 q503)) q502 kyX3_isValidator ⟨rfl, rfl⟩ ⟨Nat.le_of_ble_eq_true rfl, Nat.le_of_ble_eq_true rfl⟩ hl.1 rfl (Nat.le_of_ble_eq_true rfl) ⟨Nat.le_of_ble_eq_true rfl, Nat.le_of_ble_eq_true rfl⟩ ?_
  refine lv_if_ne (tgt := 10) hx hb dX3_vote_4 (by decide) (fun h4 => ?_) (fun h4 => ?_)
  · skip
    have h4 := bI_1 h4
    obtain ⟨k, hk, rfl⟩ := inB_of (n := 2) h4 rfl (by decide)
    have ck : (nI k).toNatClampNeg = k := nI_clamp (by omega)
    refine lv_aload_n hx hb dX3_vote_10 rfl (lv_at hl 0 rfl) ?_
    refine lv_iload_n hx hb dX3_vote_11 rfl (lv_at hl 1 rfl) ?_
    refine cal_Vi' (kX3_firstWithoutVote l G g x hN k (by omega)) go hw dX3_vote_12 (And.intro q504 (And.intro q1 q507)) q506 qs15 kyX3_firstWithoutVote ⟨Nat.le_of_ble_eq_true rfl, Nat.le_of_ble_eq_true rfl⟩ rc_X hl.1 rfl (Nat.le_of_ble_eq_true rfl) ⟨rfl, rfl⟩ ⟨Nat.le_of_ble_eq_true rfl, Nat.le_of_ble_eq_true rfl⟩ (fun H locs hw => ?_)
    refine lv_istore_n (lv' := [(2, .int (fwI x k)), (0, .ref (g 0 0)), (1, .int (nI k))]) hx hb dX3_vote_15 rfl hl (by decide) rfl (fun ls hl => ?_)
    refine lv_iload_n hx hb dX3_vote_16 rfl (lv_at hl 0 rfl) ?_
    refine cal_S (kX3_isDeal l G (fwI x k)) go hw.2.2.1 hw.2.2.2.1 dX3_vote_17 (And.intro q382 (And.intro q1 q384)) q383 kyX3_isDeal ⟨rfl, rfl⟩ ⟨Nat.le_of_ble_eq_true rfl, Nat.le_of_ble_eq_true rfl⟩ hl.1 rfl (Nat.le_of_ble_eq_true rfl) ⟨Nat.le_of_ble_eq_true rfl, Nat.le_of_ble_eq_true rfl⟩ ?_
    refine lv_if_ne (tgt := 26) hx hb dX3_vote_20 (by decide) (fun h20 => ?_) (fun h20 => ?_)
    · skip
      have h20 := bI_1 h20
      refine lv_aload_n hx hb dX3_vote_26 rfl (lv_at hl 1 rfl) ?_
      refine gX (k := 3) (v := .ref (g 0 4)) rfl (by decide) rfl go hw dX3_vote_27 q130 ?_
      refine lv_iload_n hx hb dX3_vote_30 rfl (lv_at hl 0 rfl) ?_
      refine toI (show (fwI x k : Int32) = nI ((fwI x k).toNatClampNeg) from by exact (inB_cl (n := 6) h20 rfl (by decide)).1) ?_
      refine aDl (d := (fwI x k).toNatClampNeg) (by exact (inB_cl (n := 6) h20 rfl (by decide)).2) go hw dX3_vote_31 ?_
      refine lv_astore_n (lv' := [(3, .ref (g (2 + ((fwI x k).toNatClampNeg)) 0)), (2, .int (fwI x k)), (0, .ref (g 0 0)), (1, .int (nI k))]) hx hb dX3_vote_32 rfl hl (by decide) rfl (fun ls hl => ?_)
      refine lv_aload_n hx hb dX3_vote_33 rfl (lv_at hl 0 rfl) ?_
      refine gD (d := (fwI x k).toNatClampNeg) (k := 12) (v := .ref (g (2 + ((fwI x k).toNatClampNeg)) 13)) (inB_cl (n := 6) h20 rfl (by decide)).2 rfl (by decide) rfl go hw dX3_vote_34 q91 ?_
      refine lv_iload_n hx hb dX3_vote_37 rfl (lv_at hl 3 rfl) ?_
      refine lv_aload_n hx hb dX3_vote_38 rfl (lv_at hl 2 rfl) ?_
      refine lv_iload_n hx hb dX3_vote_39 rfl (lv_at hl 3 rfl) ?_
      refine lv_aload_n hx hb dX3_vote_40 rfl (lv_at hl 0 rfl) ?_
      refine cal_Vi' (kX3_opinion l G g x k (by omega) ((fwI x k).toNatClampNeg) (inB_cl (n := 6) h20 rfl (by decide)).2) go hw dX3_vote_41 (And.intro q516 (And.intro q1 q519)) q518 qs18 kyX3_opinion ⟨Nat.le_of_ble_eq_true rfl, Nat.le_of_ble_eq_true rfl⟩ rc_X hl.1 rfl (Nat.le_of_ble_eq_true rfl) ⟨rfl, rfl⟩ ⟨Nat.le_of_ble_eq_true rfl, Nat.le_of_ble_eq_true rfl⟩ (fun H locs hw => ?_)
      refine sD (d := (fwI x k).toNatClampNeg) (k := 12) (j := k) (inB_cl (n := 6) h20 rfl (by decide)).2 (by decide) (by exact hk) go hw dX3_vote_44 (fun H locs hw => ?_)
      refine lv_aload_n hx hb dX3_vote_45 rfl (lv_at hl 0 rfl) ?_
      refine gD (d := (fwI x k).toNatClampNeg) (k := 12) (v := .ref (g (2 + ((fwI x k).toNatClampNeg)) 13)) (inB_cl (n := 6) h20 rfl (by decide)).2 rfl (by decide) rfl go hw dX3_vote_46 q91 ?_
      refine lv_iload_n hx hb dX3_vote_49 rfl (lv_at hl 3 rfl) ?_
      refine aD (d := (fwI x k).toNatClampNeg) (k := 12) (j := k) (inB_cl (n := 6) h20 rfl (by decide)).2 (by decide) (by exact hk) go hw dX3_vote_50 ?_
      refine toI (show sA (pA x (2 + ((fwI x k).toNatClampNeg)) 12 (upd (sA x (2 + ((fwI x k).toNatClampNeg)) 12) k (bI (opI x k ((fwI x k).toNatClampNeg))))) (2 + ((fwI x k).toNatClampNeg)) 12 k = (bI (opI x k ((fwI x k).toNatClampNeg))) from (congrFun sA_eq k).trans pk_us) ?_
      refine ret_i (wf := cw G g) go hw dX3_vote_51 ?_
      exact ⟨by simp [voC, *], by simp [voC, *]⟩
    · skip
      have h20 := bI_0 h20
      refine lv_bipush (v := (-4)) hx hb dX3_vote_23 (by decide) ?_
      refine ret_i (wf := cw G g) go hw dX3_vote_25 ?_
      exact ⟨by simp [voC, *], by simp [voC, *]⟩
  · skip
    have h4 := bI_0 h4
    refine lv_bipush (v := (-2)) hx hb dX3_vote_7 (by decide) ?_
    refine ret_i (wf := cw G g) go hw dX3_vote_9 ?_
    exact ⟨by simp [voC, *], by simp [voC, *]⟩

set_option maxHeartbeats 4000000 in
set_option maxRecDepth 100000 in
theorem kX3_deal (l : Launch) (G : Cx) (g : Nat → Nat → Nat) (x : Sg) (hN : Nm x) (a w : Int32) : Ci l G yX3_deal cX3_deal 4 .int (Rm 3 64) (cw G g) [.ref (g 0 0), .int a, .int w] x (fun r u => r = deC x a w ∧ u = x) := by
  refine Ci.mk (by decide) (Nat.le_of_ble_eq_true rfl) ?_
  intro p e s m below meth c A ls go hw hl
  generalize s.heap = H at hw ⊢
  generalize ([] : List Loc) = locs at hw ⊢
  have hx := go.1
  have hb := go.2.1
  have hl : lv_has ls 4 [(0, .ref (g 0 0)), (1, .int a), (2, .int w)] := hl
  refine lv_iload_n hx hb dX3_deal_0 rfl (lv_at hl 1 rfl) ?_
  refine cal_S (kX3_isDeal l G a) go hw.2.2.1 hw.2.2.2.1 dX3_deal_1 (And.intro q382 (And.intro q1 q384)) q383 kyX3_isDeal ⟨rfl, rfl⟩ ⟨Nat.le_of_ble_eq_true rfl, Nat.le_of_ble_eq_true rfl⟩ hl.1 rfl (Nat.le_of_ble_eq_true rfl) ⟨Nat.le_of_ble_eq_true rfl, Nat.le_of_ble_eq_true rfl⟩ ?_
  refine lv_if_ne (tgt := 10) hx hb dX3_deal_4 (by decide) (fun h4 => ?_) (fun h4 => ?_)
  · skip
    have h4 := bI_1 h4
    obtain ⟨d, hd, rfl⟩ := inB_of (n := 6) h4 rfl (by decide)
    have cd : (nI d).toNatClampNeg = d := nI_clamp (by omega)
    refine lv_aload_n hx hb dX3_deal_10 rfl (lv_at hl 0 rfl) ?_
    refine gX (k := 3) (v := .ref (g 0 4)) rfl (by decide) rfl go hw dX3_deal_11 q130 ?_
    refine lv_iload_n hx hb dX3_deal_14 rfl (lv_at hl 1 rfl) ?_
    refine aDl (d := d) (by exact hd) go hw dX3_deal_15 ?_
    refine lv_astore_n (lv' := [(3, .ref (g (2 + d) 0)), (0, .ref (g 0 0)), (1, .int (nI d)), (2, .int w)]) hx hb dX3_deal_16 rfl hl (by decide) rfl (fun ls hl => ?_)
    refine lv_iload_n hx hb dX3_deal_17 rfl (lv_at hl 3 rfl) ?_
    by_cases w18_0 : w = 0
    · refine toI w18_0 ?_
      refine lv_tableIn (off := 62) (tgt := 80) hx hb dX3_deal_18 (by decide) (by decide) (by decide) (by decide) ?_
      refine lv_aload_n hx hb dX3_deal_80 rfl (lv_at hl 0 rfl) ?_
      refine gDi (d := d) (k := 1) (v := sI x (2 + d) 1) hd (by decide) rfl go hw dX3_deal_81 q63 ?_
      refine ret_i (wf := cw G g) go hw dX3_deal_84 ?_
      exact ⟨by simp [deC, dlC, bI, *], rfl⟩
    by_cases w18_1 : w = 1
    · refine toI w18_1 ?_
      refine lv_tableIn (off := 67) (tgt := 85) hx hb dX3_deal_18 (by decide) (by decide) (by decide) (by decide) ?_
      refine lv_aload_n hx hb dX3_deal_85 rfl (lv_at hl 0 rfl) ?_
      refine gDi (d := d) (k := 2) (v := sI x (2 + d) 2) hd (by decide) rfl go hw dX3_deal_86 q65 ?_
      refine ret_i (wf := cw G g) go hw dX3_deal_89 ?_
      exact ⟨by simp [deC, dlC, bI, *], rfl⟩
    by_cases w18_2 : w = 2
    · refine toI w18_2 ?_
      refine lv_tableIn (off := 72) (tgt := 90) hx hb dX3_deal_18 (by decide) (by decide) (by decide) (by decide) ?_
      refine lv_aload_n hx hb dX3_deal_90 rfl (lv_at hl 0 rfl) ?_
      refine gDi (d := d) (k := 3) (v := sI x (2 + d) 3) hd (by decide) rfl go hw dX3_deal_91 q68 ?_
      refine ret_i (wf := cw G g) go hw dX3_deal_94 ?_
      exact ⟨by simp [deC, dlC, bI, *], rfl⟩
    by_cases w18_3 : w = 3
    · refine toI w18_3 ?_
      refine lv_tableIn (off := 77) (tgt := 95) hx hb dX3_deal_18 (by decide) (by decide) (by decide) (by decide) ?_
      refine lv_aload_n hx hb dX3_deal_95 rfl (lv_at hl 0 rfl) ?_
      refine gDi (d := d) (k := 4) (v := sI x (2 + d) 4) hd (by decide) rfl go hw dX3_deal_96 q71 ?_
      refine ret_i (wf := cw G g) go hw dX3_deal_99 ?_
      exact ⟨by simp [deC, dlC, bI, *], rfl⟩
    by_cases w18_4 : w = 4
    · refine toI w18_4 ?_
      refine lv_tableIn (off := 82) (tgt := 100) hx hb dX3_deal_18 (by decide) (by decide) (by decide) (by decide) ?_
      refine lv_aload_n hx hb dX3_deal_100 rfl (lv_at hl 0 rfl) ?_
      refine gDi (d := d) (k := 5) (v := sI x (2 + d) 5) hd (by decide) rfl go hw dX3_deal_101 q74 ?_
      refine ret_i (wf := cw G g) go hw dX3_deal_104 ?_
      exact ⟨by simp [deC, dlC, bI, *], rfl⟩
    by_cases w18_5 : w = 5
    · refine toI w18_5 ?_
      refine lv_tableIn (off := 87) (tgt := 105) hx hb dX3_deal_18 (by decide) (by decide) (by decide) (by decide) ?_
      refine lv_aload_n hx hb dX3_deal_105 rfl (lv_at hl 0 rfl) ?_
      refine gDi (d := d) (k := 6) (v := sI x (2 + d) 6) hd (by decide) rfl go hw dX3_deal_106 q77 ?_
      refine ret_i (wf := cw G g) go hw dX3_deal_109 ?_
      exact ⟨by simp [deC, dlC, bI, *], rfl⟩
    by_cases w18_6 : w = 6
    · refine toI w18_6 ?_
      refine lv_tableIn (off := 92) (tgt := 110) hx hb dX3_deal_18 (by decide) (by decide) (by decide) (by decide) ?_
      refine lv_aload_n hx hb dX3_deal_110 rfl (lv_at hl 0 rfl) ?_
      refine gDi (d := d) (k := 8) (v := sI x (2 + d) 8) hd (by decide) rfl go hw dX3_deal_111 q81 ?_
      refine lv_if_eq (tgt := 121) hx hb dX3_deal_114 (by decide) (fun h114 => ?_) (fun h114 => ?_)
      · skip
        refine lv_iconst (v := 0) hx hb dX3_deal_121 (by decide) ?_
        refine ret_i (wf := cw G g) go hw dX3_deal_122 ?_
        exact ⟨by simp [deC, dlC, bI, *], rfl⟩
      · skip
        refine lv_iconst (v := 1) hx hb dX3_deal_117 (by decide) ?_
        refine lv_goto (tgt := 122) hx hb dX3_deal_118 (by decide) ?_
        refine ret_i (wf := cw G g) go hw dX3_deal_122 ?_
        exact ⟨by simp [deC, dlC, bI, *], rfl⟩
    by_cases w18_7 : w = 7
    · refine toI w18_7 ?_
      refine lv_tableIn (off := 105) (tgt := 123) hx hb dX3_deal_18 (by decide) (by decide) (by decide) (by decide) ?_
      refine lv_aload_n hx hb dX3_deal_123 rfl (lv_at hl 1 rfl) ?_
      refine lv_aload_n hx hb dX3_deal_124 rfl (lv_at hl 0 rfl) ?_
      refine cal_Vi' (kX3_isStubborn l G g x d hd) go hw dX3_deal_125 (And.intro q461 (And.intro q1 q464)) q463 qs11 kyX3_isStubborn ⟨Nat.le_of_ble_eq_true rfl, Nat.le_of_ble_eq_true rfl⟩ rc_X hl.1 rfl (Nat.le_of_ble_eq_true rfl) ⟨rfl, rfl⟩ ⟨Nat.le_of_ble_eq_true rfl, Nat.le_of_ble_eq_true rfl⟩ (fun H locs hw => ?_)
      refine lv_if_eq (tgt := 135) hx hb dX3_deal_128 (by decide) (fun h128 => ?_) (fun h128 => ?_)
      · skip
        have h128 := bI_0 h128
        refine lv_iconst (v := 0) hx hb dX3_deal_135 (by decide) ?_
        refine ret_i (wf := cw G g) go hw dX3_deal_136 ?_
        exact ⟨by simp [deC, dlC, bI, *], rfl⟩
      · skip
        have h128 := bI_1 h128
        refine lv_iconst (v := 1) hx hb dX3_deal_131 (by decide) ?_
        refine lv_goto (tgt := 136) hx hb dX3_deal_132 (by decide) ?_
        refine ret_i (wf := cw G g) go hw dX3_deal_136 ?_
        exact ⟨by simp [deC, dlC, bI, *], rfl⟩
    by_cases w18_8 : w = 8
    · refine toI w18_8 ?_
      refine lv_tableIn (off := 119) (tgt := 137) hx hb dX3_deal_18 (by decide) (by decide) (by decide) (by decide) ?_
      refine lv_aload_n hx hb dX3_deal_137 rfl (lv_at hl 1 rfl) ?_
      refine lv_aload_n hx hb dX3_deal_138 rfl (lv_at hl 0 rfl) ?_
      refine cal_Vi' (kX3_staleOf l G g x d hd) go hw dX3_deal_139 (And.intro q441 (And.intro q1 q444)) q443 qs6 kyX3_staleOf ⟨Nat.le_of_ble_eq_true rfl, Nat.le_of_ble_eq_true rfl⟩ rc_X hl.1 rfl (Nat.le_of_ble_eq_true rfl) ⟨rfl, rfl⟩ ⟨Nat.le_of_ble_eq_true rfl, Nat.le_of_ble_eq_true rfl⟩ (fun H locs hw => ?_)
      refine ret_i (wf := cw G g) go hw dX3_deal_142 ?_
      exact ⟨by simp [deC, dlC, bI, *], rfl⟩
    by_cases w18_9 : w = 9
    · refine toI w18_9 ?_
      refine lv_tableIn (off := 125) (tgt := 143) hx hb dX3_deal_18 (by decide) (by decide) (by decide) (by decide) ?_
      refine lv_aload_n hx hb dX3_deal_143 rfl (lv_at hl 1 rfl) ?_
      refine lv_aload_n hx hb dX3_deal_144 rfl (lv_at hl 0 rfl) ?_
      refine cal_Vi' (kX3_crossedOf l G g x d hd) go hw dX3_deal_145 (And.intro q445 (And.intro q1 q448)) q447 qs7 kyX3_crossedOf ⟨Nat.le_of_ble_eq_true rfl, Nat.le_of_ble_eq_true rfl⟩ rc_X hl.1 rfl (Nat.le_of_ble_eq_true rfl) ⟨rfl, rfl⟩ ⟨Nat.le_of_ble_eq_true rfl, Nat.le_of_ble_eq_true rfl⟩ (fun H locs hw => ?_)
      refine ret_i (wf := cw G g) go hw dX3_deal_148 ?_
      exact ⟨by simp [deC, dlC, bI, *], rfl⟩
    by_cases w18_10 : w = 10
    · refine toI w18_10 ?_
      refine lv_tableIn (off := 131) (tgt := 149) hx hb dX3_deal_18 (by decide) (by decide) (by decide) (by decide) ?_
      refine lv_aload_n hx hb dX3_deal_149 rfl (lv_at hl 1 rfl) ?_
      refine lv_aload_n hx hb dX3_deal_150 rfl (lv_at hl 0 rfl) ?_
      refine cal_Vi' (kX3_rivalsOf l G g x hN d hd) go hw dX3_deal_151 (And.intro q453 (And.intro q1 q456)) q455 qs9 kyX3_rivalsOf ⟨Nat.le_of_ble_eq_true rfl, Nat.le_of_ble_eq_true rfl⟩ rc_X hl.1 rfl (Nat.le_of_ble_eq_true rfl) ⟨rfl, rfl⟩ ⟨Nat.le_of_ble_eq_true rfl, Nat.le_of_ble_eq_true rfl⟩ (fun H locs hw => ?_)
      refine ret_i (wf := cw G g) go hw dX3_deal_154 ?_
      exact ⟨by simp [deC, dlC, bI, *], rfl⟩
    by_cases w18_11 : w = 11
    · refine toI w18_11 ?_
      refine lv_tableIn (off := 137) (tgt := 155) hx hb dX3_deal_18 (by decide) (by decide) (by decide) (by decide) ?_
      refine lv_aload_n hx hb dX3_deal_155 rfl (lv_at hl 0 rfl) ?_
      refine gDi (d := d) (k := 7) (v := sI x (2 + d) 7) hd (by decide) rfl go hw dX3_deal_156 q79 ?_
      refine ret_i (wf := cw G g) go hw dX3_deal_159 ?_
      exact ⟨by simp [deC, dlC, bI, *], rfl⟩
    refine lv_tableOut (tgt := 160) hx hb dX3_deal_18 (by have z0 := lv_neT (a := 0) w18_0 rfl; have z1 := lv_neT (a := 1) w18_1 rfl; have z2 := lv_neT (a := 2) w18_2 rfl; have z3 := lv_neT (a := 3) w18_3 rfl; have z4 := lv_neT (a := 4) w18_4 rfl; have z5 := lv_neT (a := 5) w18_5 rfl; have z6 := lv_neT (a := 6) w18_6 rfl; have z7 := lv_neT (a := 7) w18_7 rfl; have z8 := lv_neT (a := 8) w18_8 rfl; have z9 := lv_neT (a := 9) w18_9 rfl; have z10 := lv_neT (a := 10) w18_10 rfl; have z11 := lv_neT (a := 11) w18_11 rfl; omega) (by decide) ?_
    refine lv_bipush (v := (-3)) hx hb dX3_deal_160 (by decide) ?_
    refine ret_i (wf := cw G g) go hw dX3_deal_162 ?_
    exact ⟨by simp [deC, dlC, bI, *], rfl⟩
  · skip
    have h4 := bI_0 h4
    refine lv_bipush (v := (-2)) hx hb dX3_deal_7 (by decide) ?_
    refine ret_i (wf := cw G g) go hw dX3_deal_9 ?_
    exact ⟨by simp [deC, dlC, bI, *], rfl⟩

set_option maxHeartbeats 4000000 in
set_option maxRecDepth 100000 in
theorem kX3_noted (l : Launch) (G : Cx) (g : Nat → Nat → Nat) (x : Sg) (a b w : Int32) : Ci l G yX3_noted cX3_noted 5 .int (Rm 2 41) (cw G g) [.ref (g 0 0), .int a, .int b, .int w] x (fun r u => r = ntC x a b w ∧ u = x) := by
  refine Ci.mk (by decide) (Nat.le_of_ble_eq_true rfl) ?_
  intro p e s m below meth c A ls go hw hl
  generalize s.heap = H at hw ⊢
  generalize ([] : List Loc) = locs at hw ⊢
  have hx := go.1
  have hb := go.2.1
  have hl : lv_has ls 5 [(0, .ref (g 0 0)), (1, .int a), (2, .int b), (3, .int w)] := hl
  refine lv_iload_n hx hb dX3_noted_0 rfl (lv_at hl 1 rfl) ?_
  refine cal_S (kX3_isDeal l G a) go hw.2.2.1 hw.2.2.2.1 dX3_noted_1 (And.intro q382 (And.intro q1 q384)) q383 kyX3_isDeal ⟨rfl, rfl⟩ ⟨Nat.le_of_ble_eq_true rfl, Nat.le_of_ble_eq_true rfl⟩ hl.1 rfl (Nat.le_of_ble_eq_true rfl) ⟨Nat.le_of_ble_eq_true rfl, Nat.le_of_ble_eq_true rfl⟩ ?_
  refine lv_if_eq (tgt := 14) hx hb dX3_noted_4 (by decide) (fun h4 => ?_) (fun h4 => ?_)
  · skip
    have h4 := bI_0 h4
    refine lv_bipush (v := (-2)) hx hb dX3_noted_14 (by decide) ?_
    refine ret_i (wf := cw G g) go hw dX3_noted_16 ?_
    exact ⟨by simp [ntC, *], rfl⟩
  · skip
    have h4 := bI_1 h4
    refine lv_iload_n hx hb dX3_noted_7 rfl (lv_at hl 2 rfl) ?_
    refine cal_S (kX3_isItem l G b) go hw.2.2.1 hw.2.2.2.1 dX3_noted_8 (And.intro q311 (And.intro q1 q313)) q312 kyX3_isItem ⟨rfl, rfl⟩ ⟨Nat.le_of_ble_eq_true rfl, Nat.le_of_ble_eq_true rfl⟩ hl.1 rfl (Nat.le_of_ble_eq_true rfl) ⟨Nat.le_of_ble_eq_true rfl, Nat.le_of_ble_eq_true rfl⟩ ?_
    refine lv_if_ne (tgt := 17) hx hb dX3_noted_11 (by decide) (fun h11 => ?_) (fun h11 => ?_)
    · skip
      have h11 := bI_1 h11
      obtain ⟨d, hd, rfl⟩ := inB_of (n := 6) h4 rfl (by decide)
      have cd : (nI d).toNatClampNeg = d := nI_clamp (by omega)
      obtain ⟨i, hi, rfl⟩ := inB_of (n := 8) h11 rfl (by decide)
      have ci : (nI i).toNatClampNeg = i := nI_clamp (by omega)
      refine lv_aload_n hx hb dX3_noted_17 rfl (lv_at hl 0 rfl) ?_
      refine gX (k := 3) (v := .ref (g 0 4)) rfl (by decide) rfl go hw dX3_noted_18 q130 ?_
      refine lv_iload_n hx hb dX3_noted_21 rfl (lv_at hl 1 rfl) ?_
      refine aDl (d := d) (by exact hd) go hw dX3_noted_22 ?_
      refine lv_astore (lv' := [(4, .ref (g (2 + d) 0)), (0, .ref (g 0 0)), (1, .int (nI d)), (2, .int (nI i)), (3, .int w)]) hx hb dX3_noted_23 hl (by decide) rfl (fun ls hl => ?_)
      refine lv_iload_n hx hb dX3_noted_25 rfl (lv_at hl 4 rfl) ?_
      by_cases w26_0 : w = 0
      · refine toI w26_0 ?_
        refine lv_tableIn (off := 26) (tgt := 52) hx hb dX3_noted_26 (by decide) (by decide) (by decide) (by decide) ?_
        refine lv_aload hx hb dX3_noted_52 (lv_at hl 0 rfl) ?_
        refine gDi (d := d) (k := 5) (v := sI x (2 + d) 5) hd (by decide) rfl go hw dX3_noted_54 q74 ?_
        refine lv_iload_n hx hb dX3_noted_57 rfl (lv_at hl 3 rfl) ?_
        refine cal_S (kX3_has l G (sI x (2 + d) 5) (nI i)) go hw.2.2.1 hw.2.2.2.1 dX3_noted_58 (And.intro q393 (And.intro q1 q395)) q394 kyX3_has ⟨rfl, rfl⟩ ⟨Nat.le_of_ble_eq_true rfl, Nat.le_of_ble_eq_true rfl⟩ hl.1 rfl (Nat.le_of_ble_eq_true rfl) ⟨Nat.le_of_ble_eq_true rfl, Nat.le_of_ble_eq_true rfl⟩ ?_
        refine lv_if_eq (tgt := 74) hx hb dX3_noted_61 (by decide) (fun h61 => ?_) (fun h61 => ?_)
        · skip
          have h61 := bI_0 h61
          refine lv_iconst (v := (-1)) hx hb dX3_noted_74 (by decide) ?_
          refine ret_i (wf := cw G g) go hw dX3_noted_75 ?_
          exact ⟨by simp [ntC, *], rfl⟩
        · skip
          have h61 := bI_1 h61
          refine lv_aload hx hb dX3_noted_64 (lv_at hl 0 rfl) ?_
          refine gD (d := d) (k := 9) (v := .ref (g (2 + d) 10)) hd rfl (by decide) rfl go hw dX3_noted_66 q83 ?_
          refine lv_iload_n hx hb dX3_noted_69 rfl (lv_at hl 3 rfl) ?_
          refine aD (d := d) (k := 9) (j := i) hd (by decide) (by exact hi) go hw dX3_noted_70 ?_
          refine lv_goto (tgt := 75) hx hb dX3_noted_71 (by decide) ?_
          refine ret_i (wf := cw G g) go hw dX3_noted_75 ?_
          exact ⟨by simp [ntC, *], rfl⟩
      by_cases w26_1 : w = 1
      · refine toI w26_1 ?_
        refine lv_tableIn (off := 50) (tgt := 76) hx hb dX3_noted_26 (by decide) (by decide) (by decide) (by decide) ?_
        refine lv_aload hx hb dX3_noted_76 (lv_at hl 0 rfl) ?_
        refine gDi (d := d) (k := 5) (v := sI x (2 + d) 5) hd (by decide) rfl go hw dX3_noted_78 q74 ?_
        refine lv_iload_n hx hb dX3_noted_81 rfl (lv_at hl 3 rfl) ?_
        refine cal_S (kX3_has l G (sI x (2 + d) 5) (nI i)) go hw.2.2.1 hw.2.2.2.1 dX3_noted_82 (And.intro q393 (And.intro q1 q395)) q394 kyX3_has ⟨rfl, rfl⟩ ⟨Nat.le_of_ble_eq_true rfl, Nat.le_of_ble_eq_true rfl⟩ hl.1 rfl (Nat.le_of_ble_eq_true rfl) ⟨Nat.le_of_ble_eq_true rfl, Nat.le_of_ble_eq_true rfl⟩ ?_
        refine lv_if_eq (tgt := 98) hx hb dX3_noted_85 (by decide) (fun h85 => ?_) (fun h85 => ?_)
        · skip
          have h85 := bI_0 h85
          refine lv_iconst (v := (-1)) hx hb dX3_noted_98 (by decide) ?_
          refine ret_i (wf := cw G g) go hw dX3_noted_99 ?_
          exact ⟨by simp [ntC, *], rfl⟩
        · skip
          have h85 := bI_1 h85
          refine lv_aload hx hb dX3_noted_88 (lv_at hl 0 rfl) ?_
          refine gD (d := d) (k := 10) (v := .ref (g (2 + d) 11)) hd rfl (by decide) rfl go hw dX3_noted_90 q86 ?_
          refine lv_iload_n hx hb dX3_noted_93 rfl (lv_at hl 3 rfl) ?_
          refine aD (d := d) (k := 10) (j := i) hd (by decide) (by exact hi) go hw dX3_noted_94 ?_
          refine lv_goto (tgt := 99) hx hb dX3_noted_95 (by decide) ?_
          refine ret_i (wf := cw G g) go hw dX3_noted_99 ?_
          exact ⟨by simp [ntC, *], rfl⟩
      by_cases w26_2 : w = 2
      · refine toI w26_2 ?_
        refine lv_tableIn (off := 74) (tgt := 100) hx hb dX3_noted_26 (by decide) (by decide) (by decide) (by decide) ?_
        refine lv_aload hx hb dX3_noted_100 (lv_at hl 0 rfl) ?_
        refine gDi (d := d) (k := 6) (v := sI x (2 + d) 6) hd (by decide) rfl go hw dX3_noted_102 q77 ?_
        refine lv_iload_n hx hb dX3_noted_105 rfl (lv_at hl 3 rfl) ?_
        refine cal_S (kX3_has l G (sI x (2 + d) 6) (nI i)) go hw.2.2.1 hw.2.2.2.1 dX3_noted_106 (And.intro q393 (And.intro q1 q395)) q394 kyX3_has ⟨rfl, rfl⟩ ⟨Nat.le_of_ble_eq_true rfl, Nat.le_of_ble_eq_true rfl⟩ hl.1 rfl (Nat.le_of_ble_eq_true rfl) ⟨Nat.le_of_ble_eq_true rfl, Nat.le_of_ble_eq_true rfl⟩ ?_
        refine lv_if_eq (tgt := 122) hx hb dX3_noted_109 (by decide) (fun h109 => ?_) (fun h109 => ?_)
        · skip
          have h109 := bI_0 h109
          refine lv_iconst (v := (-1)) hx hb dX3_noted_122 (by decide) ?_
          refine ret_i (wf := cw G g) go hw dX3_noted_123 ?_
          exact ⟨by simp [ntC, *], rfl⟩
        · skip
          have h109 := bI_1 h109
          refine lv_aload hx hb dX3_noted_112 (lv_at hl 0 rfl) ?_
          refine gD (d := d) (k := 11) (v := .ref (g (2 + d) 12)) hd rfl (by decide) rfl go hw dX3_noted_114 q89 ?_
          refine lv_iload_n hx hb dX3_noted_117 rfl (lv_at hl 3 rfl) ?_
          refine aD (d := d) (k := 11) (j := i) hd (by decide) (by exact hi) go hw dX3_noted_118 ?_
          refine lv_goto (tgt := 123) hx hb dX3_noted_119 (by decide) ?_
          refine ret_i (wf := cw G g) go hw dX3_noted_123 ?_
          exact ⟨by simp [ntC, *], rfl⟩
      refine lv_tableOut (tgt := 124) hx hb dX3_noted_26 (by have z0 := lv_neT (a := 0) w26_0 rfl; have z1 := lv_neT (a := 1) w26_1 rfl; have z2 := lv_neT (a := 2) w26_2 rfl; omega) (by decide) ?_
      refine lv_bipush (v := (-3)) hx hb dX3_noted_124 (by decide) ?_
      refine ret_i (wf := cw G g) go hw dX3_noted_126 ?_
      exact ⟨by simp [ntC, *], rfl⟩
    · skip
      have h11 := bI_0 h11
      refine lv_bipush (v := (-2)) hx hb dX3_noted_14 (by decide) ?_
      refine ret_i (wf := cw G g) go hw dX3_noted_16 ?_
      exact ⟨by simp [ntC, *], rfl⟩

set_option maxHeartbeats 4000000 in
set_option maxRecDepth 100000 in
theorem kX3_sent (l : Launch) (G : Cx) (g : Nat → Nat → Nat) (x : Sg) (hN : Nm x) (k : Int32) : Ci l G yX3_sent cX3_sent 3 .int (Rm 2 51) (cw G g) [.ref (g 0 0), .int k] x (fun r u => r = seC x k ∧ u = x) := by
  refine Ci.mk (by decide) (Nat.le_of_ble_eq_true rfl) ?_
  intro p e s m below meth c A ls go hw hl
  generalize s.heap = H at hw ⊢
  generalize ([] : List Loc) = locs at hw ⊢
  have hx := go.1
  have hb := go.2.1
  have hl : lv_has ls 3 [(0, .ref (g 0 0)), (1, .int k)] := hl
  refine lv_aload_n hx hb dX3_sent_0 rfl (lv_at hl 0 rfl) ?_
  refine lv_iload_n hx hb dX3_sent_1 rfl (lv_at hl 1 rfl) ?_
  refine cal_Vi' (kX3_sentAt l G g x hN k) go hw dX3_sent_2 (And.intro q508 (And.intro q1 q511)) q510 qs16 kyX3_sentAt ⟨Nat.le_of_ble_eq_true rfl, Nat.le_of_ble_eq_true rfl⟩ rc_X hl.1 rfl (Nat.le_of_ble_eq_true rfl) ⟨rfl, rfl⟩ ⟨Nat.le_of_ble_eq_true rfl, Nat.le_of_ble_eq_true rfl⟩ (fun H locs hw => ?_)
  refine lv_istore_n (lv' := [(2, .int (saI x k)), (0, .ref (g 0 0)), (1, .int k)]) hx hb dX3_sent_5 rfl hl (by decide) rfl (fun ls hl => ?_)
  refine lv_iload_n hx hb dX3_sent_6 rfl (lv_at hl 0 rfl) ?_
  refine lv_iconst (v := (-1)) hx hb dX3_sent_7 (by decide) ?_
  refine lv_icmp_eq (tgt := 15) hx hb dX3_sent_8 (by decide) (fun h8 => ?_) (fun h8 => ?_)
  · skip
    refine lv_bipush (v := (-2)) hx hb dX3_sent_15 (by decide) ?_
    refine ret_i (wf := cw G g) go hw dX3_sent_17 ?_
    exact ⟨by simp [seC, *], rfl⟩
  · skip
    refine lv_iload_n hx hb dX3_sent_11 rfl (lv_at hl 0 rfl) ?_
    refine lv_goto (tgt := 17) hx hb dX3_sent_12 (by decide) ?_
    refine ret_i (wf := cw G g) go hw dX3_sent_17 ?_
    exact ⟨by simp [seC, *], rfl⟩

set_option maxHeartbeats 4000000 in
set_option maxRecDepth 100000 in
theorem kX3_ballot (l : Launch) (G : Cx) (g : Nat → Nat → Nat) (x : Sg) (v a : Int32) : Ci l G yX3_ballot cX3_ballot 4 .int (Rm 1 20) (cw G g) [.ref (g 0 0), .int v, .int a] x (fun r u => r = baC x v a ∧ u = x) := by
  refine Ci.mk (by decide) (Nat.le_of_ble_eq_true rfl) ?_
  intro p e s m below meth c A ls go hw hl
  generalize s.heap = H at hw ⊢
  generalize ([] : List Loc) = locs at hw ⊢
  have hx := go.1
  have hb := go.2.1
  have hl : lv_has ls 4 [(0, .ref (g 0 0)), (1, .int v), (2, .int a)] := hl
  refine lv_iload_n hx hb dX3_ballot_0 rfl (lv_at hl 1 rfl) ?_
  refine cal_S (kX3_isValidator l G v) go hw.2.2.1 hw.2.2.2.1 dX3_ballot_1 (And.intro q501 (And.intro q1 q503)) q502 kyX3_isValidator ⟨rfl, rfl⟩ ⟨Nat.le_of_ble_eq_true rfl, Nat.le_of_ble_eq_true rfl⟩ hl.1 rfl (Nat.le_of_ble_eq_true rfl) ⟨Nat.le_of_ble_eq_true rfl, Nat.le_of_ble_eq_true rfl⟩ ?_
  refine lv_if_eq (tgt := 14) hx hb dX3_ballot_4 (by decide) (fun h4 => ?_) (fun h4 => ?_)
  · skip
    have h4 := bI_0 h4
    refine lv_bipush (v := (-2)) hx hb dX3_ballot_14 (by decide) ?_
    refine ret_i (wf := cw G g) go hw dX3_ballot_16 ?_
    exact ⟨by simp [baC, *], rfl⟩
  · skip
    have h4 := bI_1 h4
    refine lv_iload_n hx hb dX3_ballot_7 rfl (lv_at hl 2 rfl) ?_
    refine cal_S (kX3_isDeal l G a) go hw.2.2.1 hw.2.2.2.1 dX3_ballot_8 (And.intro q382 (And.intro q1 q384)) q383 kyX3_isDeal ⟨rfl, rfl⟩ ⟨Nat.le_of_ble_eq_true rfl, Nat.le_of_ble_eq_true rfl⟩ hl.1 rfl (Nat.le_of_ble_eq_true rfl) ⟨Nat.le_of_ble_eq_true rfl, Nat.le_of_ble_eq_true rfl⟩ ?_
    refine lv_if_ne (tgt := 17) hx hb dX3_ballot_11 (by decide) (fun h11 => ?_) (fun h11 => ?_)
    · skip
      have h11 := bI_1 h11
      obtain ⟨k, hk, rfl⟩ := inB_of (n := 2) h4 rfl (by decide)
      have ck : (nI k).toNatClampNeg = k := nI_clamp (by omega)
      obtain ⟨d, hd, rfl⟩ := inB_of (n := 6) h11 rfl (by decide)
      have cd : (nI d).toNatClampNeg = d := nI_clamp (by omega)
      refine lv_aload_n hx hb dX3_ballot_17 rfl (lv_at hl 0 rfl) ?_
      refine gX (k := 3) (v := .ref (g 0 4)) rfl (by decide) rfl go hw dX3_ballot_18 q130 ?_
      refine lv_iload_n hx hb dX3_ballot_21 rfl (lv_at hl 2 rfl) ?_
      refine aDl (d := d) (by exact hd) go hw dX3_ballot_22 ?_
      refine lv_astore_n (lv' := [(3, .ref (g (2 + d) 0)), (0, .ref (g 0 0)), (1, .int (nI k)), (2, .int (nI d))]) hx hb dX3_ballot_23 rfl hl (by decide) rfl (fun ls hl => ?_)
      refine lv_aload_n hx hb dX3_ballot_24 rfl (lv_at hl 0 rfl) ?_
      refine gDi (d := d) (k := 1) (v := sI x (2 + d) 1) hd (by decide) rfl go hw dX3_ballot_25 q63 ?_
      refine lv_iconst (v := 3) hx hb dX3_ballot_28 (by decide) ?_
      refine lv_icmp_ne (tgt := 41) hx hb dX3_ballot_29 (by decide) (fun h29 => ?_) (fun h29 => ?_)
      · skip
        refine lv_bipush (v := (-4)) hx hb dX3_ballot_41 (by decide) ?_
        refine ret_i (wf := cw G g) go hw dX3_ballot_43 ?_
        exact ⟨by simp [baC, *], rfl⟩
      · skip
        refine lv_aload_n hx hb dX3_ballot_32 rfl (lv_at hl 0 rfl) ?_
        refine gD (d := d) (k := 12) (v := .ref (g (2 + d) 13)) hd rfl (by decide) rfl go hw dX3_ballot_33 q91 ?_
        refine lv_iload_n hx hb dX3_ballot_36 rfl (lv_at hl 2 rfl) ?_
        refine aD (d := d) (k := 12) (j := k) hd (by decide) (by exact hk) go hw dX3_ballot_37 ?_
        refine lv_goto (tgt := 43) hx hb dX3_ballot_38 (by decide) ?_
        refine ret_i (wf := cw G g) go hw dX3_ballot_43 ?_
        exact ⟨by simp [baC, *], rfl⟩
    · skip
      have h11 := bI_0 h11
      refine lv_bipush (v := (-2)) hx hb dX3_ballot_14 (by decide) ?_
      refine ret_i (wf := cw G g) go hw dX3_ballot_16 ?_
      exact ⟨by simp [baC, *], rfl⟩

set_option maxHeartbeats 4000000 in
set_option maxRecDepth 100000 in
theorem kX3_log (l : Launch) (G : Cx) (g : Nat → Nat → Nat) (x : Sg) (c0 : Nat) (hc : sI x 0 5 = nI c0) (hcs : c0 ≤ sN x) (hc5 : c0 ≤ 512) (k w : Int32) : Ci l G yX3_log cX3_log 4 .int (Rm 1 21) (cw G g) [.ref (g 0 0), .int k, .int w] x (fun r u => r = lgC x c0 k w ∧ u = x) := by
  refine Ci.mk (by decide) (Nat.le_of_ble_eq_true rfl) ?_
  intro p e s m below meth c A ls go hw hl
  generalize s.heap = H at hw ⊢
  generalize ([] : List Loc) = locs at hw ⊢
  have hx := go.1
  have hb := go.2.1
  have hl : lv_has ls 4 [(0, .ref (g 0 0)), (1, .int k), (2, .int w)] := hl
  by_cases hk_k : okE c0 k = true
  · skip
    obtain ⟨n, hn, rfl⟩ := okE_of hk_k hc5
    have cn : (nI (n + 1)).toNatClampNeg = n + 1 := nI_clamp (by omega)
    refine lv_aload_n hx hb dX3_log_0 rfl (lv_at hl 0 rfl) ?_
    refine lv_iload_n hx hb dX3_log_1 rfl (lv_at hl 1 rfl) ?_
    refine cal_Vq' (kX3_entryOf_t l G g x c0 hc hcs hc5 n hn) go hw dX3_log_2 (And.intro q559 (And.intro q1 q562)) q561 qs20 kyX3_entryOf ⟨Nat.le_of_ble_eq_true rfl, Nat.le_of_ble_eq_true rfl⟩ rc_X hl.1 rfl (Nat.le_of_ble_eq_true rfl) ⟨rfl, rfl⟩ ⟨Nat.le_of_ble_eq_true rfl, Nat.le_of_ble_eq_true rfl⟩ (fun H locs hw => ?_)
    refine lv_astore_n (lv' := [(3, .ref (sE x n 0)), (0, .ref (g 0 0)), (1, .int (nI (n + 1))), (2, .int w)]) hx hb dX3_log_5 rfl hl (by decide) rfl (fun ls hl => ?_)
    refine lv_aload_n hx hb dX3_log_6 rfl (lv_at hl 0 rfl) ?_
    refine lv_ifnonnull (tgt := 13) hx hb dX3_log_7 (by decide) ?_
    refine lv_iload_n hx hb dX3_log_13 rfl (lv_at hl 3 rfl) ?_
    by_cases w14_0 : w = 0
    · refine toI w14_0 ?_
      refine lv_tableIn (off := 38) (tgt := 52) hx hb dX3_log_14 (by decide) (by decide) (by decide) (by decide) ?_
      refine lv_aload_n hx hb dX3_log_52 rfl (lv_at hl 0 rfl) ?_
      refine gEi (x := x) (n := n) (k := 0) (v := sI x (8 + n) 0) (Nat.lt_of_lt_of_le hn hcs) (by decide) rfl go hw dX3_log_53 q331 ?_
      refine ret_i (wf := cw G g) go hw dX3_log_56 ?_
      exact ⟨by simp [lgC, *], rfl⟩
    by_cases w14_1 : w = 1
    · refine toI w14_1 ?_
      refine lv_tableIn (off := 43) (tgt := 57) hx hb dX3_log_14 (by decide) (by decide) (by decide) (by decide) ?_
      refine lv_aload_n hx hb dX3_log_57 rfl (lv_at hl 0 rfl) ?_
      refine gEi (x := x) (n := n) (k := 1) (v := sI x (8 + n) 1) (Nat.lt_of_lt_of_le hn hcs) (by decide) rfl go hw dX3_log_58 q333 ?_
      refine ret_i (wf := cw G g) go hw dX3_log_61 ?_
      exact ⟨by simp [lgC, *], rfl⟩
    by_cases w14_2 : w = 2
    · refine toI w14_2 ?_
      refine lv_tableIn (off := 48) (tgt := 62) hx hb dX3_log_14 (by decide) (by decide) (by decide) (by decide) ?_
      refine lv_aload_n hx hb dX3_log_62 rfl (lv_at hl 0 rfl) ?_
      refine gEi (x := x) (n := n) (k := 2) (v := sI x (8 + n) 2) (Nat.lt_of_lt_of_le hn hcs) (by decide) rfl go hw dX3_log_63 q335 ?_
      refine ret_i (wf := cw G g) go hw dX3_log_66 ?_
      exact ⟨by simp [lgC, *], rfl⟩
    by_cases w14_3 : w = 3
    · refine toI w14_3 ?_
      refine lv_tableIn (off := 53) (tgt := 67) hx hb dX3_log_14 (by decide) (by decide) (by decide) (by decide) ?_
      refine lv_aload_n hx hb dX3_log_67 rfl (lv_at hl 0 rfl) ?_
      refine gEi (x := x) (n := n) (k := 3) (v := sI x (8 + n) 3) (Nat.lt_of_lt_of_le hn hcs) (by decide) rfl go hw dX3_log_68 q337 ?_
      refine ret_i (wf := cw G g) go hw dX3_log_71 ?_
      exact ⟨by simp [lgC, *], rfl⟩
    by_cases w14_4 : w = 4
    · refine toI w14_4 ?_
      refine lv_tableIn (off := 58) (tgt := 72) hx hb dX3_log_14 (by decide) (by decide) (by decide) (by decide) ?_
      refine lv_aload_n hx hb dX3_log_72 rfl (lv_at hl 0 rfl) ?_
      refine gEi (x := x) (n := n) (k := 4) (v := sI x (8 + n) 4) (Nat.lt_of_lt_of_le hn hcs) (by decide) rfl go hw dX3_log_73 q339 ?_
      refine ret_i (wf := cw G g) go hw dX3_log_76 ?_
      exact ⟨by simp [lgC, *], rfl⟩
    by_cases w14_5 : w = 5
    · refine toI w14_5 ?_
      refine lv_tableIn (off := 63) (tgt := 77) hx hb dX3_log_14 (by decide) (by decide) (by decide) (by decide) ?_
      refine lv_aload_n hx hb dX3_log_77 rfl (lv_at hl 0 rfl) ?_
      refine gEi (x := x) (n := n) (k := 5) (v := sI x (8 + n) 5) (Nat.lt_of_lt_of_le hn hcs) (by decide) rfl go hw dX3_log_78 q341 ?_
      refine ret_i (wf := cw G g) go hw dX3_log_81 ?_
      exact ⟨by simp [lgC, *], rfl⟩
    refine lv_tableOut (tgt := 82) hx hb dX3_log_14 (by have z0 := lv_neT (a := 0) w14_0 rfl; have z1 := lv_neT (a := 1) w14_1 rfl; have z2 := lv_neT (a := 2) w14_2 rfl; have z3 := lv_neT (a := 3) w14_3 rfl; have z4 := lv_neT (a := 4) w14_4 rfl; have z5 := lv_neT (a := 5) w14_5 rfl; omega) (by decide) ?_
    refine lv_bipush (v := (-3)) hx hb dX3_log_82 (by decide) ?_
    refine ret_i (wf := cw G g) go hw dX3_log_84 ?_
    exact ⟨by simp [lgC, *], rfl⟩
  · skip
    have hkk : okE c0 k = false := by simpa using hk_k
    refine lv_aload_n hx hb dX3_log_0 rfl (lv_at hl 0 rfl) ?_
    refine lv_iload_n hx hb dX3_log_1 rfl (lv_at hl 1 rfl) ?_
    refine cal_Vq' (kX3_entryOf_f l G g x c0 hc hcs hc5 k hkk) go hw dX3_log_2 (And.intro q559 (And.intro q1 q562)) q561 qs20 kyX3_entryOf ⟨Nat.le_of_ble_eq_true rfl, Nat.le_of_ble_eq_true rfl⟩ rc_X hl.1 rfl (Nat.le_of_ble_eq_true rfl) ⟨rfl, rfl⟩ ⟨Nat.le_of_ble_eq_true rfl, Nat.le_of_ble_eq_true rfl⟩ (fun H locs hw => ?_)
    refine lv_astore_nN (lv' := [(3, .null), (0, .ref (g 0 0)), (1, .int k), (2, .int w)]) hx hb dX3_log_5 rfl hl (by decide) rfl (fun ls hl => ?_)
    refine lv_aload_nN hx hb dX3_log_6 rfl (lv_at hl 0 rfl) ?_
    refine lv_ifnonnullN hx hb dX3_log_7 ?_
    refine lv_bipush (v := (-2)) hx hb dX3_log_10 (by decide) ?_
    refine ret_i (wf := cw G g) go hw dX3_log_12 ?_
    exact ⟨by simp [lgC, *], rfl⟩

set_option maxHeartbeats 4000000 in
set_option maxRecDepth 100000 in
theorem kX3_logged (l : Launch) (G : Cx) (g : Nat → Nat → Nat) (x : Sg) (c0 : Nat) (hc : sI x 0 5 = nI c0) (hcs : c0 ≤ sN x) (hc5 : c0 ≤ 512) (k b w : Int32) : Ci l G yX3_logged cX3_logged 5 .int (Rm 2 41) (cw G g) [.ref (g 0 0), .int k, .int b, .int w] x (fun r u => r = ldC x c0 k b w ∧ u = x) := by
  refine Ci.mk (by decide) (Nat.le_of_ble_eq_true rfl) ?_
  intro p e s m below meth c A ls go hw hl
  generalize s.heap = H at hw ⊢
  generalize ([] : List Loc) = locs at hw ⊢
  have hx := go.1
  have hb := go.2.1
  have hl : lv_has ls 5 [(0, .ref (g 0 0)), (1, .int k), (2, .int b), (3, .int w)] := hl
  by_cases hk_k : okE c0 k = true
  · skip
    obtain ⟨n, hn, rfl⟩ := okE_of hk_k hc5
    have cn : (nI (n + 1)).toNatClampNeg = n + 1 := nI_clamp (by omega)
    refine lv_aload_n hx hb dX3_logged_0 rfl (lv_at hl 0 rfl) ?_
    refine lv_iload_n hx hb dX3_logged_1 rfl (lv_at hl 1 rfl) ?_
    refine cal_Vq' (kX3_entryOf_t l G g x c0 hc hcs hc5 n hn) go hw dX3_logged_2 (And.intro q559 (And.intro q1 q562)) q561 qs20 kyX3_entryOf ⟨Nat.le_of_ble_eq_true rfl, Nat.le_of_ble_eq_true rfl⟩ rc_X hl.1 rfl (Nat.le_of_ble_eq_true rfl) ⟨rfl, rfl⟩ ⟨Nat.le_of_ble_eq_true rfl, Nat.le_of_ble_eq_true rfl⟩ (fun H locs hw => ?_)
    refine lv_astore (lv' := [(4, .ref (sE x n 0)), (0, .ref (g 0 0)), (1, .int (nI (n + 1))), (2, .int b), (3, .int w)]) hx hb dX3_logged_5 hl (by decide) rfl (fun ls hl => ?_)
    refine lv_aload hx hb dX3_logged_7 (lv_at hl 0 rfl) ?_
    refine lv_ifnull hx hb dX3_logged_9 ?_
    refine lv_iload_n hx hb dX3_logged_12 rfl (lv_at hl 3 rfl) ?_
    refine cal_S (kX3_isItem l G b) go hw.2.2.1 hw.2.2.2.1 dX3_logged_13 (And.intro q311 (And.intro q1 q313)) q312 kyX3_isItem ⟨rfl, rfl⟩ ⟨Nat.le_of_ble_eq_true rfl, Nat.le_of_ble_eq_true rfl⟩ hl.1 rfl (Nat.le_of_ble_eq_true rfl) ⟨Nat.le_of_ble_eq_true rfl, Nat.le_of_ble_eq_true rfl⟩ ?_
    refine lv_if_ne (tgt := 22) hx hb dX3_logged_16 (by decide) (fun h16 => ?_) (fun h16 => ?_)
    · skip
      have h16 := bI_1 h16
      obtain ⟨i, hi, rfl⟩ := inB_of (n := 8) h16 rfl (by decide)
      have ci : (nI i).toNatClampNeg = i := nI_clamp (by omega)
      refine lv_iload_n hx hb dX3_logged_22 rfl (lv_at hl 4 rfl) ?_
      by_cases w23_0 : w = 0
      · refine toI w23_0 ?_
        refine lv_lookup (off := 25) (tgt := 48) hx hb dX3_logged_23 (by decide) (by decide) (by decide) ?_
        refine lv_aload hx hb dX3_logged_48 (lv_at hl 0 rfl) ?_
        refine gEi (x := x) (n := n) (k := 3) (v := sI x (8 + n) 3) (Nat.lt_of_lt_of_le hn hcs) (by decide) rfl go hw dX3_logged_50 q337 ?_
        refine lv_iload_n hx hb dX3_logged_53 rfl (lv_at hl 3 rfl) ?_
        refine cal_S (kX3_has l G (sI x (8 + n) 3) (nI i)) go hw.2.2.1 hw.2.2.2.1 dX3_logged_54 (And.intro q393 (And.intro q1 q395)) q394 kyX3_has ⟨rfl, rfl⟩ ⟨Nat.le_of_ble_eq_true rfl, Nat.le_of_ble_eq_true rfl⟩ hl.1 rfl (Nat.le_of_ble_eq_true rfl) ⟨Nat.le_of_ble_eq_true rfl, Nat.le_of_ble_eq_true rfl⟩ ?_
        refine lv_if_eq (tgt := 70) hx hb dX3_logged_57 (by decide) (fun h57 => ?_) (fun h57 => ?_)
        · skip
          have h57 := bI_0 h57
          refine lv_iconst (v := (-1)) hx hb dX3_logged_70 (by decide) ?_
          refine ret_i (wf := cw G g) go hw dX3_logged_71 ?_
          exact ⟨by simp [ldC, *], rfl⟩
        · skip
          have h57 := bI_1 h57
          refine lv_aload hx hb dX3_logged_60 (lv_at hl 0 rfl) ?_
          refine gEr (x := x) (n := n) (k := 6) (Nat.lt_of_lt_of_le hn hcs) (by decide) go hw dX3_logged_62 q343 ?_
          refine lv_iload_n hx hb dX3_logged_65 rfl (lv_at hl 3 rfl) ?_
          refine aE (x := x) (n := n) (k := 6) (j := i) (Nat.lt_of_lt_of_le hn hcs) (by decide) (by exact hi) go hw dX3_logged_66 ?_
          refine lv_goto (tgt := 71) hx hb dX3_logged_67 (by decide) ?_
          refine ret_i (wf := cw G g) go hw dX3_logged_71 ?_
          exact ⟨by simp [ldC, *], rfl⟩
      by_cases w23_1 : w = 1
      · refine toI w23_1 ?_
        refine lv_lookup (off := 49) (tgt := 72) hx hb dX3_logged_23 (by decide) (by decide) (by decide) ?_
        refine lv_aload hx hb dX3_logged_72 (lv_at hl 0 rfl) ?_
        refine gEi (x := x) (n := n) (k := 4) (v := sI x (8 + n) 4) (Nat.lt_of_lt_of_le hn hcs) (by decide) rfl go hw dX3_logged_74 q339 ?_
        refine lv_iload_n hx hb dX3_logged_77 rfl (lv_at hl 3 rfl) ?_
        refine cal_S (kX3_has l G (sI x (8 + n) 4) (nI i)) go hw.2.2.1 hw.2.2.2.1 dX3_logged_78 (And.intro q393 (And.intro q1 q395)) q394 kyX3_has ⟨rfl, rfl⟩ ⟨Nat.le_of_ble_eq_true rfl, Nat.le_of_ble_eq_true rfl⟩ hl.1 rfl (Nat.le_of_ble_eq_true rfl) ⟨Nat.le_of_ble_eq_true rfl, Nat.le_of_ble_eq_true rfl⟩ ?_
        refine lv_if_eq (tgt := 94) hx hb dX3_logged_81 (by decide) (fun h81 => ?_) (fun h81 => ?_)
        · skip
          have h81 := bI_0 h81
          refine lv_iconst (v := (-1)) hx hb dX3_logged_94 (by decide) ?_
          refine ret_i (wf := cw G g) go hw dX3_logged_95 ?_
          exact ⟨by simp [ldC, *], rfl⟩
        · skip
          have h81 := bI_1 h81
          refine lv_aload hx hb dX3_logged_84 (lv_at hl 0 rfl) ?_
          refine gEr (x := x) (n := n) (k := 7) (Nat.lt_of_lt_of_le hn hcs) (by decide) go hw dX3_logged_86 q345 ?_
          refine lv_iload_n hx hb dX3_logged_89 rfl (lv_at hl 3 rfl) ?_
          refine aE (x := x) (n := n) (k := 7) (j := i) (Nat.lt_of_lt_of_le hn hcs) (by decide) (by exact hi) go hw dX3_logged_90 ?_
          refine lv_goto (tgt := 95) hx hb dX3_logged_91 (by decide) ?_
          refine ret_i (wf := cw G g) go hw dX3_logged_95 ?_
          exact ⟨by simp [ldC, *], rfl⟩
      refine lv_lookup (off := 73) (tgt := 96) hx hb dX3_logged_23 (by decide) (by show Op.lookupswitch.offset [(0, 25), (1, 49)] 73 w.toInt = 73; rw [lv_osw (a := 0) w23_0 rfl, lv_osw (a := 1) w23_1 rfl]; rfl) (by decide) ?_
      refine lv_bipush (v := (-3)) hx hb dX3_logged_96 (by decide) ?_
      refine ret_i (wf := cw G g) go hw dX3_logged_98 ?_
      exact ⟨by simp [ldC, *], rfl⟩
    · skip
      have h16 := bI_0 h16
      refine lv_bipush (v := (-2)) hx hb dX3_logged_19 (by decide) ?_
      refine ret_i (wf := cw G g) go hw dX3_logged_21 ?_
      exact ⟨by simp [ldC, *], rfl⟩
  · skip
    have hkk : okE c0 k = false := by simpa using hk_k
    refine lv_aload_n hx hb dX3_logged_0 rfl (lv_at hl 0 rfl) ?_
    refine lv_iload_n hx hb dX3_logged_1 rfl (lv_at hl 1 rfl) ?_
    refine cal_Vq' (kX3_entryOf_f l G g x c0 hc hcs hc5 k hkk) go hw dX3_logged_2 (And.intro q559 (And.intro q1 q562)) q561 qs20 kyX3_entryOf ⟨Nat.le_of_ble_eq_true rfl, Nat.le_of_ble_eq_true rfl⟩ rc_X hl.1 rfl (Nat.le_of_ble_eq_true rfl) ⟨rfl, rfl⟩ ⟨Nat.le_of_ble_eq_true rfl, Nat.le_of_ble_eq_true rfl⟩ (fun H locs hw => ?_)
    refine lv_astoreN (lv' := [(4, .null), (0, .ref (g 0 0)), (1, .int k), (2, .int b), (3, .int w)]) hx hb dX3_logged_5 hl (by decide) rfl (fun ls hl => ?_)
    refine lv_aloadN hx hb dX3_logged_7 (lv_at hl 0 rfl) ?_
    refine lv_ifnullN (tgt := 19) hx hb dX3_logged_9 (by decide) ?_
    refine lv_bipush (v := (-2)) hx hb dX3_logged_19 (by decide) ?_
    refine ret_i (wf := cw G g) go hw dX3_logged_21 ?_
    exact ⟨by simp [ldC, *], rfl⟩

set_option maxHeartbeats 4000000 in
set_option maxRecDepth 100000 in
theorem kX3_behind (l : Launch) (G : Cx) (g : Nat → Nat → Nat) (x : Sg) (c0 : Nat) (hc : sI x 0 5 = nI c0) (hcs : c0 ≤ sN x) (hc5 : c0 ≤ 512) (k j : Int32) : Ci l G yX3_behind cX3_behind 6 .int (Rm 3 63) (cw G g) [.ref (g 0 0), .int k, .int j] x (fun r u => r = bhC x c0 k j ∧ u = x) := by
  refine Ci.mk (by decide) (Nat.le_of_ble_eq_true rfl) ?_
  intro p e s m below meth c A ls go hw hl
  generalize s.heap = H at hw ⊢
  generalize ([] : List Loc) = locs at hw ⊢
  have hx := go.1
  have hb := go.2.1
  have hl : lv_has ls 6 [(0, .ref (g 0 0)), (1, .int k), (2, .int j)] := hl
  by_cases hk_k : okE c0 k = true
  · skip
    obtain ⟨n, hn, rfl⟩ := okE_of hk_k hc5
    have cn : (nI (n + 1)).toNatClampNeg = n + 1 := nI_clamp (by omega)
    refine lv_aload_n hx hb dX3_behind_0 rfl (lv_at hl 0 rfl) ?_
    refine lv_iload_n hx hb dX3_behind_1 rfl (lv_at hl 1 rfl) ?_
    refine cal_Vq' (kX3_entryOf_t l G g x c0 hc hcs hc5 n hn) go hw dX3_behind_2 (And.intro q559 (And.intro q1 q562)) q561 qs20 kyX3_entryOf ⟨Nat.le_of_ble_eq_true rfl, Nat.le_of_ble_eq_true rfl⟩ rc_X hl.1 rfl (Nat.le_of_ble_eq_true rfl) ⟨rfl, rfl⟩ ⟨Nat.le_of_ble_eq_true rfl, Nat.le_of_ble_eq_true rfl⟩ (fun H locs hw => ?_)
    refine lv_astore_n (lv' := [(3, .ref (sE x n 0)), (0, .ref (g 0 0)), (1, .int (nI (n + 1))), (2, .int j)]) hx hb dX3_behind_5 rfl hl (by decide) rfl (fun ls hl => ?_)
    by_cases hk_j : okE c0 j = true
    · skip
      obtain ⟨q, hq, rfl⟩ := okE_of hk_j hc5
      have cq : (nI (q + 1)).toNatClampNeg = q + 1 := nI_clamp (by omega)
      refine lv_aload_n hx hb dX3_behind_6 rfl (lv_at hl 1 rfl) ?_
      refine lv_iload_n hx hb dX3_behind_7 rfl (lv_at hl 3 rfl) ?_
      refine cal_Vq' (kX3_entryOf_t l G g x c0 hc hcs hc5 q hq) go hw dX3_behind_8 (And.intro q559 (And.intro q1 q562)) q561 qs20 kyX3_entryOf ⟨Nat.le_of_ble_eq_true rfl, Nat.le_of_ble_eq_true rfl⟩ rc_X hl.1 rfl (Nat.le_of_ble_eq_true rfl) ⟨rfl, rfl⟩ ⟨Nat.le_of_ble_eq_true rfl, Nat.le_of_ble_eq_true rfl⟩ (fun H locs hw => ?_)
      refine lv_astore (lv' := [(4, .ref (sE x q 0)), (3, .ref (sE x n 0)), (0, .ref (g 0 0)), (1, .int (nI (n + 1))), (2, .int (nI (q + 1)))]) hx hb dX3_behind_11 hl (by decide) rfl (fun ls hl => ?_)
      refine lv_aload_n hx hb dX3_behind_13 rfl (lv_at hl 1 rfl) ?_
      refine lv_ifnull hx hb dX3_behind_14 ?_
      refine lv_aload hx hb dX3_behind_17 (lv_at hl 0 rfl) ?_
      refine lv_ifnull hx hb dX3_behind_19 ?_
      refine lv_iload_n hx hb dX3_behind_22 rfl (lv_at hl 4 rfl) ?_
      refine lv_iload_n hx hb dX3_behind_23 rfl (lv_at hl 3 rfl) ?_
      refine lv_icmp_lt (tgt := 30) hx hb dX3_behind_24 (by decide) (fun h24 => ?_) (fun h24 => ?_)
      · skip
        refine lv_aload_n hx hb dX3_behind_30 rfl (lv_at hl 1 rfl) ?_
        refine lv_iload_n hx hb dX3_behind_31 rfl (lv_at hl 4 rfl) ?_
        refine cal_Vi' (kX1_hasNoted l G g x n (Nat.lt_of_lt_of_le hn hcs) (nI (q + 1))) go hw dX3_behind_32 (And.intro q571 (And.intro q9 q574)) q572 q573 kyX1_hasNoted ⟨Nat.le_of_ble_eq_true rfl, Nat.le_of_ble_eq_true rfl⟩ (rc_E (x := x) (Nat.lt_of_lt_of_le hn hcs)) hl.1 rfl (Nat.le_of_ble_eq_true rfl) ⟨rfl, rfl⟩ ⟨Nat.le_of_ble_eq_true rfl, Nat.le_of_ble_eq_true rfl⟩ (fun H locs hw => ?_)
        refine lv_if_eq (tgt := 42) hx hb dX3_behind_35 (by decide) (fun h35 => ?_) (fun h35 => ?_)
        · skip
          have h35 := bI_0 h35
          refine lv_iconst (v := 0) hx hb dX3_behind_42 (by decide) ?_
          refine lv_istore (lv' := [(5, .int 0), (4, .ref (sE x q 0)), (3, .ref (sE x n 0)), (0, .ref (g 0 0)), (1, .int (nI (n + 1))), (2, .int (nI (q + 1)))]) hx hb dX3_behind_43 hl (by decide) rfl (fun ls hl => ?_)
          refine lv_aload_n hx hb dX3_behind_45 rfl (lv_at hl 2 rfl) ?_
          refine gEi (x := x) (n := n) (k := 4) (v := sI x (8 + n) 4) (Nat.lt_of_lt_of_le hn hcs) (by decide) rfl go hw dX3_behind_46 q339 ?_
          refine lv_aload hx hb dX3_behind_49 (lv_at hl 1 rfl) ?_
          refine gEi (x := x) (n := q) (k := 4) (v := sI x (8 + q) 4) (Nat.lt_of_lt_of_le hq hcs) (by decide) rfl go hw dX3_behind_51 q339 ?_
          refine lv_iand hx hb dX3_behind_54 ?_
          refine lv_if_eq (tgt := 64) hx hb dX3_behind_55 (by decide) (fun h55 => ?_) (fun h55 => ?_)
          · skip
            refine lv_aload_n hx hb dX3_behind_64 rfl (lv_at hl 2 rfl) ?_
            refine gEi (x := x) (n := n) (k := 4) (v := sI x (8 + n) 4) (Nat.lt_of_lt_of_le hn hcs) (by decide) rfl go hw dX3_behind_65 q339 ?_
            refine lv_aload hx hb dX3_behind_68 (lv_at hl 1 rfl) ?_
            refine gEi (x := x) (n := q) (k := 3) (v := sI x (8 + q) 3) (Nat.lt_of_lt_of_le hq hcs) (by decide) rfl go hw dX3_behind_70 q337 ?_
            refine lv_iand hx hb dX3_behind_73 ?_
            refine lv_if_eq (tgt := 83) hx hb dX3_behind_74 (by decide) (fun h74 => ?_) (fun h74 => ?_)
            · skip
              refine lv_iload hx hb dX3_behind_83 (lv_at hl 0 rfl) ?_
              refine ret_i (wf := cw G g) go hw dX3_behind_85 ?_
              exact ⟨by simp [bhC, bI, *], rfl⟩
            · skip
              refine lv_iload hx hb dX3_behind_77 (lv_at hl 0 rfl) ?_
              refine lv_iconst (v := 4) hx hb dX3_behind_79 (by decide) ?_
              refine lv_ior hx hb dX3_behind_80 ?_
              refine lv_istore (lv' := [(5, .int (0 ||| 4)), (4, .ref (sE x q 0)), (3, .ref (sE x n 0)), (0, .ref (g 0 0)), (1, .int (nI (n + 1))), (2, .int (nI (q + 1)))]) hx hb dX3_behind_81 hl (by decide) rfl (fun ls hl => ?_)
              refine lv_iload hx hb dX3_behind_83 (lv_at hl 0 rfl) ?_
              refine ret_i (wf := cw G g) go hw dX3_behind_85 ?_
              exact ⟨by simp [bhC, bI, *], rfl⟩
          · skip
            refine lv_iload hx hb dX3_behind_58 (lv_at hl 0 rfl) ?_
            refine lv_iconst (v := 2) hx hb dX3_behind_60 (by decide) ?_
            refine lv_ior hx hb dX3_behind_61 ?_
            refine lv_istore (lv' := [(5, .int (0 ||| 2)), (4, .ref (sE x q 0)), (3, .ref (sE x n 0)), (0, .ref (g 0 0)), (1, .int (nI (n + 1))), (2, .int (nI (q + 1)))]) hx hb dX3_behind_62 hl (by decide) rfl (fun ls hl => ?_)
            refine lv_aload_n hx hb dX3_behind_64 rfl (lv_at hl 2 rfl) ?_
            refine gEi (x := x) (n := n) (k := 4) (v := sI x (8 + n) 4) (Nat.lt_of_lt_of_le hn hcs) (by decide) rfl go hw dX3_behind_65 q339 ?_
            refine lv_aload hx hb dX3_behind_68 (lv_at hl 1 rfl) ?_
            refine gEi (x := x) (n := q) (k := 3) (v := sI x (8 + q) 3) (Nat.lt_of_lt_of_le hq hcs) (by decide) rfl go hw dX3_behind_70 q337 ?_
            refine lv_iand hx hb dX3_behind_73 ?_
            refine lv_if_eq (tgt := 83) hx hb dX3_behind_74 (by decide) (fun h74 => ?_) (fun h74 => ?_)
            · skip
              refine lv_iload hx hb dX3_behind_83 (lv_at hl 0 rfl) ?_
              refine ret_i (wf := cw G g) go hw dX3_behind_85 ?_
              exact ⟨by simp [bhC, bI, *], rfl⟩
            · skip
              refine lv_iload hx hb dX3_behind_77 (lv_at hl 0 rfl) ?_
              refine lv_iconst (v := 4) hx hb dX3_behind_79 (by decide) ?_
              refine lv_ior hx hb dX3_behind_80 ?_
              refine lv_istore (lv' := [(5, .int ((0 ||| 2) ||| 4)), (4, .ref (sE x q 0)), (3, .ref (sE x n 0)), (0, .ref (g 0 0)), (1, .int (nI (n + 1))), (2, .int (nI (q + 1)))]) hx hb dX3_behind_81 hl (by decide) rfl (fun ls hl => ?_)
              refine lv_iload hx hb dX3_behind_83 (lv_at hl 0 rfl) ?_
              refine ret_i (wf := cw G g) go hw dX3_behind_85 ?_
              exact ⟨by simp [bhC, bI, *], rfl⟩
        · skip
          have h35 := bI_1 h35
          refine lv_iconst (v := 1) hx hb dX3_behind_38 (by decide) ?_
          refine lv_goto (tgt := 43) hx hb dX3_behind_39 (by decide) ?_
          refine lv_istore (lv' := [(5, .int 1), (4, .ref (sE x q 0)), (3, .ref (sE x n 0)), (0, .ref (g 0 0)), (1, .int (nI (n + 1))), (2, .int (nI (q + 1)))]) hx hb dX3_behind_43 hl (by decide) rfl (fun ls hl => ?_)
          refine lv_aload_n hx hb dX3_behind_45 rfl (lv_at hl 2 rfl) ?_
          refine gEi (x := x) (n := n) (k := 4) (v := sI x (8 + n) 4) (Nat.lt_of_lt_of_le hn hcs) (by decide) rfl go hw dX3_behind_46 q339 ?_
          refine lv_aload hx hb dX3_behind_49 (lv_at hl 1 rfl) ?_
          refine gEi (x := x) (n := q) (k := 4) (v := sI x (8 + q) 4) (Nat.lt_of_lt_of_le hq hcs) (by decide) rfl go hw dX3_behind_51 q339 ?_
          refine lv_iand hx hb dX3_behind_54 ?_
          refine lv_if_eq (tgt := 64) hx hb dX3_behind_55 (by decide) (fun h55 => ?_) (fun h55 => ?_)
          · skip
            refine lv_aload_n hx hb dX3_behind_64 rfl (lv_at hl 2 rfl) ?_
            refine gEi (x := x) (n := n) (k := 4) (v := sI x (8 + n) 4) (Nat.lt_of_lt_of_le hn hcs) (by decide) rfl go hw dX3_behind_65 q339 ?_
            refine lv_aload hx hb dX3_behind_68 (lv_at hl 1 rfl) ?_
            refine gEi (x := x) (n := q) (k := 3) (v := sI x (8 + q) 3) (Nat.lt_of_lt_of_le hq hcs) (by decide) rfl go hw dX3_behind_70 q337 ?_
            refine lv_iand hx hb dX3_behind_73 ?_
            refine lv_if_eq (tgt := 83) hx hb dX3_behind_74 (by decide) (fun h74 => ?_) (fun h74 => ?_)
            · skip
              refine lv_iload hx hb dX3_behind_83 (lv_at hl 0 rfl) ?_
              refine ret_i (wf := cw G g) go hw dX3_behind_85 ?_
              exact ⟨by simp [bhC, bI, *], rfl⟩
            · skip
              refine lv_iload hx hb dX3_behind_77 (lv_at hl 0 rfl) ?_
              refine lv_iconst (v := 4) hx hb dX3_behind_79 (by decide) ?_
              refine lv_ior hx hb dX3_behind_80 ?_
              refine lv_istore (lv' := [(5, .int (1 ||| 4)), (4, .ref (sE x q 0)), (3, .ref (sE x n 0)), (0, .ref (g 0 0)), (1, .int (nI (n + 1))), (2, .int (nI (q + 1)))]) hx hb dX3_behind_81 hl (by decide) rfl (fun ls hl => ?_)
              refine lv_iload hx hb dX3_behind_83 (lv_at hl 0 rfl) ?_
              refine ret_i (wf := cw G g) go hw dX3_behind_85 ?_
              exact ⟨by simp [bhC, bI, *], rfl⟩
          · skip
            refine lv_iload hx hb dX3_behind_58 (lv_at hl 0 rfl) ?_
            refine lv_iconst (v := 2) hx hb dX3_behind_60 (by decide) ?_
            refine lv_ior hx hb dX3_behind_61 ?_
            refine lv_istore (lv' := [(5, .int (1 ||| 2)), (4, .ref (sE x q 0)), (3, .ref (sE x n 0)), (0, .ref (g 0 0)), (1, .int (nI (n + 1))), (2, .int (nI (q + 1)))]) hx hb dX3_behind_62 hl (by decide) rfl (fun ls hl => ?_)
            refine lv_aload_n hx hb dX3_behind_64 rfl (lv_at hl 2 rfl) ?_
            refine gEi (x := x) (n := n) (k := 4) (v := sI x (8 + n) 4) (Nat.lt_of_lt_of_le hn hcs) (by decide) rfl go hw dX3_behind_65 q339 ?_
            refine lv_aload hx hb dX3_behind_68 (lv_at hl 1 rfl) ?_
            refine gEi (x := x) (n := q) (k := 3) (v := sI x (8 + q) 3) (Nat.lt_of_lt_of_le hq hcs) (by decide) rfl go hw dX3_behind_70 q337 ?_
            refine lv_iand hx hb dX3_behind_73 ?_
            refine lv_if_eq (tgt := 83) hx hb dX3_behind_74 (by decide) (fun h74 => ?_) (fun h74 => ?_)
            · skip
              refine lv_iload hx hb dX3_behind_83 (lv_at hl 0 rfl) ?_
              refine ret_i (wf := cw G g) go hw dX3_behind_85 ?_
              exact ⟨by simp [bhC, bI, *], rfl⟩
            · skip
              refine lv_iload hx hb dX3_behind_77 (lv_at hl 0 rfl) ?_
              refine lv_iconst (v := 4) hx hb dX3_behind_79 (by decide) ?_
              refine lv_ior hx hb dX3_behind_80 ?_
              refine lv_istore (lv' := [(5, .int ((1 ||| 2) ||| 4)), (4, .ref (sE x q 0)), (3, .ref (sE x n 0)), (0, .ref (g 0 0)), (1, .int (nI (n + 1))), (2, .int (nI (q + 1)))]) hx hb dX3_behind_81 hl (by decide) rfl (fun ls hl => ?_)
              refine lv_iload hx hb dX3_behind_83 (lv_at hl 0 rfl) ?_
              refine ret_i (wf := cw G g) go hw dX3_behind_85 ?_
              exact ⟨by simp [bhC, bI, *], rfl⟩
      · skip
        refine lv_bipush (v := (-2)) hx hb dX3_behind_27 (by decide) ?_
        refine ret_i (wf := cw G g) go hw dX3_behind_29 ?_
        exact ⟨by simp [bhC, bI, *], rfl⟩
    · skip
      have hkj : okE c0 j = false := by simpa using hk_j
      refine lv_aload_n hx hb dX3_behind_6 rfl (lv_at hl 1 rfl) ?_
      refine lv_iload_n hx hb dX3_behind_7 rfl (lv_at hl 3 rfl) ?_
      refine cal_Vq' (kX3_entryOf_f l G g x c0 hc hcs hc5 j hkj) go hw dX3_behind_8 (And.intro q559 (And.intro q1 q562)) q561 qs20 kyX3_entryOf ⟨Nat.le_of_ble_eq_true rfl, Nat.le_of_ble_eq_true rfl⟩ rc_X hl.1 rfl (Nat.le_of_ble_eq_true rfl) ⟨rfl, rfl⟩ ⟨Nat.le_of_ble_eq_true rfl, Nat.le_of_ble_eq_true rfl⟩ (fun H locs hw => ?_)
      refine lv_astoreN (lv' := [(4, .null), (3, .ref (sE x n 0)), (0, .ref (g 0 0)), (1, .int (nI (n + 1))), (2, .int j)]) hx hb dX3_behind_11 hl (by decide) rfl (fun ls hl => ?_)
      refine lv_aload_n hx hb dX3_behind_13 rfl (lv_at hl 1 rfl) ?_
      refine lv_ifnull hx hb dX3_behind_14 ?_
      refine lv_aloadN hx hb dX3_behind_17 (lv_at hl 0 rfl) ?_
      refine lv_ifnullN (tgt := 27) hx hb dX3_behind_19 (by decide) ?_
      refine lv_bipush (v := (-2)) hx hb dX3_behind_27 (by decide) ?_
      refine ret_i (wf := cw G g) go hw dX3_behind_29 ?_
      exact ⟨by simp [bhC, bI, *], rfl⟩
  · skip
    have hkk : okE c0 k = false := by simpa using hk_k
    refine lv_aload_n hx hb dX3_behind_0 rfl (lv_at hl 0 rfl) ?_
    refine lv_iload_n hx hb dX3_behind_1 rfl (lv_at hl 1 rfl) ?_
    refine cal_Vq' (kX3_entryOf_f l G g x c0 hc hcs hc5 k hkk) go hw dX3_behind_2 (And.intro q559 (And.intro q1 q562)) q561 qs20 kyX3_entryOf ⟨Nat.le_of_ble_eq_true rfl, Nat.le_of_ble_eq_true rfl⟩ rc_X hl.1 rfl (Nat.le_of_ble_eq_true rfl) ⟨rfl, rfl⟩ ⟨Nat.le_of_ble_eq_true rfl, Nat.le_of_ble_eq_true rfl⟩ (fun H locs hw => ?_)
    refine lv_astore_nN (lv' := [(3, .null), (0, .ref (g 0 0)), (1, .int k), (2, .int j)]) hx hb dX3_behind_5 rfl hl (by decide) rfl (fun ls hl => ?_)
    by_cases hk_j : okE c0 j = true
    · skip
      obtain ⟨q, hq, rfl⟩ := okE_of hk_j hc5
      have cq : (nI (q + 1)).toNatClampNeg = q + 1 := nI_clamp (by omega)
      refine lv_aload_n hx hb dX3_behind_6 rfl (lv_at hl 1 rfl) ?_
      refine lv_iload_n hx hb dX3_behind_7 rfl (lv_at hl 3 rfl) ?_
      refine cal_Vq' (kX3_entryOf_t l G g x c0 hc hcs hc5 q hq) go hw dX3_behind_8 (And.intro q559 (And.intro q1 q562)) q561 qs20 kyX3_entryOf ⟨Nat.le_of_ble_eq_true rfl, Nat.le_of_ble_eq_true rfl⟩ rc_X hl.1 rfl (Nat.le_of_ble_eq_true rfl) ⟨rfl, rfl⟩ ⟨Nat.le_of_ble_eq_true rfl, Nat.le_of_ble_eq_true rfl⟩ (fun H locs hw => ?_)
      refine lv_astore (lv' := [(4, .ref (sE x q 0)), (3, .null), (0, .ref (g 0 0)), (1, .int k), (2, .int (nI (q + 1)))]) hx hb dX3_behind_11 hl (by decide) rfl (fun ls hl => ?_)
      refine lv_aload_nN hx hb dX3_behind_13 rfl (lv_at hl 1 rfl) ?_
      refine lv_ifnullN (tgt := 27) hx hb dX3_behind_14 (by decide) ?_
      refine lv_bipush (v := (-2)) hx hb dX3_behind_27 (by decide) ?_
      refine ret_i (wf := cw G g) go hw dX3_behind_29 ?_
      exact ⟨by simp [bhC, bI, *], rfl⟩
    · skip
      have hkj : okE c0 j = false := by simpa using hk_j
      refine lv_aload_n hx hb dX3_behind_6 rfl (lv_at hl 1 rfl) ?_
      refine lv_iload_n hx hb dX3_behind_7 rfl (lv_at hl 3 rfl) ?_
      refine cal_Vq' (kX3_entryOf_f l G g x c0 hc hcs hc5 j hkj) go hw dX3_behind_8 (And.intro q559 (And.intro q1 q562)) q561 qs20 kyX3_entryOf ⟨Nat.le_of_ble_eq_true rfl, Nat.le_of_ble_eq_true rfl⟩ rc_X hl.1 rfl (Nat.le_of_ble_eq_true rfl) ⟨rfl, rfl⟩ ⟨Nat.le_of_ble_eq_true rfl, Nat.le_of_ble_eq_true rfl⟩ (fun H locs hw => ?_)
      refine lv_astoreN (lv' := [(4, .null), (3, .null), (0, .ref (g 0 0)), (1, .int k), (2, .int j)]) hx hb dX3_behind_11 hl (by decide) rfl (fun ls hl => ?_)
      refine lv_aload_nN hx hb dX3_behind_13 rfl (lv_at hl 1 rfl) ?_
      refine lv_ifnullN (tgt := 27) hx hb dX3_behind_14 (by decide) ?_
      refine lv_bipush (v := (-2)) hx hb dX3_behind_27 (by decide) ?_
      refine ret_i (wf := cw G g) go hw dX3_behind_29 ?_
      exact ⟨by simp [bhC, bI, *], rfl⟩

set_option maxHeartbeats 4000000 in
set_option maxRecDepth 100000 in
theorem kX3_count (l : Launch) (G : Cx) (g : Nat → Nat → Nat) (x : Sg) (w : Int32) : Ci l G yX3_count cX3_count 2 .int (Rm 1 26) (cw G g) [.ref (g 0 0), .int w] x (fun r u => r = coC x w ∧ u = x) := by
  refine Ci.mk (by decide) (Nat.le_of_ble_eq_true rfl) ?_
  intro p e s m below meth c A ls go hw hl
  generalize s.heap = H at hw ⊢
  generalize ([] : List Loc) = locs at hw ⊢
  have hx := go.1
  have hb := go.2.1
  have hl : lv_has ls 2 [(0, .ref (g 0 0)), (1, .int w)] := hl
  refine lv_iload_n hx hb dX3_count_0 rfl (lv_at hl 1 rfl) ?_
  by_cases w1_0 : w = 0
  · refine toI w1_0 ?_
    refine lv_tableIn (off := 59) (tgt := 60) hx hb dX3_count_1 (by decide) (by decide) (by decide) (by decide) ?_
    refine lv_aload_n hx hb dX3_count_60 rfl (lv_at hl 0 rfl) ?_
    refine gXi (k := 5) (v := sI x 0 5) ⟨by decide, by decide⟩ rfl go hw dX3_count_61 q132 ?_
    refine ret_i (wf := cw G g) go hw dX3_count_64 ?_
    exact ⟨by simp [coC, *], rfl⟩
  by_cases w1_1 : w = 1
  · refine toI w1_1 ?_
    refine lv_tableIn (off := 64) (tgt := 65) hx hb dX3_count_1 (by decide) (by decide) (by decide) (by decide) ?_
    refine lv_aload_n hx hb dX3_count_65 rfl (lv_at hl 0 rfl) ?_
    refine lv_iconst (v := 1) hx hb dX3_count_66 (by decide) ?_
    refine cal_Vi' (kX3_howMany l G g x 1) go hw dX3_count_67 (And.intro q317 (And.intro q1 q320)) q319 qs2 kyX3_howMany ⟨Nat.le_of_ble_eq_true rfl, Nat.le_of_ble_eq_true rfl⟩ rc_X hl.1 rfl (Nat.le_of_ble_eq_true rfl) ⟨rfl, rfl⟩ ⟨Nat.le_of_ble_eq_true rfl, Nat.le_of_ble_eq_true rfl⟩ (fun H locs hw => ?_)
    refine ret_i (wf := cw G g) go hw dX3_count_70 ?_
    exact ⟨by simp [coC, *], rfl⟩
  by_cases w1_2 : w = 2
  · refine toI w1_2 ?_
    refine lv_tableIn (off := 70) (tgt := 71) hx hb dX3_count_1 (by decide) (by decide) (by decide) (by decide) ?_
    refine lv_aload_n hx hb dX3_count_71 rfl (lv_at hl 0 rfl) ?_
    refine lv_iconst (v := 3) hx hb dX3_count_72 (by decide) ?_
    refine cal_Vi' (kX3_howMany l G g x 3) go hw dX3_count_73 (And.intro q317 (And.intro q1 q320)) q319 qs2 kyX3_howMany ⟨Nat.le_of_ble_eq_true rfl, Nat.le_of_ble_eq_true rfl⟩ rc_X hl.1 rfl (Nat.le_of_ble_eq_true rfl) ⟨rfl, rfl⟩ ⟨Nat.le_of_ble_eq_true rfl, Nat.le_of_ble_eq_true rfl⟩ (fun H locs hw => ?_)
    refine ret_i (wf := cw G g) go hw dX3_count_76 ?_
    exact ⟨by simp [coC, *], rfl⟩
  by_cases w1_3 : w = 3
  · refine toI w1_3 ?_
    refine lv_tableIn (off := 76) (tgt := 77) hx hb dX3_count_1 (by decide) (by decide) (by decide) (by decide) ?_
    refine lv_aload_n hx hb dX3_count_77 rfl (lv_at hl 0 rfl) ?_
    refine lv_iconst (v := 2) hx hb dX3_count_78 (by decide) ?_
    refine cal_Vi' (kX3_howMany l G g x 2) go hw dX3_count_79 (And.intro q317 (And.intro q1 q320)) q319 qs2 kyX3_howMany ⟨Nat.le_of_ble_eq_true rfl, Nat.le_of_ble_eq_true rfl⟩ rc_X hl.1 rfl (Nat.le_of_ble_eq_true rfl) ⟨rfl, rfl⟩ ⟨Nat.le_of_ble_eq_true rfl, Nat.le_of_ble_eq_true rfl⟩ (fun H locs hw => ?_)
    refine ret_i (wf := cw G g) go hw dX3_count_82 ?_
    exact ⟨by simp [coC, *], rfl⟩
  by_cases w1_4 : w = 4
  · refine toI w1_4 ?_
    refine lv_tableIn (off := 82) (tgt := 83) hx hb dX3_count_1 (by decide) (by decide) (by decide) (by decide) ?_
    refine lv_aload_n hx hb dX3_count_83 rfl (lv_at hl 0 rfl) ?_
    refine gXi (k := 9) (v := sI x 0 9) ⟨by decide, by decide⟩ rfl go hw dX3_count_84 q136 ?_
    refine ret_i (wf := cw G g) go hw dX3_count_87 ?_
    exact ⟨by simp [coC, *], rfl⟩
  by_cases w1_5 : w = 5
  · refine toI w1_5 ?_
    refine lv_tableIn (off := 87) (tgt := 88) hx hb dX3_count_1 (by decide) (by decide) (by decide) (by decide) ?_
    refine lv_aload_n hx hb dX3_count_88 rfl (lv_at hl 0 rfl) ?_
    refine gXi (k := 10) (v := sI x 0 10) ⟨by decide, by decide⟩ rfl go hw dX3_count_89 q137 ?_
    refine ret_i (wf := cw G g) go hw dX3_count_92 ?_
    exact ⟨by simp [coC, *], rfl⟩
  by_cases w1_6 : w = 6
  · refine toI w1_6 ?_
    refine lv_tableIn (off := 92) (tgt := 93) hx hb dX3_count_1 (by decide) (by decide) (by decide) (by decide) ?_
    refine lv_aload_n hx hb dX3_count_93 rfl (lv_at hl 0 rfl) ?_
    refine gXi (k := 11) (v := sI x 0 11) ⟨by decide, by decide⟩ rfl go hw dX3_count_94 q138 ?_
    refine ret_i (wf := cw G g) go hw dX3_count_97 ?_
    exact ⟨by simp [coC, *], rfl⟩
  by_cases w1_7 : w = 7
  · refine toI w1_7 ?_
    refine lv_tableIn (off := 97) (tgt := 98) hx hb dX3_count_1 (by decide) (by decide) (by decide) (by decide) ?_
    refine lv_aload_n hx hb dX3_count_98 rfl (lv_at hl 0 rfl) ?_
    refine gXi (k := 7) (v := sI x 0 7) ⟨by decide, by decide⟩ rfl go hw dX3_count_99 q134 ?_
    refine ret_i (wf := cw G g) go hw dX3_count_102 ?_
    exact ⟨by simp [coC, *], rfl⟩
  by_cases w1_8 : w = 8
  · refine toI w1_8 ?_
    refine lv_tableIn (off := 102) (tgt := 103) hx hb dX3_count_1 (by decide) (by decide) (by decide) (by decide) ?_
    refine lv_aload_n hx hb dX3_count_103 rfl (lv_at hl 0 rfl) ?_
    refine gXi (k := 6) (v := sI x 0 6) ⟨by decide, by decide⟩ rfl go hw dX3_count_104 q133 ?_
    refine ret_i (wf := cw G g) go hw dX3_count_107 ?_
    exact ⟨by simp [coC, *], rfl⟩
  by_cases w1_9 : w = 9
  · refine toI w1_9 ?_
    refine lv_tableIn (off := 107) (tgt := 108) hx hb dX3_count_1 (by decide) (by decide) (by decide) (by decide) ?_
    refine lv_aload_n hx hb dX3_count_108 rfl (lv_at hl 0 rfl) ?_
    refine gX (k := 0) (v := .ref (g 1 0)) rfl (by decide) rfl go hw dX3_count_109 q127 ?_
    refine gTi (k := 1) (v := sI x 1 1) (by decide) rfl go hw dX3_count_112 q27 ?_
    refine ret_i (wf := cw G g) go hw dX3_count_115 ?_
    exact ⟨by simp [coC, *], rfl⟩
  by_cases w1_10 : w = 10
  · refine toI w1_10 ?_
    refine lv_tableIn (off := 115) (tgt := 116) hx hb dX3_count_1 (by decide) (by decide) (by decide) (by decide) ?_
    refine lv_aload_n hx hb dX3_count_116 rfl (lv_at hl 0 rfl) ?_
    refine cal_Vi' (kX3_allValues l G g x) go hw dX3_count_117 (And.intro q580 (And.intro q1 q583)) q582 qs21 kyX3_allValues ⟨Nat.le_of_ble_eq_true rfl, Nat.le_of_ble_eq_true rfl⟩ rc_X hl.1 rfl (Nat.le_of_ble_eq_true rfl) ⟨rfl, rfl⟩ ⟨Nat.le_of_ble_eq_true rfl, Nat.le_of_ble_eq_true rfl⟩ (fun H locs hw => ?_)
    refine ret_i (wf := cw G g) go hw dX3_count_120 ?_
    exact ⟨by simp [coC, *], rfl⟩
  refine lv_tableOut (tgt := 121) hx hb dX3_count_1 (by have z0 := lv_neT (a := 0) w1_0 rfl; have z1 := lv_neT (a := 1) w1_1 rfl; have z2 := lv_neT (a := 2) w1_2 rfl; have z3 := lv_neT (a := 3) w1_3 rfl; have z4 := lv_neT (a := 4) w1_4 rfl; have z5 := lv_neT (a := 5) w1_5 rfl; have z6 := lv_neT (a := 6) w1_6 rfl; have z7 := lv_neT (a := 7) w1_7 rfl; have z8 := lv_neT (a := 8) w1_8 rfl; have z9 := lv_neT (a := 9) w1_9 rfl; have z10 := lv_neT (a := 10) w1_10 rfl; omega) (by decide) ?_
  refine lv_bipush (v := (-3)) hx hb dX3_count_121 (by decide) ?_
  refine ret_i (wf := cw G g) go hw dX3_count_123 ?_
  exact ⟨by simp [coC, *], rfl⟩
