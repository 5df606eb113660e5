set_option maxHeartbeats 4000000 in
set_option maxRecDepth 100000 in
theorem kX2_parse (l : Launch) (G : Cx) (g : Nat → Nat → Nat) (x : Sg) (t : Nat) (ht : sI x 1 1 = nI t) (ht2 : t ≤ 200) : Ci l G yX2_parse cX2_parse 2 .int (Rm 7 153) (cw G g) [.ref (g 1 0)] x (fun r u => r = (paC x t).1 ∧ u = (paC x t).2) := by
  refine Ci.mk (by decide) (Nat.le_of_ble_eq_true rfl) ?_
  intro p e s m below meth c A ls go hw hl
  generalize s.heap = H at hw ⊢
  generalize ([] : List Loc) = locs at hw ⊢
  have hx := go.1
  have hb := go.2.1
  have hl : lv_has ls 2 [(0, .ref (g 1 0))] := hl
  refine lv_aload_n hx hb dX2_parse_0 rfl (lv_at hl 0 rfl) ?_
  refine lv_iconst (v := 0) hx hb dX2_parse_1 (by decide) ?_
  refine pT (k := 4) (by decide) go hw dX2_parse_2 q30 (fun H locs hw => ?_)
  refine lv_aload_n hx hb dX2_parse_5 rfl (lv_at hl 0 rfl) ?_
  refine lv_iconst (v := 0) hx hb dX2_parse_6 (by decide) ?_
  refine pT (k := 6) (by decide) go hw dX2_parse_7 q33 (fun H locs hw => ?_)
  refine lv_aload_n hx hb dX2_parse_10 rfl (lv_at hl 0 rfl) ?_
  refine cal_Vv' (kX2_nextToken l G g (pI (pI x 1 4 0) 1 6 0) t ht ht2 0 (Nat.zero_le _) sI_eq) go hw dX2_parse_11 (And.intro q184 (And.intro q2 q187)) q185 q186 kyX2_nextToken ⟨Nat.le_of_ble_eq_true rfl, Nat.le_of_ble_eq_true rfl⟩ rc_T hl.1 rfl (Nat.le_of_ble_eq_true rfl) ⟨rfl, rfl⟩ ⟨Nat.le_of_ble_eq_true rfl, Nat.le_of_ble_eq_true rfl⟩ (fun H locs hw => ?_)
  refine lv_iconst (v := 0) hx hb dX2_parse_14 (by decide) ?_
  refine lv_istore_n (lv' := [(1, .int 0), (0, .ref (g 1 0))]) hx hb dX2_parse_15 rfl hl (by decide) rfl (fun ls hl => ?_)
  rw [show stT (pI (pI x 1 4 0) 1 6 0) t (tkS (sA (pI (pI x 1 4 0) 1 6 0) 1 0) t 0) = (paS x t 0).2 from by rfl] at hw
  have hl0 : lv_has ls 2 [(0, .ref (g 1 0)), (1, .int (nI 0))] := lv_to (lv_sub (l' := [(0, .ref (g 1 0)), (1, .int 0)]) hl [1, 0] rfl) (lr (lc (show (0 : Int32) = nI 0 from rfl) rfl))
  refine loop_up (N := 23) (P := fun i H locs ls => Wd G A s H locs (cw G g ((paS x t i).2)) ∧ lv_has ls 2 [(0, .ref (g 1 0)), (1, .int (nI i))] ∧ paR (sA x 1 0) t (24 - i) i (paS x t i).1 (paS x t i).2 = paC x t) (X := fun H locs ls => W p l e (Rm 7 153) s m ([.ref (g 1 0)] : List Value).toArray below meth c H locs 0 0 (MQ below (va_Qi (fun r u => r = (paC x t).1 ∧ u = (paC x t).2) (PostW G (cw G g) A) A) ([.ref (g 1 0)] : List Value).toArray s (Rm 7 153).cells (Rm 7 153).slots A) (F0 m 16 ls [])) ?_ 0 (by omega) H locs ls ⟨hw, hl0, rfl⟩
  clear hl0 hl hw
  intro i hi ih H locs ls hP
  obtain ⟨hw, hl, hE0⟩ := hP
  refine lv_iload_n hx hb dX2_parse_16 rfl (lv_at hl 1 rfl) ?_
  refine lv_bipush (v := 24) hx hb dX2_parse_17 (by decide) ?_
  refine lv_icmp_ge (tgt := 92) hx hb dX2_parse_19 (by decide) (fun h19 => absurd h19 (by exact nI_ge (b := 24) (by omega) (by decide))) (fun h19 => ?_)
  refine lv_aload_n hx hb dX2_parse_22 rfl (lv_at hl 0 rfl) ?_
  refine lv_iload_n hx hb dX2_parse_23 rfl (lv_at hl 1 rfl) ?_
  refine cal_Vi' (kX2_takeClause l G g (paS x t i).2 t ((paS_I x t 1 1 (by omega) i).trans ht) ht2 (paS x t i).1 (paS_t x t i) (paS_5 x t i) (paS_6 x t i) i (by omega)) go hw dX2_parse_24 (And.intro q201 (And.intro q2 q204)) q202 q203 kyX2_takeClause ⟨Nat.le_of_ble_eq_true rfl, Nat.le_of_ble_eq_true rfl⟩ rc_T hl.1 rfl (Nat.le_of_ble_eq_true rfl) ⟨rfl, rfl⟩ ⟨Nat.le_of_ble_eq_true rfl, Nat.le_of_ble_eq_true rfl⟩ (fun H locs hw => ?_)
  refine lv_if_ne (tgt := 35) hx hb dX2_parse_27 (by decide) (fun h27 => ?_) (fun h27 => ?_)
  · skip
    have h27 := bI_1 h27
    refine lv_aload_n hx hb dX2_parse_35 rfl (lv_at hl 0 rfl) ?_
    refine lv_iload_n hx hb dX2_parse_36 rfl (lv_at hl 1 rfl) ?_
    refine lv_iconst (v := 1) hx hb dX2_parse_37 (by decide) ?_
    refine lv_iadd hx hb dX2_parse_38 ?_
    refine toI (show (nI i) + 1 = nI (i + 1) from by exact nI_1 i) ?_
    refine pT (k := 4) (by decide) go hw dX2_parse_39 q30 (fun H locs hw => ?_)
    refine lv_aload_n hx hb dX2_parse_42 rfl (lv_at hl 0 rfl) ?_
    refine gTi (k := 5) (v := nI (tcT (paS x t i).2 t i (paS x t i).1)) (by decide) ((sI_ne (by omega)).trans (tcC_5 (paS_5 x t i))) go hw dX2_parse_43 q32 ?_
    refine lv_aload_n hx hb dX2_parse_46 rfl (lv_at hl 0 rfl) ?_
    refine gTi (k := 1) (v := nI t) (by decide) ((sI_ne (by omega)).trans ((tcC_I _ _ _ _ 1 1 (by omega)).trans ((paS_I x t 1 1 (by omega) i).trans ht))) go hw dX2_parse_47 q26 ?_
    refine lv_icmp_lt (tgt := 55) hx hb dX2_parse_50 (by decide) (fun h50 => ?_) (fun h50 => ?_)
    · skip
      have h50b : ¬ t ≤ (tcT (paS x t i).2 t i (paS x t i).1) := fun q => nI_nlt q (by have := tcT_t (x := (paS x t i).2) (cl := i) (paS_t x t i); omega) h50
      refine lv_aload_n hx hb dX2_parse_55 rfl (lv_at hl 0 rfl) ?_
      refine lv_aload_n hx hb dX2_parse_56 rfl (lv_at hl 0 rfl) ?_
      refine gTi (k := 5) (v := nI (tcT (paS x t i).2 t i (paS x t i).1)) (by decide) ((sI_ne (by omega)).trans (tcC_5 (paS_5 x t i))) go hw dX2_parse_57 q32 ?_
      refine cal_Vi' (kX2_letterAt l G g (pI ((tcC (paS x t i).2 t i (paS x t i).1).2) 1 4 (nI (i + 1))) t ((tcC_I _ _ _ _ 1 1 (by omega)).trans ((paS_I x t 1 1 (by omega) i).trans ht)) ht2 (tcT (paS x t i).2 t i (paS x t i).1) (by have := tcT_t (x := (paS x t i).2) (cl := i) (paS_t x t i); omega)) go hw dX2_parse_60 (And.intro q188 (And.intro q2 q191)) q189 q190 kyX2_letterAt ⟨Nat.le_of_ble_eq_true rfl, Nat.le_of_ble_eq_true rfl⟩ rc_T hl.1 rfl (Nat.le_of_ble_eq_true rfl) ⟨rfl, rfl⟩ ⟨Nat.le_of_ble_eq_true rfl, Nat.le_of_ble_eq_true rfl⟩ (fun H locs hw => ?_)
      refine toI (show ltA (sA (pI ((tcC (paS x t i).2 t i (paS x t i).1).2) 1 4 (nI (i + 1))) 1 0) t (tcT (paS x t i).2 t i (paS x t i).1) = sA x 1 0 (tcT (paS x t i).2 t i (paS x t i).1) from by rw [ltA, if_pos (by omega)]; exact congrFun ((tcC_L _ _ _ _).trans (paS_L x t i)) _) ?_
      refine lv_bipush (v := 59) hx hb dX2_parse_63 (by decide) ?_
      refine lv_icmp_ne (tgt := 77) hx hb dX2_parse_65 (by decide) (fun h65 => ?_) (fun h65 => ?_)
      · skip
        refine lv_aload_n hx hb dX2_parse_77 rfl (lv_at hl 0 rfl) ?_
        refine gTi (k := 5) (v := nI (tcT (paS x t i).2 t i (paS x t i).1)) (by decide) ((sI_ne (by omega)).trans (tcC_5 (paS_5 x t i))) go hw dX2_parse_78 q32 ?_
        refine ret_i (wf := cw G g) go hw dX2_parse_81 ?_
        rw [show 24 - i = (23 - i) + 1 by omega, paR] at hE0
        rw [if_pos h27, if_neg h50b, if_neg (fun q => h65 q.1)] at hE0
        exact ⟨by rw [← hE0], by rw [← hE0]⟩
      · skip
        refine lv_aload_n hx hb dX2_parse_68 rfl (lv_at hl 0 rfl) ?_
        refine gTi (k := 4) (v := nI (i + 1)) (by decide) sI_eq go hw dX2_parse_69 q30 ?_
        refine lv_bipush (v := 24) hx hb dX2_parse_72 (by decide) ?_
        refine lv_icmp_ne (tgt := 82) hx hb dX2_parse_74 (by decide) (fun h74 => ?_) (fun h74 => ?_)
        · skip
          refine lv_aload_n hx hb dX2_parse_82 rfl (lv_at hl 0 rfl) ?_
          refine cal_Vv' (kX2_nextToken l G g (pI ((tcC (paS x t i).2 t i (paS x t i).1).2) 1 4 (nI (i + 1))) t ((tcC_I _ _ _ _ 1 1 (by omega)).trans ((paS_I x t 1 1 (by omega) i).trans ht)) ht2 (tkE (sA x 1 0) t (tcT (paS x t i).2 t i (paS x t i).1)) (tkE_b (tcT_t (paS_t x t i))).2 ((tcC_6 (paS_6 x t i)).trans (by rw [paS_L]))) go hw dX2_parse_83 (And.intro q184 (And.intro q2 q187)) q185 q186 kyX2_nextToken ⟨Nat.le_of_ble_eq_true rfl, Nat.le_of_ble_eq_true rfl⟩ rc_T hl.1 rfl (Nat.le_of_ble_eq_true rfl) ⟨rfl, rfl⟩ ⟨Nat.le_of_ble_eq_true rfl, Nat.le_of_ble_eq_true rfl⟩ (fun H locs hw => ?_)
          refine lv_iinc (v := nI (i + 1)) (lv' := [(1, .int (nI (i + 1))), (0, .ref (g 1 0))]) hx hb dX2_parse_86 hl (k := 1) rfl (nI_1 _) (by decide) rfl (fun ls hl => ?_)
          refine lv_goto (tgt := 16) hx hb dX2_parse_89 (by decide) ?_
          have h74b : ¬ i + 1 = 24 := fun q => h74 (by rw [q]; rfl)
          have hE9 : paR (sA x 1 0) t (24 - (i + 1)) (i + 1) (paS x t (i + 1)).1 (paS x t (i + 1)).2 = paC x t := by
            rw [show 24 - i = (23 - i) + 1 by omega, paR] at hE0
            rw [if_pos h27, if_neg h50b, if_pos ⟨h65, h74b⟩] at hE0
            rw [show 24 - (i + 1) = 23 - i by omega]
            exact hE0
          have hl9 : lv_has ls 2 [(0, .ref (g 1 0)), (1, .int (nI (i + 1)))] := lv_sub hl [1, 0] rfl
          rw [show stT (pI ((tcC (paS x t i).2 t i (paS x t i).1).2) 1 4 (nI (i + 1))) t (tkS (sA (pI ((tcC (paS x t i).2 t i (paS x t i).1).2) 1 4 (nI (i + 1))) 1 0) t (tkE (sA x 1 0) t (tcT (paS x t i).2 t i (paS x t i).1))) = (paS x t (i + 1)).2 from by show stT _ t (tkS (sA (tcC (paS x t i).2 t i (paS x t i).1).2 1 0) t _) = _; rw [tcC_L, paS_L]; rfl] at hw
          exact ih _ _ _ (by omega) ⟨hw, hl9, hE9⟩
        · skip
          refine lv_aload_n hx hb dX2_parse_77 rfl (lv_at hl 0 rfl) ?_
          refine gTi (k := 5) (v := nI (tcT (paS x t i).2 t i (paS x t i).1)) (by decide) ((sI_ne (by omega)).trans (tcC_5 (paS_5 x t i))) go hw dX2_parse_78 q32 ?_
          refine ret_i (wf := cw G g) go hw dX2_parse_81 ?_
          rw [show 24 - i = (23 - i) + 1 by omega, paR] at hE0
          rw [if_pos h27, if_neg h50b, if_neg (fun q => q.2 ((nI_eq (b := 24) (by omega) (by decide)).mp h74))] at hE0
          exact ⟨by rw [← hE0], by rw [← hE0]⟩
    · skip
      have h50b : t ≤ (tcT (paS x t i).2 t i (paS x t i).1) := by
        rcases Nat.lt_or_ge (tcT (paS x t i).2 t i (paS x t i).1) t with q | q
        · exact absurd (nI_lt q (by omega)) h50
        · exact q
      refine lv_iconst (v := (-1)) hx hb dX2_parse_53 (by decide) ?_
      refine ret_i (wf := cw G g) go hw dX2_parse_54 ?_
      rw [show 24 - i = (23 - i) + 1 by omega, paR] at hE0
      rw [if_pos h27, if_pos h50b] at hE0
      exact ⟨by rw [← hE0], by rw [← hE0]⟩
  · skip
    have h27 := bI_0 h27
    refine lv_aload_n hx hb dX2_parse_30 rfl (lv_at hl 0 rfl) ?_
    refine gTi (k := 5) (v := nI (tcT (paS x t i).2 t i (paS x t i).1)) (by decide) (tcC_5 (paS_5 x t i)) go hw dX2_parse_31 q32 ?_
    refine ret_i (wf := cw G g) go hw dX2_parse_34 ?_
    rw [show 24 - i = (23 - i) + 1 by omega, paR] at hE0
    rw [if_neg (by rw [h27]; decide)] at hE0
    exact ⟨by rw [← hE0], by rw [← hE0]⟩

set_option maxHeartbeats 4000000 in
set_option maxRecDepth 100000 in
theorem kX3_fault (l : Launch) (G : Cx) (g : Nat → Nat → Nat) (x : Sg) (t : Nat) (ht : sI x 1 1 = nI t) (ht2 : t ≤ 200) : Ci l G yX3_fault cX3_fault 1 .int (Rm 8 174) (cw G g) [.ref (g 0 0)] x (fun r u => r = (paC x t).1 ∧ u = (paC x t).2) := by
  refine Ci.mk (by decide) (Nat.le_of_ble_eq_true rfl) ?_
  intro p e s m below meth c A ls go hw hl
  generalize s.heap = H at hw ⊢
  generalize ([] : List Loc) = locs at hw ⊢
  have hx := go.1
  have hb := go.2.1
  have hl : lv_has ls 1 [(0, .ref (g 0 0))] := hl
  refine lv_aload_n hx hb dX3_fault_0 rfl (lv_at hl 0 rfl) ?_
  refine gX (k := 0) (v := .ref (g 1 0)) rfl (by decide) rfl go hw dX3_fault_1 q127 ?_
  refine cal_Vi' (kX2_parse l G g x t ht ht2) go hw dX3_fault_4 (And.intro q180 (And.intro q2 q183)) q181 q182 kyX2_parse ⟨Nat.le_of_ble_eq_true rfl, Nat.le_of_ble_eq_true rfl⟩ rc_T hl.1 rfl (Nat.le_of_ble_eq_true rfl) ⟨rfl, rfl⟩ ⟨Nat.le_of_ble_eq_true rfl, Nat.le_of_ble_eq_true rfl⟩ (fun H locs hw => ?_)
  refine ret_i (wf := cw G g) go hw dX3_fault_7 ?_
  exact ⟨rfl, rfl⟩

