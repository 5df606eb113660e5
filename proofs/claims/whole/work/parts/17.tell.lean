set_option maxHeartbeats 4000000 in
set_option maxRecDepth 100000 in
theorem kX3_doClause (l : Launch) (G : Cx) (g : Nat → Nat → Nat) (x : Sg) (c0 : Nat) (hc : sI x 0 5 = nI c0) (hcs : c0 ≤ sN x) (hc5 : c0 < 512) (cl : Nat) (hk : cl < 24) : Cv l G yX3_doClause cX3_doClause 5 ({ frames := 4, cells := 3, slots := 24, locals := 75 } : Room) (cw G g) [.ref (g 0 0), .int (nI cl)] x (fun u => ∃ ad, u = wA ad (doS x c0 cl)) := by
  refine Cv.mk (by decide) (Nat.le_of_ble_eq_true rfl) ?_
  intro p e s m below meth c A ls go hw hl
  generalize s.heap = H at hw ⊢
  generalize ([] : List Loc) = locs at hw ⊢
  have hx := go.1
  have hb := go.2.1
  have hl : lv_has ls 5 [(0, .ref (g 0 0)), (1, .int (nI cl))] := hl
  refine lv_aload_n hx hb dX3_doClause_0 rfl (lv_at hl 0 rfl) ?_
  refine gX (k := 0) (v := .ref (g 1 0)) rfl (by decide) rfl go hw dX3_doClause_1 q127 ?_
  refine lv_iload_n hx hb dX3_doClause_4 rfl (lv_at hl 1 rfl) ?_
  refine lv_iconst (v := 0) hx hb dX3_doClause_5 (by decide) ?_
  refine cal_Vi' (kX2_numberOf l G g x cl hk 0 (by decide)) go hw dX3_doClause_6 (And.intro q299 (And.intro q2 q302)) q300 q301 kyX2_numberOf ⟨Nat.le_of_ble_eq_true rfl, Nat.le_of_ble_eq_true rfl⟩ rc_T hl.1 rfl (Nat.le_of_ble_eq_true rfl) ⟨rfl, rfl⟩ ⟨Nat.le_of_ble_eq_true rfl, Nat.le_of_ble_eq_true rfl⟩ (fun H locs hw => ?_)
  refine lv_istore_n (lv' := [(2, .int (sA x 1 3 (cl * 3 + 0))), (0, .ref (g 0 0)), (1, .int (nI cl))]) hx hb dX3_doClause_9 rfl hl (by decide) rfl (fun ls hl => ?_)
  refine lv_aload_n hx hb dX3_doClause_10 rfl (lv_at hl 1 rfl) ?_
  refine gX (k := 0) (v := .ref (g 1 0)) rfl (by decide) rfl go hw dX3_doClause_11 q127 ?_
  refine lv_iload_n hx hb dX3_doClause_14 rfl (lv_at hl 2 rfl) ?_
  refine lv_iconst (v := 1) hx hb dX3_doClause_15 (by decide) ?_
  refine cal_Vi' (kX2_numberOf l G g x cl hk 1 (by decide)) go hw dX3_doClause_16 (And.intro q299 (And.intro q2 q302)) q300 q301 kyX2_numberOf ⟨Nat.le_of_ble_eq_true rfl, Nat.le_of_ble_eq_true rfl⟩ rc_T hl.1 rfl (Nat.le_of_ble_eq_true rfl) ⟨rfl, rfl⟩ ⟨Nat.le_of_ble_eq_true rfl, Nat.le_of_ble_eq_true rfl⟩ (fun H locs hw => ?_)
  refine lv_istore_n (lv' := [(3, .int (sA x 1 3 (cl * 3 + 1))), (2, .int (sA x 1 3 (cl * 3 + 0))), (0, .ref (g 0 0)), (1, .int (nI cl))]) hx hb dX3_doClause_19 rfl hl (by decide) rfl (fun ls hl => ?_)
  refine lv_aload_n hx hb dX3_doClause_20 rfl (lv_at hl 2 rfl) ?_
  refine gX (k := 0) (v := .ref (g 1 0)) rfl (by decide) rfl go hw dX3_doClause_21 q127 ?_
  refine lv_iload_n hx hb dX3_doClause_24 rfl (lv_at hl 3 rfl) ?_
  refine lv_iconst (v := 2) hx hb dX3_doClause_25 (by decide) ?_
  refine cal_Vi' (kX2_numberOf l G g x cl hk 2 (by decide)) go hw dX3_doClause_26 (And.intro q299 (And.intro q2 q302)) q300 q301 kyX2_numberOf ⟨Nat.le_of_ble_eq_true rfl, Nat.le_of_ble_eq_true rfl⟩ rc_T hl.1 rfl (Nat.le_of_ble_eq_true rfl) ⟨rfl, rfl⟩ ⟨Nat.le_of_ble_eq_true rfl, Nat.le_of_ble_eq_true rfl⟩ (fun H locs hw => ?_)
  refine lv_istore (lv' := [(4, .int (sA x 1 3 (cl * 3 + 2))), (3, .int (sA x 1 3 (cl * 3 + 1))), (2, .int (sA x 1 3 (cl * 3 + 0))), (0, .ref (g 0 0)), (1, .int (nI cl))]) hx hb dX3_doClause_29 hl (by decide) rfl (fun ls hl => ?_)
  refine lv_aload_n hx hb dX3_doClause_31 rfl (lv_at hl 3 rfl) ?_
  refine gX (k := 0) (v := .ref (g 1 0)) rfl (by decide) rfl go hw dX3_doClause_32 q127 ?_
  refine lv_iload_n hx hb dX3_doClause_35 rfl (lv_at hl 4 rfl) ?_
  refine cal_Vi' (kX2_kindOf l G g x cl hk) go hw dX3_doClause_36 (And.intro q303 (And.intro q2 q306)) q304 q305 kyX2_kindOf ⟨Nat.le_of_ble_eq_true rfl, Nat.le_of_ble_eq_true rfl⟩ rc_T hl.1 rfl (Nat.le_of_ble_eq_true rfl) ⟨rfl, rfl⟩ ⟨Nat.le_of_ble_eq_true rfl, Nat.le_of_ble_eq_true rfl⟩ (fun H locs hw => ?_)
  by_cases w39_0 : sA x 1 2 cl = 0
  · refine toI w39_0 ?_
    refine lv_tableIn (off := 41) (tgt := 80) hx hb dX3_doClause_39 (by decide) (by decide) (by decide) (by decide) ?_
    refine lv_aload_n hx hb dX3_doClause_80 rfl (lv_at hl 3 rfl) ?_
    refine cal_Vv' (kX3_startAnew l G g x) go hw dX3_doClause_81 (And.intro q119 (And.intro q1 q122)) q121 qs0 kyX3_startAnew ⟨Nat.le_of_ble_eq_true rfl, Nat.le_of_ble_eq_true rfl⟩ rc_X hl.1 rfl (Nat.le_of_ble_eq_true rfl) ⟨rfl, rfl⟩ ⟨Nat.le_of_ble_eq_true rfl, Nat.le_of_ble_eq_true rfl⟩ (fun H locs hw => ?_)
    refine lv_goto (tgt := 146) hx hb dX3_doClause_84 (by decide) ?_
    refine W.widen (k := 3) (n := 24) (by omega) (by omega) ?_
    refine ret_v (wf := cw G g) go hw dX3_doClause_146 ?_
    exact ⟨(anS x).1, by rw [doS, if_pos w39_0]; exact (wA_self _).symm⟩
  by_cases w39_1 : sA x 1 2 cl = 1
  · refine toI w39_1 ?_
    refine lv_tableIn (off := 48) (tgt := 87) hx hb dX3_doClause_39 (by decide) (by decide) (by decide) (by decide) ?_
    refine lv_aload_n hx hb dX3_doClause_87 rfl (lv_at hl 3 rfl) ?_
    refine lv_iload_n hx hb dX3_doClause_88 rfl (lv_at hl 2 rfl) ?_
    refine lv_iload_n hx hb dX3_doClause_89 rfl (lv_at hl 1 rfl) ?_
    refine cal_Vi (kX3_put l G g x c0 hc hcs hc5 (sA x 1 3 (cl * 3 + 0)) (sA x 1 3 (cl * 3 + 1))) go hw dX3_doClause_90 (And.intro q307 (And.intro q1 q310)) q308 q309 kyX3_put ⟨Nat.le_of_ble_eq_true rfl, Nat.le_of_ble_eq_true rfl⟩ rc_X hl.1 rfl (Nat.le_of_ble_eq_true rfl) ⟨Nat.le_of_ble_eq_true rfl, Nat.le_of_ble_eq_true rfl⟩ (fun r u H locs hu hw => ?_)
    obtain ⟨rfl, a9, rfl⟩ := hu
    refine lv_pop hx hb dX3_doClause_93 rfl ?_
    refine lv_goto (tgt := 146) hx hb dX3_doClause_94 (by decide) ?_
    refine ret_v (wf := cw G g) go hw dX3_doClause_146 ?_
    exact ⟨a9, by rw [doS, if_neg w39_0, if_pos w39_1]⟩
  by_cases w39_2 : sA x 1 2 cl = 2
  · refine toI w39_2 ?_
    refine lv_tableIn (off := 58) (tgt := 97) hx hb dX3_doClause_39 (by decide) (by decide) (by decide) (by decide) ?_
    refine lv_aload_n hx hb dX3_doClause_97 rfl (lv_at hl 3 rfl) ?_
    refine lv_iload_n hx hb dX3_doClause_98 rfl (lv_at hl 2 rfl) ?_
    refine cal_Vi' (kX3_limit l G g x  (sA x 1 3 (cl * 3 + 0))) go hw dX3_doClause_99 (And.intro q374 (And.intro q1 q377)) q375 q376 kyX3_limit ⟨Nat.le_of_ble_eq_true rfl, Nat.le_of_ble_eq_true rfl⟩ rc_X hl.1 rfl (Nat.le_of_ble_eq_true rfl) ⟨rfl, rfl⟩ ⟨Nat.le_of_ble_eq_true rfl, Nat.le_of_ble_eq_true rfl⟩ (fun H locs hw => ?_)
    refine lv_pop hx hb dX3_doClause_102 rfl ?_
    refine lv_goto (tgt := 146) hx hb dX3_doClause_103 (by decide) ?_
    refine W.widen (k := 3) (n := 24) (by omega) (by omega) ?_
    refine ret_v (wf := cw G g) go hw dX3_doClause_146 ?_
    exact ⟨((liC x (sA x 1 3 (cl * 3 + 0))).2).1, by rw [doS, if_neg w39_0, if_neg w39_1, if_pos w39_2]; exact (wA_self _).symm⟩
  by_cases w39_3 : sA x 1 2 cl = 3
  · refine toI w39_3 ?_
    refine lv_tableIn (off := 67) (tgt := 106) hx hb dX3_doClause_39 (by decide) (by decide) (by decide) (by decide) ?_
    refine lv_aload_n hx hb dX3_doClause_106 rfl (lv_at hl 3 rfl) ?_
    refine lv_iload_n hx hb dX3_doClause_107 rfl (lv_at hl 2 rfl) ?_
    refine cal_Vi' (kX3_begin l G g x  (sA x 1 3 (cl * 3 + 0))) go hw dX3_doClause_108 (And.intro q378 (And.intro q1 q381)) q379 q380 kyX3_begin ⟨Nat.le_of_ble_eq_true rfl, Nat.le_of_ble_eq_true rfl⟩ rc_X hl.1 rfl (Nat.le_of_ble_eq_true rfl) ⟨rfl, rfl⟩ ⟨Nat.le_of_ble_eq_true rfl, Nat.le_of_ble_eq_true rfl⟩ (fun H locs hw => ?_)
    refine lv_pop hx hb dX3_doClause_111 rfl ?_
    refine lv_goto (tgt := 146) hx hb dX3_doClause_112 (by decide) ?_
    refine W.widen (k := 3) (n := 24) (by omega) (by omega) ?_
    refine ret_v (wf := cw G g) go hw dX3_doClause_146 ?_
    exact ⟨((beC x (sA x 1 3 (cl * 3 + 0))).2).1, by rw [doS, if_neg w39_0, if_neg w39_1, if_neg w39_2, if_pos w39_3]; exact (wA_self _).symm⟩
  by_cases w39_4 : sA x 1 2 cl = 4
  · refine toI w39_4 ?_
    refine lv_tableIn (off := 76) (tgt := 115) hx hb dX3_doClause_39 (by decide) (by decide) (by decide) (by decide) ?_
    refine lv_aload_n hx hb dX3_doClause_115 rfl (lv_at hl 3 rfl) ?_
    refine lv_iload_n hx hb dX3_doClause_116 rfl (lv_at hl 2 rfl) ?_
    refine lv_iload_n hx hb dX3_doClause_117 rfl (lv_at hl 1 rfl) ?_
    refine cal_Vi' (kX3_read l G g x  (sA x 1 3 (cl * 3 + 0)) (sA x 1 3 (cl * 3 + 1))) go hw dX3_doClause_118 (And.intro q389 (And.intro q1 q392)) q390 q391 kyX3_read ⟨Nat.le_of_ble_eq_true rfl, Nat.le_of_ble_eq_true rfl⟩ rc_X hl.1 rfl (Nat.le_of_ble_eq_true rfl) ⟨rfl, rfl⟩ ⟨Nat.le_of_ble_eq_true rfl, Nat.le_of_ble_eq_true rfl⟩ (fun H locs hw => ?_)
    refine lv_pop hx hb dX3_doClause_121 rfl ?_
    refine lv_goto (tgt := 146) hx hb dX3_doClause_122 (by decide) ?_
    refine W.widen (k := 3) (n := 24) (by omega) (by omega) ?_
    refine ret_v (wf := cw G g) go hw dX3_doClause_146 ?_
    exact ⟨((rdC x (sA x 1 3 (cl * 3 + 0)) (sA x 1 3 (cl * 3 + 1))).2).1, by rw [doS, if_neg w39_0, if_neg w39_1, if_neg w39_2, if_neg w39_3, if_pos w39_4]; exact (wA_self _).symm⟩
  by_cases w39_5 : sA x 1 2 cl = 5
  · refine toI w39_5 ?_
    refine lv_tableIn (off := 86) (tgt := 125) hx hb dX3_doClause_39 (by decide) (by decide) (by decide) (by decide) ?_
    refine lv_aload_n hx hb dX3_doClause_125 rfl (lv_at hl 3 rfl) ?_
    refine lv_iload_n hx hb dX3_doClause_126 rfl (lv_at hl 2 rfl) ?_
    refine lv_iload_n hx hb dX3_doClause_127 rfl (lv_at hl 1 rfl) ?_
    refine lv_iload hx hb dX3_doClause_128 (lv_at hl 0 rfl) ?_
    refine cal_Vi' (kX3_lay l G g x  (sA x 1 3 (cl * 3 + 0)) (sA x 1 3 (cl * 3 + 1)) (sA x 1 3 (cl * 3 + 2))) go hw dX3_doClause_130 (And.intro q402 (And.intro q1 q405)) q403 q404 kyX3_lay ⟨Nat.le_of_ble_eq_true rfl, Nat.le_of_ble_eq_true rfl⟩ rc_X hl.1 rfl (Nat.le_of_ble_eq_true rfl) ⟨rfl, rfl⟩ ⟨Nat.le_of_ble_eq_true rfl, Nat.le_of_ble_eq_true rfl⟩ (fun H locs hw => ?_)
    refine lv_pop hx hb dX3_doClause_133 rfl ?_
    refine lv_goto (tgt := 146) hx hb dX3_doClause_134 (by decide) ?_
    refine W.widen (k := 3) (n := 24) (by omega) (by omega) ?_
    refine ret_v (wf := cw G g) go hw dX3_doClause_146 ?_
    exact ⟨((laC x (sA x 1 3 (cl * 3 + 0)) (sA x 1 3 (cl * 3 + 1)) (sA x 1 3 (cl * 3 + 2))).2).1, by rw [doS, if_neg w39_0, if_neg w39_1, if_neg w39_2, if_neg w39_3, if_neg w39_4, if_pos w39_5]; exact (wA_self _).symm⟩
  by_cases w39_6 : sA x 1 2 cl = 6
  · refine toI w39_6 ?_
    refine lv_tableIn (off := 98) (tgt := 137) hx hb dX3_doClause_39 (by decide) (by decide) (by decide) (by decide) ?_
    refine lv_aload_n hx hb dX3_doClause_137 rfl (lv_at hl 3 rfl) ?_
    refine lv_iload_n hx hb dX3_doClause_138 rfl (lv_at hl 2 rfl) ?_
    refine cal_Vi' (kX3_send l G g x  (sA x 1 3 (cl * 3 + 0))) go hw dX3_doClause_139 (And.intro q412 (And.intro q1 q415)) q413 q414 kyX3_send ⟨Nat.le_of_ble_eq_true rfl, Nat.le_of_ble_eq_true rfl⟩ rc_X hl.1 rfl (Nat.le_of_ble_eq_true rfl) ⟨rfl, rfl⟩ ⟨Nat.le_of_ble_eq_true rfl, Nat.le_of_ble_eq_true rfl⟩ (fun H locs hw => ?_)
    refine lv_pop hx hb dX3_doClause_142 rfl ?_
    refine lv_goto (tgt := 146) hx hb dX3_doClause_143 (by decide) ?_
    refine W.widen (k := 3) (n := 24) (by omega) (by omega) ?_
    refine ret_v (wf := cw G g) go hw dX3_doClause_146 ?_
    exact ⟨((snC x (sA x 1 3 (cl * 3 + 0))).2).1, by rw [doS, if_neg w39_0, if_neg w39_1, if_neg w39_2, if_neg w39_3, if_neg w39_4, if_neg w39_5, if_pos w39_6]; exact (wA_self _).symm⟩
  refine lv_tableOut (tgt := 146) hx hb dX3_doClause_39 (by have z0 := lv_neT (a := 0) w39_0 rfl; have z1 := lv_neT (a := 1) w39_1 rfl; have z2 := lv_neT (a := 2) w39_2 rfl; have z3 := lv_neT (a := 3) w39_3 rfl; have z4 := lv_neT (a := 4) w39_4 rfl; have z5 := lv_neT (a := 5) w39_5 rfl; have z6 := lv_neT (a := 6) w39_6 rfl; omega) (by decide) ?_
  refine W.widen (k := 3) (n := 24) (by omega) (by omega) ?_
  refine ret_v (wf := cw G g) go hw dX3_doClause_146 ?_
  exact ⟨(x).1, by rw [doS, if_neg w39_0, if_neg w39_1, if_neg w39_2, if_neg w39_3, if_neg w39_4, if_neg w39_5, if_neg w39_6]; exact (wA_self _).symm⟩

theorem foS_w {f : Sg → Nat → Sg} (a : Nat → Nat → Nat) (hf : ∀ y d, f (wA a y) d = wA a (f y d)) (y : Sg) : ∀ n, foS f (wA a y) n = wA a (foS f y n)
  | 0 => rfl
  | n + 1 => by rw [foS, foS_w a hf y n, hf, foS]
theorem anS_w (a : Nat → Nat → Nat) (x : Sg) : anS (wA a x) = wA a (anS x) := by
  unfold anS
  rw [show pA (pA (wA a x) 0 1 (cpZ (sA (wA a x) 0 1) 8)) 0 2 (cpZ (sA (wA a x) 0 2) 8) = wA a (pA (pA x 0 1 (cpZ (sA x 0 1) 8)) 0 2 (cpZ (sA x 0 2) 8)) from rfl, foS_w a (fun y d => frD_w a y d false)]
  rfl
theorem nxS_w (a : Nat → Nat → Nat) (x : Sg) (c0 : Nat) : ∃ b, nxS (wA a x) c0 = wA b (nxS x c0) := by
  by_cases h : c0 < sN x
  · exact ⟨a, by rw [nxS, nxS, if_pos (show c0 < sN (wA a x) from h), if_pos h]; rfl⟩
  · exact ⟨(addE (wA a x) 0 0 0).1, by rw [nxS, nxS, if_neg (show ¬ c0 < sN (wA a x) from h), if_neg h]; rfl⟩
theorem puC_w (a : Nat → Nat → Nat) (x : Sg) (c0 : Nat) (i v : Int32) : ∃ b, (puC (wA a x) c0 i v).2 = wA b (puC x c0 i v).2 := by
  by_cases h1 : inB 8 i = true
  · by_cases h2 : vaB v = true
    · by_cases h3 : nI (howM x 3) ≤ 0
      · obtain ⟨b, hb⟩ := nxS_w a x c0
        refine ⟨b, ?_⟩
        rw [puC, puC, if_pos h1, if_pos h1, if_pos h2, if_pos h2, if_pos (show nI (howM (wA a x) 3) ≤ 0 from h3), if_pos h3]
        show puS (wA a x) c0 i.toNatClampNeg v = wA b (puS x c0 i.toNatClampNeg v)
        rw [puS, hb]
        rfl
      · exact ⟨a, by rw [puC, puC, if_pos h1, if_pos h1, if_pos h2, if_pos h2, if_neg (show ¬ nI (howM (wA a x) 3) ≤ 0 from h3), if_neg h3]⟩
    · exact ⟨a, by rw [puC, puC, if_pos h1, if_pos h1, if_neg h2, if_neg h2]⟩
  · exact ⟨a, by rw [puC, puC, if_neg h1, if_neg h1]⟩
theorem liC_w (a : Nat → Nat → Nat) (x : Sg) (n : Int32) : (liC (wA a x) n).2 = wA a (liC x n).2 := by
  by_cases h1 : n < 1 ∨ ¬ n ≤ 9
  · rw [liC, liC, if_pos h1, if_pos h1]
  · rw [liC, liC, if_neg h1, if_neg h1]; rfl
theorem beC_w (a : Nat → Nat → Nat) (x : Sg) (i : Int32) : (beC (wA a x) i).2 = wA a (beC x i).2 := by
  by_cases h1 : inB 6 i = true
  · by_cases h2 : sI x (2 + i.toNatClampNeg) 1 = 0
    · rw [beC, beC, if_pos h1, if_pos h1, if_pos (show sI (wA a x) (2 + i.toNatClampNeg) 1 = 0 from h2), if_pos h2]; rfl
    · rw [beC, beC, if_pos h1, if_pos h1, if_neg (show ¬ sI (wA a x) (2 + i.toNatClampNeg) 1 = 0 from h2), if_neg h2]
  · rw [beC, beC, if_neg h1, if_neg h1]
theorem snC_w (a : Nat → Nat → Nat) (x : Sg) (i : Int32) : (snC (wA a x) i).2 = wA a (snC x i).2 := by
  by_cases h1 : inB 6 i = true
  · by_cases h2 : sI x (2 + i.toNatClampNeg) 1 = 1
    · rw [snC, snC, if_pos h1, if_pos h1, if_pos (show sI (wA a x) (2 + i.toNatClampNeg) 1 = 1 from h2), if_pos h2]; rfl
    · rw [snC, snC, if_pos h1, if_pos h1, if_neg (show ¬ sI (wA a x) (2 + i.toNatClampNeg) 1 = 1 from h2), if_neg h2]
  · rw [snC, snC, if_neg h1, if_neg h1]
theorem rdC_w (a : Nat → Nat → Nat) (x : Sg) (i j : Int32) : (rdC (wA a x) i j).2 = wA a (rdC x i j).2 := by
  by_cases h1 : inB 6 i = true ∧ inB 8 j = true
  · by_cases h2 : sI x (2 + i.toNatClampNeg) 1 = 1
    · by_cases h3 : hasB (sI x (2 + i.toNatClampNeg) 6) j = true
      · rw [rdC, rdC, if_pos h1, if_pos h1]
        dsimp only
        rw [if_pos (show sI (wA a x) (2 + i.toNatClampNeg) 1 = 1 from h2), if_pos h2, if_pos (show hasB (sI (wA a x) (2 + i.toNatClampNeg) 6) j = true from h3), if_pos h3]
      · by_cases h4 : hasB (sI x (2 + i.toNatClampNeg) 5) j = true
        · rw [rdC, rdC, if_pos h1, if_pos h1]
          dsimp only
          rw [if_pos (show sI (wA a x) (2 + i.toNatClampNeg) 1 = 1 from h2), if_pos h2, if_neg (show ¬ hasB (sI (wA a x) (2 + i.toNatClampNeg) 6) j = true from h3), if_neg h3, if_pos (show hasB (sI (wA a x) (2 + i.toNatClampNeg) 5) j = true from h4), if_pos h4]
        · rw [rdC, rdC, if_pos h1, if_pos h1]
          dsimp only
          rw [if_pos (show sI (wA a x) (2 + i.toNatClampNeg) 1 = 1 from h2), if_pos h2, if_neg (show ¬ hasB (sI (wA a x) (2 + i.toNatClampNeg) 6) j = true from h3), if_neg h3, if_neg (show ¬ hasB (sI (wA a x) (2 + i.toNatClampNeg) 5) j = true from h4), if_neg h4]
          rfl
    · rw [rdC, rdC, if_pos h1, if_pos h1]
      dsimp only
      rw [if_neg (show ¬ sI (wA a x) (2 + i.toNatClampNeg) 1 = 1 from h2), if_neg h2]
  · rw [rdC, rdC, if_neg h1, if_neg h1]
theorem laC_w (a : Nat → Nat → Nat) (x : Sg) (i j v : Int32) : (laC (wA a x) i j v).2 = wA a (laC x i j v).2 := by
  by_cases h1 : inB 6 i = true ∧ inB 8 j = true
  · by_cases h3 : vaB v = true
    · by_cases h2 : sI x (2 + i.toNatClampNeg) 1 = 1
      · rw [laC, laC, if_pos h1, if_pos h1, if_pos h3, if_pos h3, if_pos (show sI (wA a x) (2 + i.toNatClampNeg) 1 = 1 from h2), if_pos h2]; rfl
      · rw [laC, laC, if_pos h1, if_pos h1, if_pos h3, if_pos h3, if_neg (show ¬ sI (wA a x) (2 + i.toNatClampNeg) 1 = 1 from h2), if_neg h2]
    · rw [laC, laC, if_pos h1, if_pos h1, if_neg h3, if_neg h3]
  · rw [laC, laC, if_neg h1, if_neg h1]
theorem doS_w (a : Nat → Nat → Nat) (x : Sg) (c0 cl : Nat) : ∃ b, doS (wA a x) c0 cl = wA b (doS x c0 cl) := by
  have e : sA (wA a x) 1 2 cl = sA x 1 2 cl := rfl
  have f : ∀ j, sA (wA a x) 1 3 j = sA x 1 3 j := fun _ => rfl
  rw [doS, doS, e, f, f, f]
  by_cases k0 : sA x 1 2 cl = 0
  · rw [if_pos k0, if_pos k0]; exact ⟨a, anS_w a x⟩
  · rw [if_neg k0, if_neg k0]
    by_cases k1 : sA x 1 2 cl = 1
    · rw [if_pos k1, if_pos k1]; exact puC_w a x _ _ _
    · rw [if_neg k1, if_neg k1]
      by_cases k2 : sA x 1 2 cl = 2
      · rw [if_pos k2, if_pos k2]; exact ⟨a, liC_w a x _⟩
      · rw [if_neg k2, if_neg k2]
        by_cases k3 : sA x 1 2 cl = 3
        · rw [if_pos k3, if_pos k3]; exact ⟨a, beC_w a x _⟩
        · rw [if_neg k3, if_neg k3]
          by_cases k4 : sA x 1 2 cl = 4
          · rw [if_pos k4, if_pos k4]; exact ⟨a, rdC_w a x _ _⟩
          · rw [if_neg k4, if_neg k4]
            by_cases k5 : sA x 1 2 cl = 5
            · rw [if_pos k5, if_pos k5]; exact ⟨a, laC_w a x _ _ _⟩
            · rw [if_neg k5, if_neg k5]
              by_cases k6 : sA x 1 2 cl = 6
              · rw [if_pos k6, if_pos k6]; exact ⟨a, snC_w a x _⟩
              · rw [if_neg k6, if_neg k6]; exact ⟨a, rfl⟩

set_option maxHeartbeats 4000000 in
set_option maxRecDepth 100000 in
theorem kX3_tell (l : Launch) (G : Cx) (g : Nat → Nat → Nat) (x : Sg) (t : Nat) (ht : sI x 1 1 = nI t) (ht2 : t ≤ 200) (y0 : Sg) (hy0 : (paC x t).2 = y0) (n : Nat) (hn : sI y0 1 4 = nI n) (hn24 : n ≤ 24) (hcE : ∀ i, i < n → sI (teS y0 i) 0 5 = nI (sI (teS y0 i) 0 5).toNatClampNeg ∧ (sI (teS y0 i) 0 5).toNatClampNeg ≤ sN (teS y0 i) ∧ (sI (teS y0 i) 0 5).toNatClampNeg < 512) : Ci l G yX3_tell cX3_tell 3 .int ({ frames := 8, cells := 72, slots := 576, locals := 174 } : Room) (cw G g) [.ref (g 0 0)] x (fun r u => ((paC x t).1 = -1 → r = nI n ∧ ∃ ad, u = wA ad (pI (teS y0 n) 1 1 0)) ∧ (¬ (paC x t).1 = -1 → r = -4 ∧ u = y0)) := by
  refine Ci.mk (by decide) (Nat.le_of_ble_eq_true rfl) ?_
  intro p e s m below meth c A ls go hw hl
  generalize s.heap = H at hw ⊢
  generalize ([] : List Loc) = locs at hw ⊢
  have hx := go.1
  have hb := go.2.1
  have hl : lv_has ls 3 [(0, .ref (g 0 0))] := hl
  refine lv_aload_n hx hb dX3_tell_0 rfl (lv_at hl 0 rfl) ?_
  refine gX (k := 0) (v := .ref (g 1 0)) rfl (by decide) rfl go hw dX3_tell_1 q127 ?_
  refine cal_Vi' (kX2_parse l G g x t ht ht2) go hw dX3_tell_4 (And.intro q180 (And.intro q2 q183)) q181 q182 kyX2_parse ⟨Nat.le_of_ble_eq_true rfl, Nat.le_of_ble_eq_true rfl⟩ rc_T hl.1 rfl (Nat.le_of_ble_eq_true rfl) ⟨rfl, rfl⟩ ⟨Nat.le_of_ble_eq_true rfl, Nat.le_of_ble_eq_true rfl⟩ (fun H locs hw => ?_)
  rw [hy0] at hw
  refine lv_iconst (v := (-1)) hx hb dX3_tell_7 (by decide) ?_
  refine lv_icmp_eq (tgt := 14) hx hb dX3_tell_8 (by decide) (fun h8 => ?_) (fun h8 => ?_)
  · skip
    refine lv_aload_n hx hb dX3_tell_14 rfl (lv_at hl 0 rfl) ?_
    refine gX (k := 0) (v := .ref (g 1 0)) rfl (by decide) rfl go hw dX3_tell_15 q127 ?_
    refine gTi (k := 4) (v := nI n) (by decide) hn go hw dX3_tell_18 q31 ?_
    refine lv_istore_n (lv' := [(1, .int (nI n)), (0, .ref (g 0 0))]) hx hb dX3_tell_21 rfl hl (by decide) rfl (fun ls hl => ?_)
    refine lv_iconst (v := 0) hx hb dX3_tell_22 (by decide) ?_
    refine lv_istore_n (lv' := [(2, .int 0), (1, .int (nI n)), (0, .ref (g 0 0))]) hx hb dX3_tell_23 rfl hl (by decide) rfl (fun ls hl => ?_)
    have hl0 : lv_has ls 3 [(0, .ref (g 0 0)), (1, .int (nI n)), (2, .int (nI 0))] := lv_to (lv_sub (l' := [(0, .ref (g 0 0)), (1, .int (nI n)), (2, .int 0)]) hl [2, 1, 0] rfl) (lr (lr (lc (show (0 : Int32) = nI 0 from rfl) rfl)))
    refine loop_upX (N := n) (P := fun i H locs ls => ∃ ad : Nat → Nat → Nat, Wd G A s H locs (cw G g (wA ad (teS y0 i))) ∧ lv_has ls 3 [(0, .ref (g 0 0)), (1, .int (nI n)), (2, .int (nI i))]) (X := fun i H locs ls => W p l e ({ frames := 8, cells := 72, slots := 576, locals := 174 } : Room) s m ([.ref (g 0 0)] : List Value).toArray below meth c H locs (3 * i) (24 * i) (MQ below (va_Qi (fun r u => ((paC x t).1 = -1 → r = nI n ∧ ∃ ad, u = wA ad (pI (teS y0 n) 1 1 0)) ∧ (¬ (paC x t).1 = -1 → r = -4 ∧ u = y0)) (PostW G (cw G g) A) A) ([.ref (g 0 0)] : List Value).toArray s ({ frames := 8, cells := 72, slots := 576, locals := 174 } : Room).cells ({ frames := 8, cells := 72, slots := 576, locals := 174 } : Room).slots A) (F0 m 24 ls [])) ?_ 0 (Nat.zero_le _) H locs ls ⟨y0.1, hw, hl0⟩
    clear hl0 hl hw
    intro i hi ih H locs ls hP
    obtain ⟨ad, hw, hl⟩ := hP
    refine lv_iload_n hx hb dX3_tell_24 rfl (lv_at hl 2 rfl) ?_
    refine lv_iload_n hx hb dX3_tell_25 rfl (lv_at hl 1 rfl) ?_
    refine lv_icmp_ge (tgt := 40) hx hb dX3_tell_26 (by decide) (fun h26 => ?_) (fun h26 => ?_)
    · skip
      have hE : i = n := lp_end h26 rfl rfl hi (by omega)
      subst hE
      refine lv_aload_n hx hb dX3_tell_40 rfl (lv_at hl 0 rfl) ?_
      refine gX (k := 0) (v := .ref (g 1 0)) rfl (by decide) rfl go hw dX3_tell_41 q127 ?_
      refine lv_iconst (v := 0) hx hb dX3_tell_44 (by decide) ?_
      refine pT (k := 1) (by decide) go hw dX3_tell_45 q27 (fun H locs hw => ?_)
      refine lv_iload_n hx hb dX3_tell_48 rfl (lv_at hl 1 rfl) ?_
      refine W.widen (k := 72) (n := 576) (by omega) (by omega) ?_
      refine ret_i (wf := cw G g) go hw dX3_tell_49 ?_
      exact ⟨fun _ => ⟨rfl, ad, rfl⟩, fun q => absurd h8 q⟩
    · skip
      have hlt : i < n := lp_in h26 rfl rfl hi (by omega)
      refine lv_aload_n hx hb dX3_tell_29 rfl (lv_at hl 0 rfl) ?_
      refine lv_iload_n hx hb dX3_tell_30 rfl (lv_at hl 2 rfl) ?_
      refine cal_Vv (kX3_doClause l G g (wA ad (teS y0 i)) (sI (teS y0 i) 0 5).toNatClampNeg (hcE i hlt).1 (hcE i hlt).2.1 (hcE i hlt).2.2 i (by omega)) go hw dX3_tell_31 (And.intro q295 (And.intro q1 q298)) q297 qs1 kyX3_doClause ⟨Nat.le_of_ble_eq_true rfl, Nat.le_of_ble_eq_true rfl⟩ rc_X hl.1 rfl (Nat.le_of_ble_eq_true rfl) ⟨by show 3 * i + 3 ≤ 72; omega, by show 24 * i + 24 ≤ 576; omega⟩ (fun u H locs hu hw => ?_)
      obtain ⟨a9, rfl⟩ := hu
      obtain ⟨b9, hb9⟩ := doS_w ad (teS y0 i) (sI (teS y0 i) 0 5).toNatClampNeg i
      rw [hb9] at hw
      have hw : Wd G A s H locs (cw G g (wA a9 (doS (teS y0 i) (sI (teS y0 i) 0 5).toNatClampNeg i))) := hw
      refine lv_iinc (v := nI (i + 1)) (lv' := [(2, .int (nI (i + 1))), (0, .ref (g 0 0)), (1, .int (nI n))]) hx hb dX3_tell_34 hl (k := 2) rfl (nI_1 _) (by decide) rfl (fun ls hl => ?_)
      refine lv_goto (tgt := 24) hx hb dX3_tell_37 (by decide) ?_
      have hl9 : lv_has ls 3 [(0, .ref (g 0 0)), (1, .int (nI n)), (2, .int (nI (i + 1)))] := lv_sub hl [1, 2, 0] rfl
      refine W.widen (k := 3 * (i + 1)) (n := 24 * (i + 1)) (by show 3 * i + 3 ≤ 3 * (i + 1); omega) (by show 24 * i + 24 ≤ 24 * (i + 1); omega) ?_
      exact ih _ _ _ (by omega) ⟨a9, hw, hl9⟩
  · skip
    refine lv_bipush (v := (-4)) hx hb dX3_tell_11 (by decide) ?_
    refine W.widen (k := 72) (n := 576) (by omega) (by omega) ?_
    refine ret_i (wf := cw G g) go hw dX3_tell_13 ?_
    exact ⟨fun q => absurd q h8, fun _ => ⟨rfl, rfl⟩⟩
