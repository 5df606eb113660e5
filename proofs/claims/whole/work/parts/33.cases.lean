/-! ===== the law's cases ===== -/
section LO
variable {p : Program} {l : Launch} {e : Env} {s : State} {m : MethodId} {args : Array Value} {below : List Frame} {meth : Method} {c : Code} {H : Heap} {locs : List Loc} {cells slots : Nat} {Q : State → Prop} {nm : String} {rt0 : Option FieldType} {G : Cx} {A : Nat → Prop} {ls : Array Slot} {g : Nat → Nat → Nat} {h : Nat → Nat} {x : Sg} {y : Rg} {b L i k : Nat} {xs : Nat → Int32}
set_option maxHeartbeats 4000000 in
set_option maxRecDepth 100000 in
theorem lo_write (go : Go l ⟨RL, nm, "([I)Z"⟩ cL_law 4 rt0 p s m args meth c) (hX : va_X b L xs s s.heap) (hbl : b < s.heap.size) (hbA : ¬ A b) (hL : L ≤ 2048) (hi : i + 4 ≤ L) (hw : Wd G A s H locs (cw G g x ++ rw' G h y)) (hl : lv_has ls 4 [(0, .ref b), (1, .ref (g 0 0)), (2, .ref (h 0)), (3, .int (nI i))]) (hf : cells + 72 ≤ 600000 ∧ slots + 576 ≤ 7302250)
    (hD : Duo l G g h yX3_write cX3_write 2 (Rm 1 21) yX4_write cX4_write 2 (Rm 1 25) [.int (xs (i + 1))] x y k)
    (kk : ∀ (u : Sg) (w : Rg) (H1 : Heap) (locs1 : List Loc), Al u w (k + 1) → Wd G A s H1 locs1 (cw G g u ++ rw' G h w) → W p l e room_1 s m args below meth c H1 locs1 (cells + 72) (slots + 576) Q (F0 m 850 ls [])) : W p l e room_1 s m args below meth c H locs cells slots Q (F0 m 152 ls []) := by
  obtain ⟨pC, pR, hC, hR, hE⟩ := hD
  have hx := go.1
  have hb := go.2.1
  refine lv_aload_n hx hb dL_law_152 rfl (lv_at hl 1 rfl) ?_
  refine lv_aload_n hx hb dL_law_153 rfl (lv_at hl 0 rfl) ?_
  refine lv_iload_n hx hb dL_law_154 rfl (lv_at hl 3 rfl) ?_
  refine lv_iconst (v := 1) hx hb dL_law_155 (by decide) ?_
  refine lv_iadd hx hb dL_law_156 ?_
  refine toI (b := nI (i + 1)) (nI_add i 1) ?_
  refine va_sld hx hb hX hbl hbA hw.2.2.1 (vp_in_nI (n := i + 1) (by omega) (by omega)) dL_law_157 ?_
  refine toI (b := xs (i + 1)) (by rw [nI_clamp (by omega)]) ?_
  refine cal_ViF (wr := rw' G h y) (wf := cw G g) (x := x) (As := [.int (xs (i + 1))]) (rest := []) hC go hw.swap dL_law_158 (And.intro q164 (And.intro q1 q167)) q165 q166 kyX3_write ⟨Nat.le_of_ble_eq_true rfl, Nat.le_of_ble_eq_true rfl⟩ rc_X hl.1 rfl (Nat.le_of_ble_eq_true rfl) ⟨by show cells + 0 ≤ 600000; omega, by show slots + 0 ≤ 7302250; omega⟩ (fun r u H locs hp hw => ?_)
  have hw := hw.swap
  refine lv_aload_n hx hb dL_law_161 rfl (lv_at hl 2 rfl) ?_
  refine lv_aload_n hx hb dL_law_162 rfl (lv_at hl 0 rfl) ?_
  refine lv_iload_n hx hb dL_law_163 rfl (lv_at hl 3 rfl) ?_
  refine lv_iconst (v := 1) hx hb dL_law_164 (by decide) ?_
  refine lv_iadd hx hb dL_law_165 ?_
  refine toI (b := nI (i + 1)) (nI_add i 1) ?_
  refine va_sld hx hb hX hbl hbA hw.2.2.1 (vp_in_nI (n := i + 1) (by omega) (by omega)) dL_law_166 ?_
  refine toI (b := xs (i + 1)) (by rw [nI_clamp (by omega)]) ?_
  refine cal_ViF (wr := cw G g u) (wf := rw' G h) (x := y) (As := [.int (xs (i + 1))]) (rest := [.int r]) hR go hw dL_law_167 (And.intro q682 (And.intro q4 q685)) q683 q684 kyX4_write ⟨Nat.le_of_ble_eq_true rfl, Nat.le_of_ble_eq_true rfl⟩ rc_M hl.1 rfl (Nat.le_of_ble_eq_true rfl) ⟨by show cells + 0 + 0 ≤ 600000; omega, by show slots + 0 + 0 ≤ 7302250; omega⟩ (fun r' w H locs hq hw => ?_)
  have hE := hE r u r' w hp hq
  refine lv_icmp_eq (tgt := 850) hx hb dL_law_170 (by decide) (fun _ => ?_) (fun q => absurd hE.1 q)
  refine W.widen (k := cells + 72) (n := slots + 576) (by show cells + 0 + 0 ≤ cells + 72; omega) (by show slots + 0 + 0 ≤ slots + 576; omega) ?_
  exact kk u w H locs hE.2 hw
set_option maxHeartbeats 4000000 in
set_option maxRecDepth 100000 in
theorem lo_erase (go : Go l ⟨RL, nm, "([I)Z"⟩ cL_law 4 rt0 p s m args meth c) (hX : va_X b L xs s s.heap) (hbl : b < s.heap.size) (hbA : ¬ A b) (hL : L ≤ 2048) (hi : i + 4 ≤ L) (hw : Wd G A s H locs (cw G g x ++ rw' G h y)) (hl : lv_has ls 4 [(0, .ref b), (1, .ref (g 0 0)), (2, .ref (h 0)), (3, .int (nI i))]) (hf : cells + 72 ≤ 600000 ∧ slots + 576 ≤ 7302250)
    (hD : Duo l G g h yX3_erase cX3_erase 2 (Rm 0 0) yX4_erase cX4_erase 2 (Rm 0 0) [] x y k)
    (kk : ∀ (u : Sg) (w : Rg) (H1 : Heap) (locs1 : List Loc), Al u w (k + 1) → Wd G A s H1 locs1 (cw G g u ++ rw' G h w) → W p l e room_1 s m args below meth c H1 locs1 (cells + 72) (slots + 576) Q (F0 m 850 ls [])) : W p l e room_1 s m args below meth c H locs cells slots Q (F0 m 175 ls []) := by
  obtain ⟨pC, pR, hC, hR, hE⟩ := hD
  have hx := go.1
  have hb := go.2.1
  refine lv_aload_n hx hb dL_law_175 rfl (lv_at hl 1 rfl) ?_
  refine cal_ViF (wr := rw' G h y) (wf := cw G g) (x := x) (As := []) (rest := []) hC go hw.swap dL_law_176 (And.intro q172 (And.intro q1 q175)) q173 q174 kyX3_erase ⟨Nat.le_of_ble_eq_true rfl, Nat.le_of_ble_eq_true rfl⟩ rc_X hl.1 rfl (Nat.le_of_ble_eq_true rfl) ⟨by show cells + 0 ≤ 600000; omega, by show slots + 0 ≤ 7302250; omega⟩ (fun r u H locs hp hw => ?_)
  have hw := hw.swap
  refine lv_aload_n hx hb dL_law_179 rfl (lv_at hl 2 rfl) ?_
  refine cal_ViF (wr := cw G g u) (wf := rw' G h) (x := y) (As := []) (rest := [.int r]) hR go hw dL_law_180 (And.intro q690 (And.intro q4 q693)) q691 q692 kyX4_erase ⟨Nat.le_of_ble_eq_true rfl, Nat.le_of_ble_eq_true rfl⟩ rc_M hl.1 rfl (Nat.le_of_ble_eq_true rfl) ⟨by show cells + 0 + 0 ≤ 600000; omega, by show slots + 0 + 0 ≤ 7302250; omega⟩ (fun r' w H locs hq hw => ?_)
  have hE := hE r u r' w hp hq
  refine lv_icmp_eq (tgt := 850) hx hb dL_law_183 (by decide) (fun _ => ?_) (fun q => absurd hE.1 q)
  refine W.widen (k := cells + 72) (n := slots + 576) (by show cells + 0 + 0 ≤ cells + 72; omega) (by show slots + 0 + 0 ≤ slots + 576; omega) ?_
  exact kk u w H locs hE.2 hw
set_option maxHeartbeats 4000000 in
set_option maxRecDepth 100000 in
theorem lo_fault (go : Go l ⟨RL, nm, "([I)Z"⟩ cL_law 4 rt0 p s m args meth c) (hX : va_X b L xs s s.heap) (hbl : b < s.heap.size) (hbA : ¬ A b) (hL : L ≤ 2048) (hi : i + 4 ≤ L) (hw : Wd G A s H locs (cw G g x ++ rw' G h y)) (hl : lv_has ls 4 [(0, .ref b), (1, .ref (g 0 0)), (2, .ref (h 0)), (3, .int (nI i))]) (hf : cells + 72 ≤ 600000 ∧ slots + 576 ≤ 7302250)
    (hD : Duo l G g h yX3_fault cX3_fault 1 (Rm 8 174) yX4_fault cX4_fault 1 (Rm 7 156) [] x y k)
    (kk : ∀ (u : Sg) (w : Rg) (H1 : Heap) (locs1 : List Loc), Al u w (k + 1) → Wd G A s H1 locs1 (cw G g u ++ rw' G h w) → W p l e room_1 s m args below meth c H1 locs1 (cells + 72) (slots + 576) Q (F0 m 850 ls [])) : W p l e room_1 s m args below meth c H locs cells slots Q (F0 m 188 ls []) := by
  obtain ⟨pC, pR, hC, hR, hE⟩ := hD
  have hx := go.1
  have hb := go.2.1
  refine lv_aload_n hx hb dL_law_188 rfl (lv_at hl 1 rfl) ?_
  refine cal_ViF (wr := rw' G h y) (wf := cw G g) (x := x) (As := []) (rest := []) hC go hw.swap dL_law_189 (And.intro q176 (And.intro q1 q179)) q177 q178 kyX3_fault ⟨Nat.le_of_ble_eq_true rfl, Nat.le_of_ble_eq_true rfl⟩ rc_X hl.1 rfl (Nat.le_of_ble_eq_true rfl) ⟨by show cells + 0 ≤ 600000; omega, by show slots + 0 ≤ 7302250; omega⟩ (fun r u H locs hp hw => ?_)
  have hw := hw.swap
  refine lv_aload_n hx hb dL_law_192 rfl (lv_at hl 2 rfl) ?_
  refine cal_ViF (wr := cw G g u) (wf := rw' G h) (x := y) (As := []) (rest := [.int r]) hR go hw dL_law_193 (And.intro q694 (And.intro q4 q697)) q695 q696 kyX4_fault ⟨Nat.le_of_ble_eq_true rfl, Nat.le_of_ble_eq_true rfl⟩ rc_M hl.1 rfl (Nat.le_of_ble_eq_true rfl) ⟨by show cells + 0 + 0 ≤ 600000; omega, by show slots + 0 + 0 ≤ 7302250; omega⟩ (fun r' w H locs hq hw => ?_)
  have hE := hE r u r' w hp hq
  refine lv_icmp_eq (tgt := 850) hx hb dL_law_196 (by decide) (fun _ => ?_) (fun q => absurd hE.1 q)
  refine W.widen (k := cells + 72) (n := slots + 576) (by show cells + 0 + 0 ≤ cells + 72; omega) (by show slots + 0 + 0 ≤ slots + 576; omega) ?_
  exact kk u w H locs hE.2 hw
set_option maxHeartbeats 4000000 in
set_option maxRecDepth 100000 in
theorem lo_tell (go : Go l ⟨RL, nm, "([I)Z"⟩ cL_law 4 rt0 p s m args meth c) (hX : va_X b L xs s s.heap) (hbl : b < s.heap.size) (hbA : ¬ A b) (hL : L ≤ 2048) (hi : i + 4 ≤ L) (hw : Wd G A s H locs (cw G g x ++ rw' G h y)) (hl : lv_has ls 4 [(0, .ref b), (1, .ref (g 0 0)), (2, .ref (h 0)), (3, .int (nI i))]) (hf : cells + 72 ≤ 600000 ∧ slots + 576 ≤ 7302250)
    (hD : Duo l G g h yX3_tell cX3_tell 3 ({ frames := 8, cells := 72, slots := 576, locals := 174 } : Room) yX4_tell cX4_tell 1 (Rm 7 156) [] x y k)
    (kk : ∀ (u : Sg) (w : Rg) (H1 : Heap) (locs1 : List Loc), Al u w (k + 1) → Wd G A s H1 locs1 (cw G g u ++ rw' G h w) → W p l e room_1 s m args below meth c H1 locs1 (cells + 72) (slots + 576) Q (F0 m 850 ls [])) : W p l e room_1 s m args below meth c H locs cells slots Q (F0 m 201 ls []) := by
  obtain ⟨pC, pR, hC, hR, hE⟩ := hD
  have hx := go.1
  have hb := go.2.1
  refine lv_aload_n hx hb dL_law_201 rfl (lv_at hl 1 rfl) ?_
  refine cal_ViF (wr := rw' G h y) (wf := cw G g) (x := x) (As := []) (rest := []) hC go hw.swap dL_law_202 (And.intro q291 (And.intro q1 q294)) q292 q293 kyX3_tell ⟨Nat.le_of_ble_eq_true rfl, Nat.le_of_ble_eq_true rfl⟩ rc_X hl.1 rfl (Nat.le_of_ble_eq_true rfl) ⟨by show cells + 72 ≤ 600000; omega, by show slots + 576 ≤ 7302250; omega⟩ (fun r u H locs hp hw => ?_)
  have hw := hw.swap
  refine lv_aload_n hx hb dL_law_205 rfl (lv_at hl 2 rfl) ?_
  refine cal_ViF (wr := cw G g u) (wf := rw' G h) (x := y) (As := []) (rest := [.int r]) hR go hw dL_law_206 (And.intro q800 (And.intro q4 q803)) q801 q802 kyX4_tell ⟨Nat.le_of_ble_eq_true rfl, Nat.le_of_ble_eq_true rfl⟩ rc_M hl.1 rfl (Nat.le_of_ble_eq_true rfl) ⟨by show cells + 72 + 0 ≤ 600000; omega, by show slots + 576 + 0 ≤ 7302250; omega⟩ (fun r' w H locs hq hw => ?_)
  have hE := hE r u r' w hp hq
  refine lv_icmp_eq (tgt := 850) hx hb dL_law_209 (by decide) (fun _ => ?_) (fun q => absurd hE.1 q)
  refine W.widen (k := cells + 72) (n := slots + 576) (by show cells + 72 + 0 ≤ cells + 72; omega) (by show slots + 576 + 0 ≤ slots + 576; omega) ?_
  exact kk u w H locs hE.2 hw
set_option maxHeartbeats 4000000 in
set_option maxRecDepth 100000 in
theorem lo_item (go : Go l ⟨RL, nm, "([I)Z"⟩ cL_law 4 rt0 p s m args meth c) (hX : va_X b L xs s s.heap) (hbl : b < s.heap.size) (hbA : ¬ A b) (hL : L ≤ 2048) (hi : i + 4 ≤ L) (hw : Wd G A s H locs (cw G g x ++ rw' G h y)) (hl : lv_has ls 4 [(0, .ref b), (1, .ref (g 0 0)), (2, .ref (h 0)), (3, .int (nI i))]) (hf : cells + 72 ≤ 600000 ∧ slots + 576 ≤ 7302250)
    (hD : Duo l G g h yX3_item cX3_item 3 (Rm 1 20) yX4_item cX4_item 3 (Rm 2 45) [.int (xs (i + 1)), .int (xs (i + 2))] x y k)
    (kk : ∀ (u : Sg) (w : Rg) (H1 : Heap) (locs1 : List Loc), Al u w (k + 1) → Wd G A s H1 locs1 (cw G g u ++ rw' G h w) → W p l e room_1 s m args below meth c H1 locs1 (cells + 72) (slots + 576) Q (F0 m 850 ls [])) : W p l e room_1 s m args below meth c H locs cells slots Q (F0 m 214 ls []) := by
  obtain ⟨pC, pR, hC, hR, hE⟩ := hD
  have hx := go.1
  have hb := go.2.1
  refine lv_aload_n hx hb dL_law_214 rfl (lv_at hl 1 rfl) ?_
  refine lv_aload_n hx hb dL_law_215 rfl (lv_at hl 0 rfl) ?_
  refine lv_iload_n hx hb dL_law_216 rfl (lv_at hl 3 rfl) ?_
  refine lv_iconst (v := 1) hx hb dL_law_217 (by decide) ?_
  refine lv_iadd hx hb dL_law_218 ?_
  refine toI (b := nI (i + 1)) (nI_add i 1) ?_
  refine va_sld hx hb hX hbl hbA hw.2.2.1 (vp_in_nI (n := i + 1) (by omega) (by omega)) dL_law_219 ?_
  refine toI (b := xs (i + 1)) (by rw [nI_clamp (by omega)]) ?_
  refine lv_aload_n hx hb dL_law_220 rfl (lv_at hl 0 rfl) ?_
  refine lv_iload_n hx hb dL_law_221 rfl (lv_at hl 3 rfl) ?_
  refine lv_iconst (v := 2) hx hb dL_law_222 (by decide) ?_
  refine lv_iadd hx hb dL_law_223 ?_
  refine toI (b := nI (i + 2)) (nI_add i 2) ?_
  refine va_sld hx hb hX hbl hbA hw.2.2.1 (vp_in_nI (n := i + 2) (by omega) (by omega)) dL_law_224 ?_
  refine toI (b := xs (i + 2)) (by rw [nI_clamp (by omega)]) ?_
  refine cal_ViF (wr := rw' G h y) (wf := cw G g) (x := x) (As := [.int (xs (i + 1)), .int (xs (i + 2))]) (rest := []) hC go hw.swap dL_law_225 (And.intro q420 (And.intro q1 q423)) q421 q422 kyX3_item ⟨Nat.le_of_ble_eq_true rfl, Nat.le_of_ble_eq_true rfl⟩ rc_X hl.1 rfl (Nat.le_of_ble_eq_true rfl) ⟨by show cells + 0 ≤ 600000; omega, by show slots + 0 ≤ 7302250; omega⟩ (fun r u H locs hp hw => ?_)
  have hw := hw.swap
  refine lv_aload_n hx hb dL_law_228 rfl (lv_at hl 2 rfl) ?_
  refine lv_aload_n hx hb dL_law_229 rfl (lv_at hl 0 rfl) ?_
  refine lv_iload_n hx hb dL_law_230 rfl (lv_at hl 3 rfl) ?_
  refine lv_iconst (v := 1) hx hb dL_law_231 (by decide) ?_
  refine lv_iadd hx hb dL_law_232 ?_
  refine toI (b := nI (i + 1)) (nI_add i 1) ?_
  refine va_sld hx hb hX hbl hbA hw.2.2.1 (vp_in_nI (n := i + 1) (by omega) (by omega)) dL_law_233 ?_
  refine toI (b := xs (i + 1)) (by rw [nI_clamp (by omega)]) ?_
  refine lv_aload_n hx hb dL_law_234 rfl (lv_at hl 0 rfl) ?_
  refine lv_iload_n hx hb dL_law_235 rfl (lv_at hl 3 rfl) ?_
  refine lv_iconst (v := 2) hx hb dL_law_236 (by decide) ?_
  refine lv_iadd hx hb dL_law_237 ?_
  refine toI (b := nI (i + 2)) (nI_add i 2) ?_
  refine va_sld hx hb hX hbl hbA hw.2.2.1 (vp_in_nI (n := i + 2) (by omega) (by omega)) dL_law_238 ?_
  refine toI (b := xs (i + 2)) (by rw [nI_clamp (by omega)]) ?_
  refine cal_ViF (wr := cw G g u) (wf := rw' G h) (x := y) (As := [.int (xs (i + 1)), .int (xs (i + 2))]) (rest := [.int r]) hR go hw dL_law_239 (And.intro q804 (And.intro q4 q807)) q805 q806 kyX4_item ⟨Nat.le_of_ble_eq_true rfl, Nat.le_of_ble_eq_true rfl⟩ rc_M hl.1 rfl (Nat.le_of_ble_eq_true rfl) ⟨by show cells + 0 + 0 ≤ 600000; omega, by show slots + 0 + 0 ≤ 7302250; omega⟩ (fun r' w H locs hq hw => ?_)
  have hE := hE r u r' w hp hq
  refine lv_icmp_eq (tgt := 850) hx hb dL_law_242 (by decide) (fun _ => ?_) (fun q => absurd hE.1 q)
  refine W.widen (k := cells + 72) (n := slots + 576) (by show cells + 0 + 0 ≤ cells + 72; omega) (by show slots + 0 + 0 ≤ slots + 576; omega) ?_
  exact kk u w H locs hE.2 hw
set_option maxHeartbeats 4000000 in
set_option maxRecDepth 100000 in
theorem lo_put (go : Go l ⟨RL, nm, "([I)Z"⟩ cL_law 4 rt0 p s m args meth c) (hX : va_X b L xs s s.heap) (hbl : b < s.heap.size) (hbA : ¬ A b) (hL : L ≤ 2048) (hi : i + 4 ≤ L) (hw : Wd G A s H locs (cw G g x ++ rw' G h y)) (hl : lv_has ls 4 [(0, .ref b), (1, .ref (g 0 0)), (2, .ref (h 0)), (3, .int (nI i))]) (hf : cells + 72 ≤ 600000 ∧ slots + 576 ≤ 7302250)
    (hD : Duo l G g h yX3_put cX3_put 3 ({ frames := 3, cells := 3, slots := 24, locals := 53 } : Room) yX4_put cX4_put 4 (Rm 2 45) [.int (xs (i + 1)), .int (xs (i + 2))] x y k)
    (kk : ∀ (u : Sg) (w : Rg) (H1 : Heap) (locs1 : List Loc), Al u w (k + 1) → Wd G A s H1 locs1 (cw G g u ++ rw' G h w) → W p l e room_1 s m args below meth c H1 locs1 (cells + 72) (slots + 576) Q (F0 m 850 ls [])) : W p l e room_1 s m args below meth c H locs cells slots Q (F0 m 247 ls []) := by
  obtain ⟨pC, pR, hC, hR, hE⟩ := hD
  have hx := go.1
  have hb := go.2.1
  refine lv_aload_n hx hb dL_law_247 rfl (lv_at hl 1 rfl) ?_
  refine lv_aload_n hx hb dL_law_248 rfl (lv_at hl 0 rfl) ?_
  refine lv_iload_n hx hb dL_law_249 rfl (lv_at hl 3 rfl) ?_
  refine lv_iconst (v := 1) hx hb dL_law_250 (by decide) ?_
  refine lv_iadd hx hb dL_law_251 ?_
  refine toI (b := nI (i + 1)) (nI_add i 1) ?_
  refine va_sld hx hb hX hbl hbA hw.2.2.1 (vp_in_nI (n := i + 1) (by omega) (by omega)) dL_law_252 ?_
  refine toI (b := xs (i + 1)) (by rw [nI_clamp (by omega)]) ?_
  refine lv_aload_n hx hb dL_law_253 rfl (lv_at hl 0 rfl) ?_
  refine lv_iload_n hx hb dL_law_254 rfl (lv_at hl 3 rfl) ?_
  refine lv_iconst (v := 2) hx hb dL_law_255 (by decide) ?_
  refine lv_iadd hx hb dL_law_256 ?_
  refine toI (b := nI (i + 2)) (nI_add i 2) ?_
  refine va_sld hx hb hX hbl hbA hw.2.2.1 (vp_in_nI (n := i + 2) (by omega) (by omega)) dL_law_257 ?_
  refine toI (b := xs (i + 2)) (by rw [nI_clamp (by omega)]) ?_
  refine cal_ViF (wr := rw' G h y) (wf := cw G g) (x := x) (As := [.int (xs (i + 1)), .int (xs (i + 2))]) (rest := []) hC go hw.swap dL_law_258 (And.intro q424 (And.intro q1 q310)) q308 q309 kyX3_put ⟨Nat.le_of_ble_eq_true rfl, Nat.le_of_ble_eq_true rfl⟩ rc_X hl.1 rfl (Nat.le_of_ble_eq_true rfl) ⟨by show cells + 3 ≤ 600000; omega, by show slots + 24 ≤ 7302250; omega⟩ (fun r u H locs hp hw => ?_)
  have hw := hw.swap
  refine lv_aload_n hx hb dL_law_261 rfl (lv_at hl 2 rfl) ?_
  refine lv_aload_n hx hb dL_law_262 rfl (lv_at hl 0 rfl) ?_
  refine lv_iload_n hx hb dL_law_263 rfl (lv_at hl 3 rfl) ?_
  refine lv_iconst (v := 1) hx hb dL_law_264 (by decide) ?_
  refine lv_iadd hx hb dL_law_265 ?_
  refine toI (b := nI (i + 1)) (nI_add i 1) ?_
  refine va_sld hx hb hX hbl hbA hw.2.2.1 (vp_in_nI (n := i + 1) (by omega) (by omega)) dL_law_266 ?_
  refine toI (b := xs (i + 1)) (by rw [nI_clamp (by omega)]) ?_
  refine lv_aload_n hx hb dL_law_267 rfl (lv_at hl 0 rfl) ?_
  refine lv_iload_n hx hb dL_law_268 rfl (lv_at hl 3 rfl) ?_
  refine lv_iconst (v := 2) hx hb dL_law_269 (by decide) ?_
  refine lv_iadd hx hb dL_law_270 ?_
  refine toI (b := nI (i + 2)) (nI_add i 2) ?_
  refine va_sld hx hb hX hbl hbA hw.2.2.1 (vp_in_nI (n := i + 2) (by omega) (by omega)) dL_law_271 ?_
  refine toI (b := xs (i + 2)) (by rw [nI_clamp (by omega)]) ?_
  refine cal_ViF (wr := cw G g u) (wf := rw' G h) (x := y) (As := [.int (xs (i + 1)), .int (xs (i + 2))]) (rest := [.int r]) hR go hw dL_law_272 (And.intro q808 (And.intro q4 q747)) q745 q746 kyX4_put ⟨Nat.le_of_ble_eq_true rfl, Nat.le_of_ble_eq_true rfl⟩ rc_M hl.1 rfl (Nat.le_of_ble_eq_true rfl) ⟨by show cells + 3 + 0 ≤ 600000; omega, by show slots + 24 + 0 ≤ 7302250; omega⟩ (fun r' w H locs hq hw => ?_)
  have hE := hE r u r' w hp hq
  refine lv_icmp_eq (tgt := 850) hx hb dL_law_275 (by decide) (fun _ => ?_) (fun q => absurd hE.1 q)
  refine W.widen (k := cells + 72) (n := slots + 576) (by show cells + 3 + 0 ≤ cells + 72; omega) (by show slots + 24 + 0 ≤ slots + 576; omega) ?_
  exact kk u w H locs hE.2 hw
set_option maxHeartbeats 4000000 in
set_option maxRecDepth 100000 in
theorem lo_limit (go : Go l ⟨RL, nm, "([I)Z"⟩ cL_law 4 rt0 p s m args meth c) (hX : va_X b L xs s s.heap) (hbl : b < s.heap.size) (hbA : ¬ A b) (hL : L ≤ 2048) (hi : i + 4 ≤ L) (hw : Wd G A s H locs (cw G g x ++ rw' G h y)) (hl : lv_has ls 4 [(0, .ref b), (1, .ref (g 0 0)), (2, .ref (h 0)), (3, .int (nI i))]) (hf : cells + 72 ≤ 600000 ∧ slots + 576 ≤ 7302250)
    (hD : Duo l G g h yX3_limit cX3_limit 3 (Rm 0 0) yX4_limit cX4_limit 3 (Rm 1 25) [.int (xs (i + 1))] x y k)
    (kk : ∀ (u : Sg) (w : Rg) (H1 : Heap) (locs1 : List Loc), Al u w (k + 1) → Wd G A s H1 locs1 (cw G g u ++ rw' G h w) → W p l e room_1 s m args below meth c H1 locs1 (cells + 72) (slots + 576) Q (F0 m 850 ls [])) : W p l e room_1 s m args below meth c H locs cells slots Q (F0 m 280 ls []) := by
  obtain ⟨pC, pR, hC, hR, hE⟩ := hD
  have hx := go.1
  have hb := go.2.1
  refine lv_aload_n hx hb dL_law_280 rfl (lv_at hl 1 rfl) ?_
  refine lv_aload_n hx hb dL_law_281 rfl (lv_at hl 0 rfl) ?_
  refine lv_iload_n hx hb dL_law_282 rfl (lv_at hl 3 rfl) ?_
  refine lv_iconst (v := 1) hx hb dL_law_283 (by decide) ?_
  refine lv_iadd hx hb dL_law_284 ?_
  refine toI (b := nI (i + 1)) (nI_add i 1) ?_
  refine va_sld hx hb hX hbl hbA hw.2.2.1 (vp_in_nI (n := i + 1) (by omega) (by omega)) dL_law_285 ?_
  refine toI (b := xs (i + 1)) (by rw [nI_clamp (by omega)]) ?_
  refine cal_ViF (wr := rw' G h y) (wf := cw G g) (x := x) (As := [.int (xs (i + 1))]) (rest := []) hC go hw.swap dL_law_286 (And.intro q425 (And.intro q1 q377)) q375 q376 kyX3_limit ⟨Nat.le_of_ble_eq_true rfl, Nat.le_of_ble_eq_true rfl⟩ rc_X hl.1 rfl (Nat.le_of_ble_eq_true rfl) ⟨by show cells + 0 ≤ 600000; omega, by show slots + 0 ≤ 7302250; omega⟩ (fun r u H locs hp hw => ?_)
  have hw := hw.swap
  refine lv_aload_n hx hb dL_law_289 rfl (lv_at hl 2 rfl) ?_
  refine lv_aload_n hx hb dL_law_290 rfl (lv_at hl 0 rfl) ?_
  refine lv_iload_n hx hb dL_law_291 rfl (lv_at hl 3 rfl) ?_
  refine lv_iconst (v := 1) hx hb dL_law_292 (by decide) ?_
  refine lv_iadd hx hb dL_law_293 ?_
  refine toI (b := nI (i + 1)) (nI_add i 1) ?_
  refine va_sld hx hb hX hbl hbA hw.2.2.1 (vp_in_nI (n := i + 1) (by omega) (by omega)) dL_law_294 ?_
  refine toI (b := xs (i + 1)) (by rw [nI_clamp (by omega)]) ?_
  refine cal_ViF (wr := cw G g u) (wf := rw' G h) (x := y) (As := [.int (xs (i + 1))]) (rest := [.int r]) hR go hw dL_law_295 (And.intro q809 (And.intro q4 q771)) q769 q770 kyX4_limit ⟨Nat.le_of_ble_eq_true rfl, Nat.le_of_ble_eq_true rfl⟩ rc_M hl.1 rfl (Nat.le_of_ble_eq_true rfl) ⟨by show cells + 0 + 0 ≤ 600000; omega, by show slots + 0 + 0 ≤ 7302250; omega⟩ (fun r' w H locs hq hw => ?_)
  have hE := hE r u r' w hp hq
  refine lv_icmp_eq (tgt := 850) hx hb dL_law_298 (by decide) (fun _ => ?_) (fun q => absurd hE.1 q)
  refine W.widen (k := cells + 72) (n := slots + 576) (by show cells + 0 + 0 ≤ cells + 72; omega) (by show slots + 0 + 0 ≤ slots + 576; omega) ?_
  exact kk u w H locs hE.2 hw
set_option maxHeartbeats 4000000 in
set_option maxRecDepth 100000 in
theorem lo_begin (go : Go l ⟨RL, nm, "([I)Z"⟩ cL_law 4 rt0 p s m args meth c) (hX : va_X b L xs s s.heap) (hbl : b < s.heap.size) (hbA : ¬ A b) (hL : L ≤ 2048) (hi : i + 4 ≤ L) (hw : Wd G A s H locs (cw G g x ++ rw' G h y)) (hl : lv_has ls 4 [(0, .ref b), (1, .ref (g 0 0)), (2, .ref (h 0)), (3, .int (nI i))]) (hf : cells + 72 ≤ 600000 ∧ slots + 576 ≤ 7302250)
    (hD : Duo l G g h yX3_begin cX3_begin 3 (Rm 1 23) yX4_begin cX4_begin 2 (Rm 2 45) [.int (xs (i + 1))] x y k)
    (kk : ∀ (u : Sg) (w : Rg) (H1 : Heap) (locs1 : List Loc), Al u w (k + 1) → Wd G A s H1 locs1 (cw G g u ++ rw' G h w) → W p l e room_1 s m args below meth c H1 locs1 (cells + 72) (slots + 576) Q (F0 m 850 ls [])) : W p l e room_1 s m args below meth c H locs cells slots Q (F0 m 303 ls []) := by
  obtain ⟨pC, pR, hC, hR, hE⟩ := hD
  have hx := go.1
  have hb := go.2.1
  refine lv_aload_n hx hb dL_law_303 rfl (lv_at hl 1 rfl) ?_
  refine lv_aload_n hx hb dL_law_304 rfl (lv_at hl 0 rfl) ?_
  refine lv_iload_n hx hb dL_law_305 rfl (lv_at hl 3 rfl) ?_
  refine lv_iconst (v := 1) hx hb dL_law_306 (by decide) ?_
  refine lv_iadd hx hb dL_law_307 ?_
  refine toI (b := nI (i + 1)) (nI_add i 1) ?_
  refine va_sld hx hb hX hbl hbA hw.2.2.1 (vp_in_nI (n := i + 1) (by omega) (by omega)) dL_law_308 ?_
  refine toI (b := xs (i + 1)) (by rw [nI_clamp (by omega)]) ?_
  refine cal_ViF (wr := rw' G h y) (wf := cw G g) (x := x) (As := [.int (xs (i + 1))]) (rest := []) hC go hw.swap dL_law_309 (And.intro q426 (And.intro q1 q381)) q379 q380 kyX3_begin ⟨Nat.le_of_ble_eq_true rfl, Nat.le_of_ble_eq_true rfl⟩ rc_X hl.1 rfl (Nat.le_of_ble_eq_true rfl) ⟨by show cells + 0 ≤ 600000; omega, by show slots + 0 ≤ 7302250; omega⟩ (fun r u H locs hp hw => ?_)
  have hw := hw.swap
  refine lv_aload_n hx hb dL_law_312 rfl (lv_at hl 2 rfl) ?_
  refine lv_aload_n hx hb dL_law_313 rfl (lv_at hl 0 rfl) ?_
  refine lv_iload_n hx hb dL_law_314 rfl (lv_at hl 3 rfl) ?_
  refine lv_iconst (v := 1) hx hb dL_law_315 (by decide) ?_
  refine lv_iadd hx hb dL_law_316 ?_
  refine toI (b := nI (i + 1)) (nI_add i 1) ?_
  refine va_sld hx hb hX hbl hbA hw.2.2.1 (vp_in_nI (n := i + 1) (by omega) (by omega)) dL_law_317 ?_
  refine toI (b := xs (i + 1)) (by rw [nI_clamp (by omega)]) ?_
  refine cal_ViF (wr := cw G g u) (wf := rw' G h) (x := y) (As := [.int (xs (i + 1))]) (rest := [.int r]) hR go hw dL_law_318 (And.intro q810 (And.intro q4 q776)) q774 q775 kyX4_begin ⟨Nat.le_of_ble_eq_true rfl, Nat.le_of_ble_eq_true rfl⟩ rc_M hl.1 rfl (Nat.le_of_ble_eq_true rfl) ⟨by show cells + 0 + 0 ≤ 600000; omega, by show slots + 0 + 0 ≤ 7302250; omega⟩ (fun r' w H locs hq hw => ?_)
  have hE := hE r u r' w hp hq
  refine lv_icmp_eq (tgt := 850) hx hb dL_law_321 (by decide) (fun _ => ?_) (fun q => absurd hE.1 q)
  refine W.widen (k := cells + 72) (n := slots + 576) (by show cells + 0 + 0 ≤ cells + 72; omega) (by show slots + 0 + 0 ≤ slots + 576; omega) ?_
  exact kk u w H locs hE.2 hw
set_option maxHeartbeats 4000000 in
set_option maxRecDepth 100000 in
theorem lo_retry (go : Go l ⟨RL, nm, "([I)Z"⟩ cL_law 4 rt0 p s m args meth c) (hX : va_X b L xs s s.heap) (hbl : b < s.heap.size) (hbA : ¬ A b) (hL : L ≤ 2048) (hi : i + 4 ≤ L) (hw : Wd G A s H locs (cw G g x ++ rw' G h y)) (hl : lv_has ls 4 [(0, .ref b), (1, .ref (g 0 0)), (2, .ref (h 0)), (3, .int (nI i))]) (hf : cells + 72 ≤ 600000 ∧ slots + 576 ≤ 7302250)
    (hD : Duo l G g h yX3_retry cX3_retry 3 (Rm 1 23) yX4_retry cX4_retry 2 (Rm 2 45) [.int (xs (i + 1))] x y k)
    (kk : ∀ (u : Sg) (w : Rg) (H1 : Heap) (locs1 : List Loc), Al u w (k + 1) → Wd G A s H1 locs1 (cw G g u ++ rw' G h w) → W p l e room_1 s m args below meth c H1 locs1 (cells + 72) (slots + 576) Q (F0 m 850 ls [])) : W p l e room_1 s m args below meth c H locs cells slots Q (F0 m 326 ls []) := by
  obtain ⟨pC, pR, hC, hR, hE⟩ := hD
  have hx := go.1
  have hb := go.2.1
  refine lv_aload_n hx hb dL_law_326 rfl (lv_at hl 1 rfl) ?_
  refine lv_aload_n hx hb dL_law_327 rfl (lv_at hl 0 rfl) ?_
  refine lv_iload_n hx hb dL_law_328 rfl (lv_at hl 3 rfl) ?_
  refine lv_iconst (v := 1) hx hb dL_law_329 (by decide) ?_
  refine lv_iadd hx hb dL_law_330 ?_
  refine toI (b := nI (i + 1)) (nI_add i 1) ?_
  refine va_sld hx hb hX hbl hbA hw.2.2.1 (vp_in_nI (n := i + 1) (by omega) (by omega)) dL_law_331 ?_
  refine toI (b := xs (i + 1)) (by rw [nI_clamp (by omega)]) ?_
  refine cal_ViF (wr := rw' G h y) (wf := cw G g) (x := x) (As := [.int (xs (i + 1))]) (rest := []) hC go hw.swap dL_law_332 (And.intro q427 (And.intro q1 q430)) q428 q429 kyX3_retry ⟨Nat.le_of_ble_eq_true rfl, Nat.le_of_ble_eq_true rfl⟩ rc_X hl.1 rfl (Nat.le_of_ble_eq_true rfl) ⟨by show cells + 0 ≤ 600000; omega, by show slots + 0 ≤ 7302250; omega⟩ (fun r u H locs hp hw => ?_)
  have hw := hw.swap
  refine lv_aload_n hx hb dL_law_335 rfl (lv_at hl 2 rfl) ?_
  refine lv_aload_n hx hb dL_law_336 rfl (lv_at hl 0 rfl) ?_
  refine lv_iload_n hx hb dL_law_337 rfl (lv_at hl 3 rfl) ?_
  refine lv_iconst (v := 1) hx hb dL_law_338 (by decide) ?_
  refine lv_iadd hx hb dL_law_339 ?_
  refine toI (b := nI (i + 1)) (nI_add i 1) ?_
  refine va_sld hx hb hX hbl hbA hw.2.2.1 (vp_in_nI (n := i + 1) (by omega) (by omega)) dL_law_340 ?_
  refine toI (b := xs (i + 1)) (by rw [nI_clamp (by omega)]) ?_
  refine cal_ViF (wr := cw G g u) (wf := rw' G h) (x := y) (As := [.int (xs (i + 1))]) (rest := [.int r]) hR go hw dL_law_341 (And.intro q811 (And.intro q4 q814)) q812 q813 kyX4_retry ⟨Nat.le_of_ble_eq_true rfl, Nat.le_of_ble_eq_true rfl⟩ rc_M hl.1 rfl (Nat.le_of_ble_eq_true rfl) ⟨by show cells + 0 + 0 ≤ 600000; omega, by show slots + 0 + 0 ≤ 7302250; omega⟩ (fun r' w H locs hq hw => ?_)
  have hE := hE r u r' w hp hq
  refine lv_icmp_eq (tgt := 850) hx hb dL_law_344 (by decide) (fun _ => ?_) (fun q => absurd hE.1 q)
  refine W.widen (k := cells + 72) (n := slots + 576) (by show cells + 0 + 0 ≤ cells + 72; omega) (by show slots + 0 + 0 ≤ slots + 576; omega) ?_
  exact kk u w H locs hE.2 hw
set_option maxHeartbeats 4000000 in
set_option maxRecDepth 100000 in
theorem lo_read (go : Go l ⟨RL, nm, "([I)Z"⟩ cL_law 4 rt0 p s m args meth c) (hX : va_X b L xs s s.heap) (hbl : b < s.heap.size) (hbA : ¬ A b) (hL : L ≤ 2048) (hi : i + 4 ≤ L) (hw : Wd G A s H locs (cw G g x ++ rw' G h y)) (hl : lv_has ls 4 [(0, .ref b), (1, .ref (g 0 0)), (2, .ref (h 0)), (3, .int (nI i))]) (hf : cells + 72 ≤ 600000 ∧ slots + 576 ≤ 7302250)
    (hD : Duo l G g h yX3_read cX3_read 4 (Rm 2 43) yX4_read cX4_read 4 (Rm 2 45) [.int (xs (i + 1)), .int (xs (i + 2))] x y k)
    (kk : ∀ (u : Sg) (w : Rg) (H1 : Heap) (locs1 : List Loc), Al u w (k + 1) → Wd G A s H1 locs1 (cw G g u ++ rw' G h w) → W p l e room_1 s m args below meth c H1 locs1 (cells + 72) (slots + 576) Q (F0 m 850 ls [])) : W p l e room_1 s m args below meth c H locs cells slots Q (F0 m 349 ls []) := by
  obtain ⟨pC, pR, hC, hR, hE⟩ := hD
  have hx := go.1
  have hb := go.2.1
  refine lv_aload_n hx hb dL_law_349 rfl (lv_at hl 1 rfl) ?_
  refine lv_aload_n hx hb dL_law_350 rfl (lv_at hl 0 rfl) ?_
  refine lv_iload_n hx hb dL_law_351 rfl (lv_at hl 3 rfl) ?_
  refine lv_iconst (v := 1) hx hb dL_law_352 (by decide) ?_
  refine lv_iadd hx hb dL_law_353 ?_
  refine toI (b := nI (i + 1)) (nI_add i 1) ?_
  refine va_sld hx hb hX hbl hbA hw.2.2.1 (vp_in_nI (n := i + 1) (by omega) (by omega)) dL_law_354 ?_
  refine toI (b := xs (i + 1)) (by rw [nI_clamp (by omega)]) ?_
  refine lv_aload_n hx hb dL_law_355 rfl (lv_at hl 0 rfl) ?_
  refine lv_iload_n hx hb dL_law_356 rfl (lv_at hl 3 rfl) ?_
  refine lv_iconst (v := 2) hx hb dL_law_357 (by decide) ?_
  refine lv_iadd hx hb dL_law_358 ?_
  refine toI (b := nI (i + 2)) (nI_add i 2) ?_
  refine va_sld hx hb hX hbl hbA hw.2.2.1 (vp_in_nI (n := i + 2) (by omega) (by omega)) dL_law_359 ?_
  refine toI (b := xs (i + 2)) (by rw [nI_clamp (by omega)]) ?_
  refine cal_ViF (wr := rw' G h y) (wf := cw G g) (x := x) (As := [.int (xs (i + 1)), .int (xs (i + 2))]) (rest := []) hC go hw.swap dL_law_360 (And.intro q431 (And.intro q1 q392)) q390 q391 kyX3_read ⟨Nat.le_of_ble_eq_true rfl, Nat.le_of_ble_eq_true rfl⟩ rc_X hl.1 rfl (Nat.le_of_ble_eq_true rfl) ⟨by show cells + 0 ≤ 600000; omega, by show slots + 0 ≤ 7302250; omega⟩ (fun r u H locs hp hw => ?_)
  have hw := hw.swap
  refine lv_aload_n hx hb dL_law_363 rfl (lv_at hl 2 rfl) ?_
  refine lv_aload_n hx hb dL_law_364 rfl (lv_at hl 0 rfl) ?_
  refine lv_iload_n hx hb dL_law_365 rfl (lv_at hl 3 rfl) ?_
  refine lv_iconst (v := 1) hx hb dL_law_366 (by decide) ?_
  refine lv_iadd hx hb dL_law_367 ?_
  refine toI (b := nI (i + 1)) (nI_add i 1) ?_
  refine va_sld hx hb hX hbl hbA hw.2.2.1 (vp_in_nI (n := i + 1) (by omega) (by omega)) dL_law_368 ?_
  refine toI (b := xs (i + 1)) (by rw [nI_clamp (by omega)]) ?_
  refine lv_aload_n hx hb dL_law_369 rfl (lv_at hl 0 rfl) ?_
  refine lv_iload_n hx hb dL_law_370 rfl (lv_at hl 3 rfl) ?_
  refine lv_iconst (v := 2) hx hb dL_law_371 (by decide) ?_
  refine lv_iadd hx hb dL_law_372 ?_
  refine toI (b := nI (i + 2)) (nI_add i 2) ?_
  refine va_sld hx hb hX hbl hbA hw.2.2.1 (vp_in_nI (n := i + 2) (by omega) (by omega)) dL_law_373 ?_
  refine toI (b := xs (i + 2)) (by rw [nI_clamp (by omega)]) ?_
  refine cal_ViF (wr := cw G g u) (wf := rw' G h) (x := y) (As := [.int (xs (i + 1)), .int (xs (i + 2))]) (rest := [.int r]) hR go hw dL_law_374 (And.intro q815 (And.intro q4 q788)) q786 q787 kyX4_read ⟨Nat.le_of_ble_eq_true rfl, Nat.le_of_ble_eq_true rfl⟩ rc_M hl.1 rfl (Nat.le_of_ble_eq_true rfl) ⟨by show cells + 0 + 0 ≤ 600000; omega, by show slots + 0 + 0 ≤ 7302250; omega⟩ (fun r' w H locs hq hw => ?_)
  have hE := hE r u r' w hp hq
  refine lv_icmp_eq (tgt := 850) hx hb dL_law_377 (by decide) (fun _ => ?_) (fun q => absurd hE.1 q)
  refine W.widen (k := cells + 72) (n := slots + 576) (by show cells + 0 + 0 ≤ cells + 72; omega) (by show slots + 0 + 0 ≤ slots + 576; omega) ?_
  exact kk u w H locs hE.2 hw
set_option maxHeartbeats 4000000 in
set_option maxRecDepth 100000 in
theorem lo_lay (go : Go l ⟨RL, nm, "([I)Z"⟩ cL_law 4 rt0 p s m args meth c) (hX : va_X b L xs s s.heap) (hbl : b < s.heap.size) (hbA : ¬ A b) (hL : L ≤ 2048) (hi : i + 4 ≤ L) (hw : Wd G A s H locs (cw G g x ++ rw' G h y)) (hl : lv_has ls 4 [(0, .ref b), (1, .ref (g 0 0)), (2, .ref (h 0)), (3, .int (nI i))]) (hf : cells + 72 ≤ 600000 ∧ slots + 576 ≤ 7302250)
    (hD : Duo l G g h yX3_lay cX3_lay 5 (Rm 1 20) yX4_lay cX4_lay 4 (Rm 2 45) [.int (xs (i + 1)), .int (xs (i + 2)), .int (xs (i + 3))] x y k)
    (kk : ∀ (u : Sg) (w : Rg) (H1 : Heap) (locs1 : List Loc), Al u w (k + 1) → Wd G A s H1 locs1 (cw G g u ++ rw' G h w) → W p l e room_1 s m args below meth c H1 locs1 (cells + 72) (slots + 576) Q (F0 m 850 ls [])) : W p l e room_1 s m args below meth c H locs cells slots Q (F0 m 382 ls []) := by
  obtain ⟨pC, pR, hC, hR, hE⟩ := hD
  have hx := go.1
  have hb := go.2.1
  refine lv_aload_n hx hb dL_law_382 rfl (lv_at hl 1 rfl) ?_
  refine lv_aload_n hx hb dL_law_383 rfl (lv_at hl 0 rfl) ?_
  refine lv_iload_n hx hb dL_law_384 rfl (lv_at hl 3 rfl) ?_
  refine lv_iconst (v := 1) hx hb dL_law_385 (by decide) ?_
  refine lv_iadd hx hb dL_law_386 ?_
  refine toI (b := nI (i + 1)) (nI_add i 1) ?_
  refine va_sld hx hb hX hbl hbA hw.2.2.1 (vp_in_nI (n := i + 1) (by omega) (by omega)) dL_law_387 ?_
  refine toI (b := xs (i + 1)) (by rw [nI_clamp (by omega)]) ?_
  refine lv_aload_n hx hb dL_law_388 rfl (lv_at hl 0 rfl) ?_
  refine lv_iload_n hx hb dL_law_389 rfl (lv_at hl 3 rfl) ?_
  refine lv_iconst (v := 2) hx hb dL_law_390 (by decide) ?_
  refine lv_iadd hx hb dL_law_391 ?_
  refine toI (b := nI (i + 2)) (nI_add i 2) ?_
  refine va_sld hx hb hX hbl hbA hw.2.2.1 (vp_in_nI (n := i + 2) (by omega) (by omega)) dL_law_392 ?_
  refine toI (b := xs (i + 2)) (by rw [nI_clamp (by omega)]) ?_
  refine lv_aload_n hx hb dL_law_393 rfl (lv_at hl 0 rfl) ?_
  refine lv_iload_n hx hb dL_law_394 rfl (lv_at hl 3 rfl) ?_
  refine lv_iconst (v := 3) hx hb dL_law_395 (by decide) ?_
  refine lv_iadd hx hb dL_law_396 ?_
  refine toI (b := nI (i + 3)) (nI_add i 3) ?_
  refine va_sld hx hb hX hbl hbA hw.2.2.1 (vp_in_nI (n := i + 3) (by omega) (by omega)) dL_law_397 ?_
  refine toI (b := xs (i + 3)) (by rw [nI_clamp (by omega)]) ?_
  refine cal_ViF (wr := rw' G h y) (wf := cw G g) (x := x) (As := [.int (xs (i + 1)), .int (xs (i + 2)), .int (xs (i + 3))]) (rest := []) hC go hw.swap dL_law_398 (And.intro q432 (And.intro q1 q405)) q403 q404 kyX3_lay ⟨Nat.le_of_ble_eq_true rfl, Nat.le_of_ble_eq_true rfl⟩ rc_X hl.1 rfl (Nat.le_of_ble_eq_true rfl) ⟨by show cells + 0 ≤ 600000; omega, by show slots + 0 ≤ 7302250; omega⟩ (fun r u H locs hp hw => ?_)
  have hw := hw.swap
  refine lv_aload_n hx hb dL_law_401 rfl (lv_at hl 2 rfl) ?_
  refine lv_aload_n hx hb dL_law_402 rfl (lv_at hl 0 rfl) ?_
  refine lv_iload_n hx hb dL_law_403 rfl (lv_at hl 3 rfl) ?_
  refine lv_iconst (v := 1) hx hb dL_law_404 (by decide) ?_
  refine lv_iadd hx hb dL_law_405 ?_
  refine toI (b := nI (i + 1)) (nI_add i 1) ?_
  refine va_sld hx hb hX hbl hbA hw.2.2.1 (vp_in_nI (n := i + 1) (by omega) (by omega)) dL_law_406 ?_
  refine toI (b := xs (i + 1)) (by rw [nI_clamp (by omega)]) ?_
  refine lv_aload_n hx hb dL_law_407 rfl (lv_at hl 0 rfl) ?_
  refine lv_iload_n hx hb dL_law_408 rfl (lv_at hl 3 rfl) ?_
  refine lv_iconst (v := 2) hx hb dL_law_409 (by decide) ?_
  refine lv_iadd hx hb dL_law_410 ?_
  refine toI (b := nI (i + 2)) (nI_add i 2) ?_
  refine va_sld hx hb hX hbl hbA hw.2.2.1 (vp_in_nI (n := i + 2) (by omega) (by omega)) dL_law_411 ?_
  refine toI (b := xs (i + 2)) (by rw [nI_clamp (by omega)]) ?_
  refine lv_aload_n hx hb dL_law_412 rfl (lv_at hl 0 rfl) ?_
  refine lv_iload_n hx hb dL_law_413 rfl (lv_at hl 3 rfl) ?_
  refine lv_iconst (v := 3) hx hb dL_law_414 (by decide) ?_
  refine lv_iadd hx hb dL_law_415 ?_
  refine toI (b := nI (i + 3)) (nI_add i 3) ?_
  refine va_sld hx hb hX hbl hbA hw.2.2.1 (vp_in_nI (n := i + 3) (by omega) (by omega)) dL_law_416 ?_
  refine toI (b := xs (i + 3)) (by rw [nI_clamp (by omega)]) ?_
  refine cal_ViF (wr := cw G g u) (wf := rw' G h) (x := y) (As := [.int (xs (i + 1)), .int (xs (i + 2)), .int (xs (i + 3))]) (rest := [.int r]) hR go hw dL_law_417 (And.intro q816 (And.intro q4 q792)) q790 q791 kyX4_lay ⟨Nat.le_of_ble_eq_true rfl, Nat.le_of_ble_eq_true rfl⟩ rc_M hl.1 rfl (Nat.le_of_ble_eq_true rfl) ⟨by show cells + 0 + 0 ≤ 600000; omega, by show slots + 0 + 0 ≤ 7302250; omega⟩ (fun r' w H locs hq hw => ?_)
  have hE := hE r u r' w hp hq
  refine lv_icmp_eq (tgt := 850) hx hb dL_law_420 (by decide) (fun _ => ?_) (fun q => absurd hE.1 q)
  refine W.widen (k := cells + 72) (n := slots + 576) (by show cells + 0 + 0 ≤ cells + 72; omega) (by show slots + 0 + 0 ≤ slots + 576; omega) ?_
  exact kk u w H locs hE.2 hw
set_option maxHeartbeats 4000000 in
set_option maxRecDepth 100000 in
theorem lo_commit (go : Go l ⟨RL, nm, "([I)Z"⟩ cL_law 4 rt0 p s m args meth c) (hX : va_X b L xs s s.heap) (hbl : b < s.heap.size) (hbA : ¬ A b) (hL : L ≤ 2048) (hi : i + 4 ≤ L) (hw : Wd G A s H locs (cw G g x ++ rw' G h y)) (hl : lv_has ls 4 [(0, .ref b), (1, .ref (g 0 0)), (2, .ref (h 0)), (3, .int (nI i))]) (hf : cells + 72 ≤ 600000 ∧ slots + 576 ≤ 7302250)
    (hD : Duo l G g h yX3_commit cX3_commit 5 ({ frames := 4, cells := 3, slots := 24, locals := 94 } : Room) yX4_commit cX4_commit 7 (Rm 3 69) [.int (xs (i + 1)), .int (xs (i + 2))] x y k)
    (kk : ∀ (u : Sg) (w : Rg) (H1 : Heap) (locs1 : List Loc), Al u w (k + 1) → Wd G A s H1 locs1 (cw G g u ++ rw' G h w) → W p l e room_1 s m args below meth c H1 locs1 (cells + 72) (slots + 576) Q (F0 m 850 ls [])) : W p l e room_1 s m args below meth c H locs cells slots Q (F0 m 425 ls []) := by
  obtain ⟨pC, pR, hC, hR, hE⟩ := hD
  have hx := go.1
  have hb := go.2.1
  refine lv_aload_n hx hb dL_law_425 rfl (lv_at hl 1 rfl) ?_
  refine lv_aload_n hx hb dL_law_426 rfl (lv_at hl 0 rfl) ?_
  refine lv_iload_n hx hb dL_law_427 rfl (lv_at hl 3 rfl) ?_
  refine lv_iconst (v := 1) hx hb dL_law_428 (by decide) ?_
  refine lv_iadd hx hb dL_law_429 ?_
  refine toI (b := nI (i + 1)) (nI_add i 1) ?_
  refine va_sld hx hb hX hbl hbA hw.2.2.1 (vp_in_nI (n := i + 1) (by omega) (by omega)) dL_law_430 ?_
  refine toI (b := xs (i + 1)) (by rw [nI_clamp (by omega)]) ?_
  refine lv_aload_n hx hb dL_law_431 rfl (lv_at hl 0 rfl) ?_
  refine lv_iload_n hx hb dL_law_432 rfl (lv_at hl 3 rfl) ?_
  refine lv_iconst (v := 2) hx hb dL_law_433 (by decide) ?_
  refine lv_iadd hx hb dL_law_434 ?_
  refine toI (b := nI (i + 2)) (nI_add i 2) ?_
  refine va_sld hx hb hX hbl hbA hw.2.2.1 (vp_in_nI (n := i + 2) (by omega) (by omega)) dL_law_435 ?_
  refine toI (b := xs (i + 2)) (by rw [nI_clamp (by omega)]) ?_
  refine cal_ViF (wr := rw' G h y) (wf := cw G g) (x := x) (As := [.int (xs (i + 1)), .int (xs (i + 2))]) (rest := []) hC go hw.swap dL_law_436 (And.intro q433 (And.intro q1 q436)) q434 q435 kyX3_commit ⟨Nat.le_of_ble_eq_true rfl, Nat.le_of_ble_eq_true rfl⟩ rc_X hl.1 rfl (Nat.le_of_ble_eq_true rfl) ⟨by show cells + 3 ≤ 600000; omega, by show slots + 24 ≤ 7302250; omega⟩ (fun r u H locs hp hw => ?_)
  have hw := hw.swap
  refine lv_aload_n hx hb dL_law_439 rfl (lv_at hl 2 rfl) ?_
  refine lv_aload_n hx hb dL_law_440 rfl (lv_at hl 0 rfl) ?_
  refine lv_iload_n hx hb dL_law_441 rfl (lv_at hl 3 rfl) ?_
  refine lv_iconst (v := 1) hx hb dL_law_442 (by decide) ?_
  refine lv_iadd hx hb dL_law_443 ?_
  refine toI (b := nI (i + 1)) (nI_add i 1) ?_
  refine va_sld hx hb hX hbl hbA hw.2.2.1 (vp_in_nI (n := i + 1) (by omega) (by omega)) dL_law_444 ?_
  refine toI (b := xs (i + 1)) (by rw [nI_clamp (by omega)]) ?_
  refine lv_aload_n hx hb dL_law_445 rfl (lv_at hl 0 rfl) ?_
  refine lv_iload_n hx hb dL_law_446 rfl (lv_at hl 3 rfl) ?_
  refine lv_iconst (v := 2) hx hb dL_law_447 (by decide) ?_
  refine lv_iadd hx hb dL_law_448 ?_
  refine toI (b := nI (i + 2)) (nI_add i 2) ?_
  refine va_sld hx hb hX hbl hbA hw.2.2.1 (vp_in_nI (n := i + 2) (by omega) (by omega)) dL_law_449 ?_
  refine toI (b := xs (i + 2)) (by rw [nI_clamp (by omega)]) ?_
  refine cal_ViF (wr := cw G g u) (wf := rw' G h) (x := y) (As := [.int (xs (i + 1)), .int (xs (i + 2))]) (rest := [.int r]) hR go hw dL_law_450 (And.intro q817 (And.intro q4 q820)) q818 q819 kyX4_commit ⟨Nat.le_of_ble_eq_true rfl, Nat.le_of_ble_eq_true rfl⟩ rc_M hl.1 rfl (Nat.le_of_ble_eq_true rfl) ⟨by show cells + 3 + 0 ≤ 600000; omega, by show slots + 24 + 0 ≤ 7302250; omega⟩ (fun r' w H locs hq hw => ?_)
  have hE := hE r u r' w hp hq
  refine lv_icmp_eq (tgt := 850) hx hb dL_law_453 (by decide) (fun _ => ?_) (fun q => absurd hE.1 q)
  refine W.widen (k := cells + 72) (n := slots + 576) (by show cells + 3 + 0 ≤ cells + 72; omega) (by show slots + 24 + 0 ≤ slots + 576; omega) ?_
  exact kk u w H locs hE.2 hw
set_option maxHeartbeats 4000000 in
set_option maxRecDepth 100000 in
theorem lo_peek (go : Go l ⟨RL, nm, "([I)Z"⟩ cL_law 4 rt0 p s m args meth c) (hX : va_X b L xs s s.heap) (hbl : b < s.heap.size) (hbA : ¬ A b) (hL : L ≤ 2048) (hi : i + 4 ≤ L) (hw : Wd G A s H locs (cw G g x ++ rw' G h y)) (hl : lv_has ls 4 [(0, .ref b), (1, .ref (g 0 0)), (2, .ref (h 0)), (3, .int (nI i))]) (hf : cells + 72 ≤ 600000 ∧ slots + 576 ≤ 7302250)
    (hD : Duo l G g h yX3_peek cX3_peek 3 (Rm 4 94) yX4_peek cX4_peek 5 (Rm 3 69) [.int (xs (i + 1)), .int (xs (i + 2))] x y k)
    (kk : ∀ (u : Sg) (w : Rg) (H1 : Heap) (locs1 : List Loc), Al u w (k + 1) → Wd G A s H1 locs1 (cw G g u ++ rw' G h w) → W p l e room_1 s m args below meth c H1 locs1 (cells + 72) (slots + 576) Q (F0 m 850 ls [])) : W p l e room_1 s m args below meth c H locs cells slots Q (F0 m 458 ls []) := by
  obtain ⟨pC, pR, hC, hR, hE⟩ := hD
  have hx := go.1
  have hb := go.2.1
  refine lv_aload_n hx hb dL_law_458 rfl (lv_at hl 1 rfl) ?_
  refine lv_aload_n hx hb dL_law_459 rfl (lv_at hl 0 rfl) ?_
  refine lv_iload_n hx hb dL_law_460 rfl (lv_at hl 3 rfl) ?_
  refine lv_iconst (v := 1) hx hb dL_law_461 (by decide) ?_
  refine lv_iadd hx hb dL_law_462 ?_
  refine toI (b := nI (i + 1)) (nI_add i 1) ?_
  refine va_sld hx hb hX hbl hbA hw.2.2.1 (vp_in_nI (n := i + 1) (by omega) (by omega)) dL_law_463 ?_
  refine toI (b := xs (i + 1)) (by rw [nI_clamp (by omega)]) ?_
  refine lv_aload_n hx hb dL_law_464 rfl (lv_at hl 0 rfl) ?_
  refine lv_iload_n hx hb dL_law_465 rfl (lv_at hl 3 rfl) ?_
  refine lv_iconst (v := 2) hx hb dL_law_466 (by decide) ?_
  refine lv_iadd hx hb dL_law_467 ?_
  refine toI (b := nI (i + 2)) (nI_add i 2) ?_
  refine va_sld hx hb hX hbl hbA hw.2.2.1 (vp_in_nI (n := i + 2) (by omega) (by omega)) dL_law_468 ?_
  refine toI (b := xs (i + 2)) (by rw [nI_clamp (by omega)]) ?_
  refine cal_ViF (wr := rw' G h y) (wf := cw G g) (x := x) (As := [.int (xs (i + 1)), .int (xs (i + 2))]) (rest := []) hC go hw.swap dL_law_469 (And.intro q484 (And.intro q1 q487)) q485 q486 kyX3_peek ⟨Nat.le_of_ble_eq_true rfl, Nat.le_of_ble_eq_true rfl⟩ rc_X hl.1 rfl (Nat.le_of_ble_eq_true rfl) ⟨by show cells + 0 ≤ 600000; omega, by show slots + 0 ≤ 7302250; omega⟩ (fun r u H locs hp hw => ?_)
  have hw := hw.swap
  refine lv_aload_n hx hb dL_law_472 rfl (lv_at hl 2 rfl) ?_
  refine lv_aload_n hx hb dL_law_473 rfl (lv_at hl 0 rfl) ?_
  refine lv_iload_n hx hb dL_law_474 rfl (lv_at hl 3 rfl) ?_
  refine lv_iconst (v := 1) hx hb dL_law_475 (by decide) ?_
  refine lv_iadd hx hb dL_law_476 ?_
  refine toI (b := nI (i + 1)) (nI_add i 1) ?_
  refine va_sld hx hb hX hbl hbA hw.2.2.1 (vp_in_nI (n := i + 1) (by omega) (by omega)) dL_law_477 ?_
  refine toI (b := xs (i + 1)) (by rw [nI_clamp (by omega)]) ?_
  refine lv_aload_n hx hb dL_law_478 rfl (lv_at hl 0 rfl) ?_
  refine lv_iload_n hx hb dL_law_479 rfl (lv_at hl 3 rfl) ?_
  refine lv_iconst (v := 2) hx hb dL_law_480 (by decide) ?_
  refine lv_iadd hx hb dL_law_481 ?_
  refine toI (b := nI (i + 2)) (nI_add i 2) ?_
  refine va_sld hx hb hX hbl hbA hw.2.2.1 (vp_in_nI (n := i + 2) (by omega) (by omega)) dL_law_482 ?_
  refine toI (b := xs (i + 2)) (by rw [nI_clamp (by omega)]) ?_
  refine cal_ViF (wr := cw G g u) (wf := rw' G h) (x := y) (As := [.int (xs (i + 1)), .int (xs (i + 2))]) (rest := [.int r]) hR go hw dL_law_483 (And.intro q858 (And.intro q4 q861)) q859 q860 kyX4_peek ⟨Nat.le_of_ble_eq_true rfl, Nat.le_of_ble_eq_true rfl⟩ rc_M hl.1 rfl (Nat.le_of_ble_eq_true rfl) ⟨by show cells + 0 + 0 ≤ 600000; omega, by show slots + 0 + 0 ≤ 7302250; omega⟩ (fun r' w H locs hq hw => ?_)
  have hE := hE r u r' w hp hq
  refine lv_icmp_eq (tgt := 850) hx hb dL_law_486 (by decide) (fun _ => ?_) (fun q => absurd hE.1 q)
  refine W.widen (k := cells + 72) (n := slots + 576) (by show cells + 0 + 0 ≤ cells + 72; omega) (by show slots + 0 + 0 ≤ slots + 576; omega) ?_
  exact kk u w H locs hE.2 hw
set_option maxHeartbeats 4000000 in
set_option maxRecDepth 100000 in
theorem lo_abort (go : Go l ⟨RL, nm, "([I)Z"⟩ cL_law 4 rt0 p s m args meth c) (hX : va_X b L xs s s.heap) (hbl : b < s.heap.size) (hbA : ¬ A b) (hL : L ≤ 2048) (hi : i + 4 ≤ L) (hw : Wd G A s H locs (cw G g x ++ rw' G h y)) (hl : lv_has ls 4 [(0, .ref b), (1, .ref (g 0 0)), (2, .ref (h 0)), (3, .int (nI i))]) (hf : cells + 72 ≤ 600000 ∧ slots + 576 ≤ 7302250)
    (hD : Duo l G g h yX3_abort cX3_abort 3 (Rm 2 43) yX4_abort cX4_abort 2 (Rm 2 45) [.int (xs (i + 1))] x y k)
    (kk : ∀ (u : Sg) (w : Rg) (H1 : Heap) (locs1 : List Loc), Al u w (k + 1) → Wd G A s H1 locs1 (cw G g u ++ rw' G h w) → W p l e room_1 s m args below meth c H1 locs1 (cells + 72) (slots + 576) Q (F0 m 850 ls [])) : W p l e room_1 s m args below meth c H locs cells slots Q (F0 m 491 ls []) := by
  obtain ⟨pC, pR, hC, hR, hE⟩ := hD
  have hx := go.1
  have hb := go.2.1
  refine lv_aload_n hx hb dL_law_491 rfl (lv_at hl 1 rfl) ?_
  refine lv_aload_n hx hb dL_law_492 rfl (lv_at hl 0 rfl) ?_
  refine lv_iload_n hx hb dL_law_493 rfl (lv_at hl 3 rfl) ?_
  refine lv_iconst (v := 1) hx hb dL_law_494 (by decide) ?_
  refine lv_iadd hx hb dL_law_495 ?_
  refine toI (b := nI (i + 1)) (nI_add i 1) ?_
  refine va_sld hx hb hX hbl hbA hw.2.2.1 (vp_in_nI (n := i + 1) (by omega) (by omega)) dL_law_496 ?_
  refine toI (b := xs (i + 1)) (by rw [nI_clamp (by omega)]) ?_
  refine cal_ViF (wr := rw' G h y) (wf := cw G g) (x := x) (As := [.int (xs (i + 1))]) (rest := []) hC go hw.swap dL_law_497 (And.intro q488 (And.intro q1 q491)) q489 q490 kyX3_abort ⟨Nat.le_of_ble_eq_true rfl, Nat.le_of_ble_eq_true rfl⟩ rc_X hl.1 rfl (Nat.le_of_ble_eq_true rfl) ⟨by show cells + 0 ≤ 600000; omega, by show slots + 0 ≤ 7302250; omega⟩ (fun r u H locs hp hw => ?_)
  have hw := hw.swap
  refine lv_aload_n hx hb dL_law_500 rfl (lv_at hl 2 rfl) ?_
  refine lv_aload_n hx hb dL_law_501 rfl (lv_at hl 0 rfl) ?_
  refine lv_iload_n hx hb dL_law_502 rfl (lv_at hl 3 rfl) ?_
  refine lv_iconst (v := 1) hx hb dL_law_503 (by decide) ?_
  refine lv_iadd hx hb dL_law_504 ?_
  refine toI (b := nI (i + 1)) (nI_add i 1) ?_
  refine va_sld hx hb hX hbl hbA hw.2.2.1 (vp_in_nI (n := i + 1) (by omega) (by omega)) dL_law_505 ?_
  refine toI (b := xs (i + 1)) (by rw [nI_clamp (by omega)]) ?_
  refine cal_ViF (wr := cw G g u) (wf := rw' G h) (x := y) (As := [.int (xs (i + 1))]) (rest := [.int r]) hR go hw dL_law_506 (And.intro q862 (And.intro q4 q865)) q863 q864 kyX4_abort ⟨Nat.le_of_ble_eq_true rfl, Nat.le_of_ble_eq_true rfl⟩ rc_M hl.1 rfl (Nat.le_of_ble_eq_true rfl) ⟨by show cells + 0 + 0 ≤ 600000; omega, by show slots + 0 + 0 ≤ 7302250; omega⟩ (fun r' w H locs hq hw => ?_)
  have hE := hE r u r' w hp hq
  refine lv_icmp_eq (tgt := 850) hx hb dL_law_509 (by decide) (fun _ => ?_) (fun q => absurd hE.1 q)
  refine W.widen (k := cells + 72) (n := slots + 576) (by show cells + 0 + 0 ≤ cells + 72; omega) (by show slots + 0 + 0 ≤ slots + 576; omega) ?_
  exact kk u w H locs hE.2 hw
set_option maxHeartbeats 4000000 in
set_option maxRecDepth 100000 in
theorem lo_sweep (go : Go l ⟨RL, nm, "([I)Z"⟩ cL_law 4 rt0 p s m args meth c) (hX : va_X b L xs s s.heap) (hbl : b < s.heap.size) (hbA : ¬ A b) (hL : L ≤ 2048) (hi : i + 4 ≤ L) (hw : Wd G A s H locs (cw G g x ++ rw' G h y)) (hl : lv_has ls 4 [(0, .ref b), (1, .ref (g 0 0)), (2, .ref (h 0)), (3, .int (nI i))]) (hf : cells + 72 ≤ 600000 ∧ slots + 576 ≤ 7302250)
    (hD : Duo l G g h yX3_sweep cX3_sweep 6 (Rm 3 64) yX4_sweep cX4_sweep 3 (Rm 2 44) [] x y k)
    (kk : ∀ (u : Sg) (w : Rg) (H1 : Heap) (locs1 : List Loc), Al u w (k + 1) → Wd G A s H1 locs1 (cw G g u ++ rw' G h w) → W p l e room_1 s m args below meth c H1 locs1 (cells + 72) (slots + 576) Q (F0 m 850 ls [])) : W p l e room_1 s m args below meth c H locs cells slots Q (F0 m 514 ls []) := by
  obtain ⟨pC, pR, hC, hR, hE⟩ := hD
  have hx := go.1
  have hb := go.2.1
  refine lv_aload_n hx hb dL_law_514 rfl (lv_at hl 1 rfl) ?_
  refine cal_ViF (wr := rw' G h y) (wf := cw G g) (x := x) (As := []) (rest := []) hC go hw.swap dL_law_515 (And.intro q492 (And.intro q1 q495)) q493 q494 kyX3_sweep ⟨Nat.le_of_ble_eq_true rfl, Nat.le_of_ble_eq_true rfl⟩ rc_X hl.1 rfl (Nat.le_of_ble_eq_true rfl) ⟨by show cells + 0 ≤ 600000; omega, by show slots + 0 ≤ 7302250; omega⟩ (fun r u H locs hp hw => ?_)
  have hw := hw.swap
  refine lv_aload_n hx hb dL_law_518 rfl (lv_at hl 2 rfl) ?_
  refine cal_ViF (wr := cw G g u) (wf := rw' G h) (x := y) (As := []) (rest := [.int r]) hR go hw dL_law_519 (And.intro q866 (And.intro q4 q869)) q867 q868 kyX4_sweep ⟨Nat.le_of_ble_eq_true rfl, Nat.le_of_ble_eq_true rfl⟩ rc_M hl.1 rfl (Nat.le_of_ble_eq_true rfl) ⟨by show cells + 0 + 0 ≤ 600000; omega, by show slots + 0 + 0 ≤ 7302250; omega⟩ (fun r' w H locs hq hw => ?_)
  have hE := hE r u r' w hp hq
  refine lv_icmp_eq (tgt := 850) hx hb dL_law_522 (by decide) (fun _ => ?_) (fun q => absurd hE.1 q)
  refine W.widen (k := cells + 72) (n := slots + 576) (by show cells + 0 + 0 ≤ cells + 72; omega) (by show slots + 0 + 0 ≤ slots + 576; omega) ?_
  exact kk u w H locs hE.2 hw
set_option maxHeartbeats 4000000 in
set_option maxRecDepth 100000 in
theorem lo_send (go : Go l ⟨RL, nm, "([I)Z"⟩ cL_law 4 rt0 p s m args meth c) (hX : va_X b L xs s s.heap) (hbl : b < s.heap.size) (hbA : ¬ A b) (hL : L ≤ 2048) (hi : i + 4 ≤ L) (hw : Wd G A s H locs (cw G g x ++ rw' G h y)) (hl : lv_has ls 4 [(0, .ref b), (1, .ref (g 0 0)), (2, .ref (h 0)), (3, .int (nI i))]) (hf : cells + 72 ≤ 600000 ∧ slots + 576 ≤ 7302250)
    (hD : Duo l G g h yX3_send cX3_send 3 (Rm 1 22) yX4_send cX4_send 2 (Rm 2 45) [.int (xs (i + 1))] x y k)
    (kk : ∀ (u : Sg) (w : Rg) (H1 : Heap) (locs1 : List Loc), Al u w (k + 1) → Wd G A s H1 locs1 (cw G g u ++ rw' G h w) → W p l e room_1 s m args below meth c H1 locs1 (cells + 72) (slots + 576) Q (F0 m 850 ls [])) : W p l e room_1 s m args below meth c H locs cells slots Q (F0 m 527 ls []) := by
  obtain ⟨pC, pR, hC, hR, hE⟩ := hD
  have hx := go.1
  have hb := go.2.1
  refine lv_aload_n hx hb dL_law_527 rfl (lv_at hl 1 rfl) ?_
  refine lv_aload_n hx hb dL_law_528 rfl (lv_at hl 0 rfl) ?_
  refine lv_iload_n hx hb dL_law_529 rfl (lv_at hl 3 rfl) ?_
  refine lv_iconst (v := 1) hx hb dL_law_530 (by decide) ?_
  refine lv_iadd hx hb dL_law_531 ?_
  refine toI (b := nI (i + 1)) (nI_add i 1) ?_
  refine va_sld hx hb hX hbl hbA hw.2.2.1 (vp_in_nI (n := i + 1) (by omega) (by omega)) dL_law_532 ?_
  refine toI (b := xs (i + 1)) (by rw [nI_clamp (by omega)]) ?_
  refine cal_ViF (wr := rw' G h y) (wf := cw G g) (x := x) (As := [.int (xs (i + 1))]) (rest := []) hC go hw.swap dL_law_533 (And.intro q496 (And.intro q1 q415)) q413 q414 kyX3_send ⟨Nat.le_of_ble_eq_true rfl, Nat.le_of_ble_eq_true rfl⟩ rc_X hl.1 rfl (Nat.le_of_ble_eq_true rfl) ⟨by show cells + 0 ≤ 600000; omega, by show slots + 0 ≤ 7302250; omega⟩ (fun r u H locs hp hw => ?_)
  have hw := hw.swap
  refine lv_aload_n hx hb dL_law_536 rfl (lv_at hl 2 rfl) ?_
  refine lv_aload_n hx hb dL_law_537 rfl (lv_at hl 0 rfl) ?_
  refine lv_iload_n hx hb dL_law_538 rfl (lv_at hl 3 rfl) ?_
  refine lv_iconst (v := 1) hx hb dL_law_539 (by decide) ?_
  refine lv_iadd hx hb dL_law_540 ?_
  refine toI (b := nI (i + 1)) (nI_add i 1) ?_
  refine va_sld hx hb hX hbl hbA hw.2.2.1 (vp_in_nI (n := i + 1) (by omega) (by omega)) dL_law_541 ?_
  refine toI (b := xs (i + 1)) (by rw [nI_clamp (by omega)]) ?_
  refine cal_ViF (wr := cw G g u) (wf := rw' G h) (x := y) (As := [.int (xs (i + 1))]) (rest := [.int r]) hR go hw dL_law_542 (And.intro q870 (And.intro q4 q799)) q797 q798 kyX4_send ⟨Nat.le_of_ble_eq_true rfl, Nat.le_of_ble_eq_true rfl⟩ rc_M hl.1 rfl (Nat.le_of_ble_eq_true rfl) ⟨by show cells + 0 + 0 ≤ 600000; omega, by show slots + 0 + 0 ≤ 7302250; omega⟩ (fun r' w H locs hq hw => ?_)
  have hE := hE r u r' w hp hq
  refine lv_icmp_eq (tgt := 850) hx hb dL_law_545 (by decide) (fun _ => ?_) (fun q => absurd hE.1 q)
  refine W.widen (k := cells + 72) (n := slots + 576) (by show cells + 0 + 0 ≤ cells + 72; omega) (by show slots + 0 + 0 ≤ slots + 576; omega) ?_
  exact kk u w H locs hE.2 hw
set_option maxHeartbeats 4000000 in
set_option maxRecDepth 100000 in
theorem lo_vote (go : Go l ⟨RL, nm, "([I)Z"⟩ cL_law 4 rt0 p s m args meth c) (hX : va_X b L xs s s.heap) (hbl : b < s.heap.size) (hbA : ¬ A b) (hL : L ≤ 2048) (hi : i + 4 ≤ L) (hw : Wd G A s H locs (cw G g x ++ rw' G h y)) (hl : lv_has ls 4 [(0, .ref b), (1, .ref (g 0 0)), (2, .ref (h 0)), (3, .int (nI i))]) (hf : cells + 72 ≤ 600000 ∧ slots + 576 ≤ 7302250)
    (hD : Duo l G g h yX3_vote cX3_vote 4 (Rm 4 87) yX4_vote cX4_vote 6 (Rm 2 44) [.int (xs (i + 1))] x y k)
    (kk : ∀ (u : Sg) (w : Rg) (H1 : Heap) (locs1 : List Loc), Al u w (k + 1) → Wd G A s H1 locs1 (cw G g u ++ rw' G h w) → W p l e room_1 s m args below meth c H1 locs1 (cells + 72) (slots + 576) Q (F0 m 850 ls [])) : W p l e room_1 s m args below meth c H locs cells slots Q (F0 m 550 ls []) := by
  obtain ⟨pC, pR, hC, hR, hE⟩ := hD
  have hx := go.1
  have hb := go.2.1
  refine lv_aload_n hx hb dL_law_550 rfl (lv_at hl 1 rfl) ?_
  refine lv_aload_n hx hb dL_law_551 rfl (lv_at hl 0 rfl) ?_
  refine lv_iload_n hx hb dL_law_552 rfl (lv_at hl 3 rfl) ?_
  refine lv_iconst (v := 1) hx hb dL_law_553 (by decide) ?_
  refine lv_iadd hx hb dL_law_554 ?_
  refine toI (b := nI (i + 1)) (nI_add i 1) ?_
  refine va_sld hx hb hX hbl hbA hw.2.2.1 (vp_in_nI (n := i + 1) (by omega) (by omega)) dL_law_555 ?_
  refine toI (b := xs (i + 1)) (by rw [nI_clamp (by omega)]) ?_
  refine cal_ViF (wr := rw' G h y) (wf := cw G g) (x := x) (As := [.int (xs (i + 1))]) (rest := []) hC go hw.swap dL_law_556 (And.intro q497 (And.intro q1 q500)) q498 q499 kyX3_vote ⟨Nat.le_of_ble_eq_true rfl, Nat.le_of_ble_eq_true rfl⟩ rc_X hl.1 rfl (Nat.le_of_ble_eq_true rfl) ⟨by show cells + 0 ≤ 600000; omega, by show slots + 0 ≤ 7302250; omega⟩ (fun r u H locs hp hw => ?_)
  have hw := hw.swap
  refine lv_aload_n hx hb dL_law_559 rfl (lv_at hl 2 rfl) ?_
  refine lv_aload_n hx hb dL_law_560 rfl (lv_at hl 0 rfl) ?_
  refine lv_iload_n hx hb dL_law_561 rfl (lv_at hl 3 rfl) ?_
  refine lv_iconst (v := 1) hx hb dL_law_562 (by decide) ?_
  refine lv_iadd hx hb dL_law_563 ?_
  refine toI (b := nI (i + 1)) (nI_add i 1) ?_
  refine va_sld hx hb hX hbl hbA hw.2.2.1 (vp_in_nI (n := i + 1) (by omega) (by omega)) dL_law_564 ?_
  refine toI (b := xs (i + 1)) (by rw [nI_clamp (by omega)]) ?_
  refine cal_ViF (wr := cw G g u) (wf := rw' G h) (x := y) (As := [.int (xs (i + 1))]) (rest := [.int r]) hR go hw dL_law_565 (And.intro q871 (And.intro q4 q874)) q872 q873 kyX4_vote ⟨Nat.le_of_ble_eq_true rfl, Nat.le_of_ble_eq_true rfl⟩ rc_M hl.1 rfl (Nat.le_of_ble_eq_true rfl) ⟨by show cells + 0 + 0 ≤ 600000; omega, by show slots + 0 + 0 ≤ 7302250; omega⟩ (fun r' w H locs hq hw => ?_)
  have hE := hE r u r' w hp hq
  refine lv_icmp_eq (tgt := 850) hx hb dL_law_568 (by decide) (fun _ => ?_) (fun q => absurd hE.1 q)
  refine W.widen (k := cells + 72) (n := slots + 576) (by show cells + 0 + 0 ≤ cells + 72; omega) (by show slots + 0 + 0 ≤ slots + 576; omega) ?_
  exact kk u w H locs hE.2 hw
set_option maxHeartbeats 4000000 in
set_option maxRecDepth 100000 in
theorem lo_settle (go : Go l ⟨RL, nm, "([I)Z"⟩ cL_law 4 rt0 p s m args meth c) (hX : va_X b L xs s s.heap) (hbl : b < s.heap.size) (hbA : ¬ A b) (hL : L ≤ 2048) (hi : i + 4 ≤ L) (hw : Wd G A s H locs (cw G g x ++ rw' G h y)) (hl : lv_has ls 4 [(0, .ref b), (1, .ref (g 0 0)), (2, .ref (h 0)), (3, .int (nI i))]) (hf : cells + 72 ≤ 600000 ∧ slots + 576 ≤ 7302250)
    (hD : Duo l G g h yX3_settle cX3_settle 3 ({ frames := 4, cells := 3, slots := 24, locals := 76 } : Room) yX4_settle cX4_settle 3 (Rm 3 68) [] x y k)
    (kk : ∀ (u : Sg) (w : Rg) (H1 : Heap) (locs1 : List Loc), Al u w (k + 1) → Wd G A s H1 locs1 (cw G g u ++ rw' G h w) → W p l e room_1 s m args below meth c H1 locs1 (cells + 72) (slots + 576) Q (F0 m 850 ls [])) : W p l e room_1 s m args below meth c H locs cells slots Q (F0 m 573 ls []) := by
  obtain ⟨pC, pR, hC, hR, hE⟩ := hD
  have hx := go.1
  have hb := go.2.1
  refine lv_aload_n hx hb dL_law_573 rfl (lv_at hl 1 rfl) ?_
  refine cal_ViF (wr := rw' G h y) (wf := cw G g) (x := x) (As := []) (rest := []) hC go hw.swap dL_law_574 (And.intro q527 (And.intro q1 q530)) q528 q529 kyX3_settle ⟨Nat.le_of_ble_eq_true rfl, Nat.le_of_ble_eq_true rfl⟩ rc_X hl.1 rfl (Nat.le_of_ble_eq_true rfl) ⟨by show cells + 3 ≤ 600000; omega, by show slots + 24 ≤ 7302250; omega⟩ (fun r u H locs hp hw => ?_)
  have hw := hw.swap
  refine lv_aload_n hx hb dL_law_577 rfl (lv_at hl 2 rfl) ?_
  refine cal_ViF (wr := cw G g u) (wf := rw' G h) (x := y) (As := []) (rest := [.int r]) hR go hw dL_law_578 (And.intro q879 (And.intro q4 q882)) q880 q881 kyX4_settle ⟨Nat.le_of_ble_eq_true rfl, Nat.le_of_ble_eq_true rfl⟩ rc_M hl.1 rfl (Nat.le_of_ble_eq_true rfl) ⟨by show cells + 3 + 0 ≤ 600000; omega, by show slots + 24 + 0 ≤ 7302250; omega⟩ (fun r' w H locs hq hw => ?_)
  have hE := hE r u r' w hp hq
  refine lv_icmp_eq (tgt := 850) hx hb dL_law_581 (by decide) (fun _ => ?_) (fun q => absurd hE.1 q)
  refine W.widen (k := cells + 72) (n := slots + 576) (by show cells + 3 + 0 ≤ cells + 72; omega) (by show slots + 24 + 0 ≤ slots + 576; omega) ?_
  exact kk u w H locs hE.2 hw
set_option maxHeartbeats 4000000 in
set_option maxRecDepth 100000 in
theorem lo_deal (go : Go l ⟨RL, nm, "([I)Z"⟩ cL_law 4 rt0 p s m args meth c) (hX : va_X b L xs s s.heap) (hbl : b < s.heap.size) (hbA : ¬ A b) (hL : L ≤ 2048) (hi : i + 4 ≤ L) (hw : Wd G A s H locs (cw G g x ++ rw' G h y)) (hl : lv_has ls 4 [(0, .ref b), (1, .ref (g 0 0)), (2, .ref (h 0)), (3, .int (nI i))]) (hf : cells + 72 ≤ 600000 ∧ slots + 576 ≤ 7302250)
    (hD : Duo l G g h yX3_deal cX3_deal 4 (Rm 3 64) yX4_deal cX4_deal 3 (Rm 2 45) [.int (xs (i + 1)), .int (xs (i + 2))] x y k)
    (kk : ∀ (u : Sg) (w : Rg) (H1 : Heap) (locs1 : List Loc), Al u w (k + 1) → Wd G A s H1 locs1 (cw G g u ++ rw' G h w) → W p l e room_1 s m args below meth c H1 locs1 (cells + 72) (slots + 576) Q (F0 m 850 ls [])) : W p l e room_1 s m args below meth c H locs cells slots Q (F0 m 586 ls []) := by
  obtain ⟨pC, pR, hC, hR, hE⟩ := hD
  have hx := go.1
  have hb := go.2.1
  refine lv_aload_n hx hb dL_law_586 rfl (lv_at hl 1 rfl) ?_
  refine lv_aload_n hx hb dL_law_587 rfl (lv_at hl 0 rfl) ?_
  refine lv_iload_n hx hb dL_law_588 rfl (lv_at hl 3 rfl) ?_
  refine lv_iconst (v := 1) hx hb dL_law_589 (by decide) ?_
  refine lv_iadd hx hb dL_law_590 ?_
  refine toI (b := nI (i + 1)) (nI_add i 1) ?_
  refine va_sld hx hb hX hbl hbA hw.2.2.1 (vp_in_nI (n := i + 1) (by omega) (by omega)) dL_law_591 ?_
  refine toI (b := xs (i + 1)) (by rw [nI_clamp (by omega)]) ?_
  refine lv_aload_n hx hb dL_law_592 rfl (lv_at hl 0 rfl) ?_
  refine lv_iload_n hx hb dL_law_593 rfl (lv_at hl 3 rfl) ?_
  refine lv_iconst (v := 2) hx hb dL_law_594 (by decide) ?_
  refine lv_iadd hx hb dL_law_595 ?_
  refine toI (b := nI (i + 2)) (nI_add i 2) ?_
  refine va_sld hx hb hX hbl hbA hw.2.2.1 (vp_in_nI (n := i + 2) (by omega) (by omega)) dL_law_596 ?_
  refine toI (b := xs (i + 2)) (by rw [nI_clamp (by omega)]) ?_
  refine cal_ViF (wr := rw' G h y) (wf := cw G g) (x := x) (As := [.int (xs (i + 1)), .int (xs (i + 2))]) (rest := []) hC go hw.swap dL_law_597 (And.intro q539 (And.intro q1 q542)) q540 q541 kyX3_deal ⟨Nat.le_of_ble_eq_true rfl, Nat.le_of_ble_eq_true rfl⟩ rc_X hl.1 rfl (Nat.le_of_ble_eq_true rfl) ⟨by show cells + 0 ≤ 600000; omega, by show slots + 0 ≤ 7302250; omega⟩ (fun r u H locs hp hw => ?_)
  have hw := hw.swap
  refine lv_aload_n hx hb dL_law_600 rfl (lv_at hl 2 rfl) ?_
  refine lv_aload_n hx hb dL_law_601 rfl (lv_at hl 0 rfl) ?_
  refine lv_iload_n hx hb dL_law_602 rfl (lv_at hl 3 rfl) ?_
  refine lv_iconst (v := 1) hx hb dL_law_603 (by decide) ?_
  refine lv_iadd hx hb dL_law_604 ?_
  refine toI (b := nI (i + 1)) (nI_add i 1) ?_
  refine va_sld hx hb hX hbl hbA hw.2.2.1 (vp_in_nI (n := i + 1) (by omega) (by omega)) dL_law_605 ?_
  refine toI (b := xs (i + 1)) (by rw [nI_clamp (by omega)]) ?_
  refine lv_aload_n hx hb dL_law_606 rfl (lv_at hl 0 rfl) ?_
  refine lv_iload_n hx hb dL_law_607 rfl (lv_at hl 3 rfl) ?_
  refine lv_iconst (v := 2) hx hb dL_law_608 (by decide) ?_
  refine lv_iadd hx hb dL_law_609 ?_
  refine toI (b := nI (i + 2)) (nI_add i 2) ?_
  refine va_sld hx hb hX hbl hbA hw.2.2.1 (vp_in_nI (n := i + 2) (by omega) (by omega)) dL_law_610 ?_
  refine toI (b := xs (i + 2)) (by rw [nI_clamp (by omega)]) ?_
  refine cal_ViF (wr := cw G g u) (wf := rw' G h) (x := y) (As := [.int (xs (i + 1)), .int (xs (i + 2))]) (rest := [.int r]) hR go hw dL_law_611 (And.intro q883 (And.intro q4 q886)) q884 q885 kyX4_deal ⟨Nat.le_of_ble_eq_true rfl, Nat.le_of_ble_eq_true rfl⟩ rc_M hl.1 rfl (Nat.le_of_ble_eq_true rfl) ⟨by show cells + 0 + 0 ≤ 600000; omega, by show slots + 0 + 0 ≤ 7302250; omega⟩ (fun r' w H locs hq hw => ?_)
  have hE := hE r u r' w hp hq
  refine lv_icmp_eq (tgt := 850) hx hb dL_law_614 (by decide) (fun _ => ?_) (fun q => absurd hE.1 q)
  refine W.widen (k := cells + 72) (n := slots + 576) (by show cells + 0 + 0 ≤ cells + 72; omega) (by show slots + 0 + 0 ≤ slots + 576; omega) ?_
  exact kk u w H locs hE.2 hw
set_option maxHeartbeats 4000000 in
set_option maxRecDepth 100000 in
theorem lo_noted (go : Go l ⟨RL, nm, "([I)Z"⟩ cL_law 4 rt0 p s m args meth c) (hX : va_X b L xs s s.heap) (hbl : b < s.heap.size) (hbA : ¬ A b) (hL : L ≤ 2048) (hi : i + 4 ≤ L) (hw : Wd G A s H locs (cw G g x ++ rw' G h y)) (hl : lv_has ls 4 [(0, .ref b), (1, .ref (g 0 0)), (2, .ref (h 0)), (3, .int (nI i))]) (hf : cells + 72 ≤ 600000 ∧ slots + 576 ≤ 7302250)
    (hD : Duo l G g h yX3_noted cX3_noted 5 (Rm 2 41) yX4_noted cX4_noted 5 (Rm 2 45) [.int (xs (i + 1)), .int (xs (i + 2)), .int (xs (i + 3))] x y k)
    (kk : ∀ (u : Sg) (w : Rg) (H1 : Heap) (locs1 : List Loc), Al u w (k + 1) → Wd G A s H1 locs1 (cw G g u ++ rw' G h w) → W p l e room_1 s m args below meth c H1 locs1 (cells + 72) (slots + 576) Q (F0 m 850 ls [])) : W p l e room_1 s m args below meth c H locs cells slots Q (F0 m 619 ls []) := by
  obtain ⟨pC, pR, hC, hR, hE⟩ := hD
  have hx := go.1
  have hb := go.2.1
  refine lv_aload_n hx hb dL_law_619 rfl (lv_at hl 1 rfl) ?_
  refine lv_aload_n hx hb dL_law_620 rfl (lv_at hl 0 rfl) ?_
  refine lv_iload_n hx hb dL_law_621 rfl (lv_at hl 3 rfl) ?_
  refine lv_iconst (v := 1) hx hb dL_law_622 (by decide) ?_
  refine lv_iadd hx hb dL_law_623 ?_
  refine toI (b := nI (i + 1)) (nI_add i 1) ?_
  refine va_sld hx hb hX hbl hbA hw.2.2.1 (vp_in_nI (n := i + 1) (by omega) (by omega)) dL_law_624 ?_
  refine toI (b := xs (i + 1)) (by rw [nI_clamp (by omega)]) ?_
  refine lv_aload_n hx hb dL_law_625 rfl (lv_at hl 0 rfl) ?_
  refine lv_iload_n hx hb dL_law_626 rfl (lv_at hl 3 rfl) ?_
  refine lv_iconst (v := 2) hx hb dL_law_627 (by decide) ?_
  refine lv_iadd hx hb dL_law_628 ?_
  refine toI (b := nI (i + 2)) (nI_add i 2) ?_
  refine va_sld hx hb hX hbl hbA hw.2.2.1 (vp_in_nI (n := i + 2) (by omega) (by omega)) dL_law_629 ?_
  refine toI (b := xs (i + 2)) (by rw [nI_clamp (by omega)]) ?_
  refine lv_aload_n hx hb dL_law_630 rfl (lv_at hl 0 rfl) ?_
  refine lv_iload_n hx hb dL_law_631 rfl (lv_at hl 3 rfl) ?_
  refine lv_iconst (v := 3) hx hb dL_law_632 (by decide) ?_
  refine lv_iadd hx hb dL_law_633 ?_
  refine toI (b := nI (i + 3)) (nI_add i 3) ?_
  refine va_sld hx hb hX hbl hbA hw.2.2.1 (vp_in_nI (n := i + 3) (by omega) (by omega)) dL_law_634 ?_
  refine toI (b := xs (i + 3)) (by rw [nI_clamp (by omega)]) ?_
  refine cal_ViF (wr := rw' G h y) (wf := cw G g) (x := x) (As := [.int (xs (i + 1)), .int (xs (i + 2)), .int (xs (i + 3))]) (rest := []) hC go hw.swap dL_law_635 (And.intro q543 (And.intro q1 q546)) q544 q545 kyX3_noted ⟨Nat.le_of_ble_eq_true rfl, Nat.le_of_ble_eq_true rfl⟩ rc_X hl.1 rfl (Nat.le_of_ble_eq_true rfl) ⟨by show cells + 0 ≤ 600000; omega, by show slots + 0 ≤ 7302250; omega⟩ (fun r u H locs hp hw => ?_)
  have hw := hw.swap
  refine lv_aload_n hx hb dL_law_638 rfl (lv_at hl 2 rfl) ?_
  refine lv_aload_n hx hb dL_law_639 rfl (lv_at hl 0 rfl) ?_
  refine lv_iload_n hx hb dL_law_640 rfl (lv_at hl 3 rfl) ?_
  refine lv_iconst (v := 1) hx hb dL_law_641 (by decide) ?_
  refine lv_iadd hx hb dL_law_642 ?_
  refine toI (b := nI (i + 1)) (nI_add i 1) ?_
  refine va_sld hx hb hX hbl hbA hw.2.2.1 (vp_in_nI (n := i + 1) (by omega) (by omega)) dL_law_643 ?_
  refine toI (b := xs (i + 1)) (by rw [nI_clamp (by omega)]) ?_
  refine lv_aload_n hx hb dL_law_644 rfl (lv_at hl 0 rfl) ?_
  refine lv_iload_n hx hb dL_law_645 rfl (lv_at hl 3 rfl) ?_
  refine lv_iconst (v := 2) hx hb dL_law_646 (by decide) ?_
  refine lv_iadd hx hb dL_law_647 ?_
  refine toI (b := nI (i + 2)) (nI_add i 2) ?_
  refine va_sld hx hb hX hbl hbA hw.2.2.1 (vp_in_nI (n := i + 2) (by omega) (by omega)) dL_law_648 ?_
  refine toI (b := xs (i + 2)) (by rw [nI_clamp (by omega)]) ?_
  refine lv_aload_n hx hb dL_law_649 rfl (lv_at hl 0 rfl) ?_
  refine lv_iload_n hx hb dL_law_650 rfl (lv_at hl 3 rfl) ?_
  refine lv_iconst (v := 3) hx hb dL_law_651 (by decide) ?_
  refine lv_iadd hx hb dL_law_652 ?_
  refine toI (b := nI (i + 3)) (nI_add i 3) ?_
  refine va_sld hx hb hX hbl hbA hw.2.2.1 (vp_in_nI (n := i + 3) (by omega) (by omega)) dL_law_653 ?_
  refine toI (b := xs (i + 3)) (by rw [nI_clamp (by omega)]) ?_
  refine cal_ViF (wr := cw G g u) (wf := rw' G h) (x := y) (As := [.int (xs (i + 1)), .int (xs (i + 2)), .int (xs (i + 3))]) (rest := [.int r]) hR go hw dL_law_654 (And.intro q887 (And.intro q4 q890)) q888 q889 kyX4_noted ⟨Nat.le_of_ble_eq_true rfl, Nat.le_of_ble_eq_true rfl⟩ rc_M hl.1 rfl (Nat.le_of_ble_eq_true rfl) ⟨by show cells + 0 + 0 ≤ 600000; omega, by show slots + 0 + 0 ≤ 7302250; omega⟩ (fun r' w H locs hq hw => ?_)
  have hE := hE r u r' w hp hq
  refine lv_icmp_eq (tgt := 850) hx hb dL_law_657 (by decide) (fun _ => ?_) (fun q => absurd hE.1 q)
  refine W.widen (k := cells + 72) (n := slots + 576) (by show cells + 0 + 0 ≤ cells + 72; omega) (by show slots + 0 + 0 ≤ slots + 576; omega) ?_
  exact kk u w H locs hE.2 hw
set_option maxHeartbeats 4000000 in
set_option maxRecDepth 100000 in
theorem lo_sent (go : Go l ⟨RL, nm, "([I)Z"⟩ cL_law 4 rt0 p s m args meth c) (hX : va_X b L xs s s.heap) (hbl : b < s.heap.size) (hbA : ¬ A b) (hL : L ≤ 2048) (hi : i + 4 ≤ L) (hw : Wd G A s H locs (cw G g x ++ rw' G h y)) (hl : lv_has ls 4 [(0, .ref b), (1, .ref (g 0 0)), (2, .ref (h 0)), (3, .int (nI i))]) (hf : cells + 72 ≤ 600000 ∧ slots + 576 ≤ 7302250)
    (hD : Duo l G g h yX3_sent cX3_sent 3 (Rm 2 51) yX4_sent cX4_sent 5 (Rm 0 0) [.int (xs (i + 1))] x y k)
    (kk : ∀ (u : Sg) (w : Rg) (H1 : Heap) (locs1 : List Loc), Al u w (k + 1) → Wd G A s H1 locs1 (cw G g u ++ rw' G h w) → W p l e room_1 s m args below meth c H1 locs1 (cells + 72) (slots + 576) Q (F0 m 850 ls [])) : W p l e room_1 s m args below meth c H locs cells slots Q (F0 m 662 ls []) := by
  obtain ⟨pC, pR, hC, hR, hE⟩ := hD
  have hx := go.1
  have hb := go.2.1
  refine lv_aload_n hx hb dL_law_662 rfl (lv_at hl 1 rfl) ?_
  refine lv_aload_n hx hb dL_law_663 rfl (lv_at hl 0 rfl) ?_
  refine lv_iload_n hx hb dL_law_664 rfl (lv_at hl 3 rfl) ?_
  refine lv_iconst (v := 1) hx hb dL_law_665 (by decide) ?_
  refine lv_iadd hx hb dL_law_666 ?_
  refine toI (b := nI (i + 1)) (nI_add i 1) ?_
  refine va_sld hx hb hX hbl hbA hw.2.2.1 (vp_in_nI (n := i + 1) (by omega) (by omega)) dL_law_667 ?_
  refine toI (b := xs (i + 1)) (by rw [nI_clamp (by omega)]) ?_
  refine cal_ViF (wr := rw' G h y) (wf := cw G g) (x := x) (As := [.int (xs (i + 1))]) (rest := []) hC go hw.swap dL_law_668 (And.intro q547 (And.intro q1 q550)) q548 q549 kyX3_sent ⟨Nat.le_of_ble_eq_true rfl, Nat.le_of_ble_eq_true rfl⟩ rc_X hl.1 rfl (Nat.le_of_ble_eq_true rfl) ⟨by show cells + 0 ≤ 600000; omega, by show slots + 0 ≤ 7302250; omega⟩ (fun r u H locs hp hw => ?_)
  have hw := hw.swap
  refine lv_aload_n hx hb dL_law_671 rfl (lv_at hl 2 rfl) ?_
  refine lv_aload_n hx hb dL_law_672 rfl (lv_at hl 0 rfl) ?_
  refine lv_iload_n hx hb dL_law_673 rfl (lv_at hl 3 rfl) ?_
  refine lv_iconst (v := 1) hx hb dL_law_674 (by decide) ?_
  refine lv_iadd hx hb dL_law_675 ?_
  refine toI (b := nI (i + 1)) (nI_add i 1) ?_
  refine va_sld hx hb hX hbl hbA hw.2.2.1 (vp_in_nI (n := i + 1) (by omega) (by omega)) dL_law_676 ?_
  refine toI (b := xs (i + 1)) (by rw [nI_clamp (by omega)]) ?_
  refine cal_ViF (wr := cw G g u) (wf := rw' G h) (x := y) (As := [.int (xs (i + 1))]) (rest := [.int r]) hR go hw dL_law_677 (And.intro q891 (And.intro q4 q894)) q892 q893 kyX4_sent ⟨Nat.le_of_ble_eq_true rfl, Nat.le_of_ble_eq_true rfl⟩ rc_M hl.1 rfl (Nat.le_of_ble_eq_true rfl) ⟨by show cells + 0 + 0 ≤ 600000; omega, by show slots + 0 + 0 ≤ 7302250; omega⟩ (fun r' w H locs hq hw => ?_)
  have hE := hE r u r' w hp hq
  refine lv_icmp_eq (tgt := 850) hx hb dL_law_680 (by decide) (fun _ => ?_) (fun q => absurd hE.1 q)
  refine W.widen (k := cells + 72) (n := slots + 576) (by show cells + 0 + 0 ≤ cells + 72; omega) (by show slots + 0 + 0 ≤ slots + 576; omega) ?_
  exact kk u w H locs hE.2 hw
set_option maxHeartbeats 4000000 in
set_option maxRecDepth 100000 in
theorem lo_ballot (go : Go l ⟨RL, nm, "([I)Z"⟩ cL_law 4 rt0 p s m args meth c) (hX : va_X b L xs s s.heap) (hbl : b < s.heap.size) (hbA : ¬ A b) (hL : L ≤ 2048) (hi : i + 4 ≤ L) (hw : Wd G A s H locs (cw G g x ++ rw' G h y)) (hl : lv_has ls 4 [(0, .ref b), (1, .ref (g 0 0)), (2, .ref (h 0)), (3, .int (nI i))]) (hf : cells + 72 ≤ 600000 ∧ slots + 576 ≤ 7302250)
    (hD : Duo l G g h yX3_ballot cX3_ballot 4 (Rm 1 20) yX4_ballot cX4_ballot 3 (Rm 2 45) [.int (xs (i + 1)), .int (xs (i + 2))] x y k)
    (kk : ∀ (u : Sg) (w : Rg) (H1 : Heap) (locs1 : List Loc), Al u w (k + 1) → Wd G A s H1 locs1 (cw G g u ++ rw' G h w) → W p l e room_1 s m args below meth c H1 locs1 (cells + 72) (slots + 576) Q (F0 m 850 ls [])) : W p l e room_1 s m args below meth c H locs cells slots Q (F0 m 685 ls []) := by
  obtain ⟨pC, pR, hC, hR, hE⟩ := hD
  have hx := go.1
  have hb := go.2.1
  refine lv_aload_n hx hb dL_law_685 rfl (lv_at hl 1 rfl) ?_
  refine lv_aload_n hx hb dL_law_686 rfl (lv_at hl 0 rfl) ?_
  refine lv_iload_n hx hb dL_law_687 rfl (lv_at hl 3 rfl) ?_
  refine lv_iconst (v := 1) hx hb dL_law_688 (by decide) ?_
  refine lv_iadd hx hb dL_law_689 ?_
  refine toI (b := nI (i + 1)) (nI_add i 1) ?_
  refine va_sld hx hb hX hbl hbA hw.2.2.1 (vp_in_nI (n := i + 1) (by omega) (by omega)) dL_law_690 ?_
  refine toI (b := xs (i + 1)) (by rw [nI_clamp (by omega)]) ?_
  refine lv_aload_n hx hb dL_law_691 rfl (lv_at hl 0 rfl) ?_
  refine lv_iload_n hx hb dL_law_692 rfl (lv_at hl 3 rfl) ?_
  refine lv_iconst (v := 2) hx hb dL_law_693 (by decide) ?_
  refine lv_iadd hx hb dL_law_694 ?_
  refine toI (b := nI (i + 2)) (nI_add i 2) ?_
  refine va_sld hx hb hX hbl hbA hw.2.2.1 (vp_in_nI (n := i + 2) (by omega) (by omega)) dL_law_695 ?_
  refine toI (b := xs (i + 2)) (by rw [nI_clamp (by omega)]) ?_
  refine cal_ViF (wr := rw' G h y) (wf := cw G g) (x := x) (As := [.int (xs (i + 1)), .int (xs (i + 2))]) (rest := []) hC go hw.swap dL_law_696 (And.intro q551 (And.intro q1 q554)) q552 q553 kyX3_ballot ⟨Nat.le_of_ble_eq_true rfl, Nat.le_of_ble_eq_true rfl⟩ rc_X hl.1 rfl (Nat.le_of_ble_eq_true rfl) ⟨by show cells + 0 ≤ 600000; omega, by show slots + 0 ≤ 7302250; omega⟩ (fun r u H locs hp hw => ?_)
  have hw := hw.swap
  refine lv_aload_n hx hb dL_law_699 rfl (lv_at hl 2 rfl) ?_
  refine lv_aload_n hx hb dL_law_700 rfl (lv_at hl 0 rfl) ?_
  refine lv_iload_n hx hb dL_law_701 rfl (lv_at hl 3 rfl) ?_
  refine lv_iconst (v := 1) hx hb dL_law_702 (by decide) ?_
  refine lv_iadd hx hb dL_law_703 ?_
  refine toI (b := nI (i + 1)) (nI_add i 1) ?_
  refine va_sld hx hb hX hbl hbA hw.2.2.1 (vp_in_nI (n := i + 1) (by omega) (by omega)) dL_law_704 ?_
  refine toI (b := xs (i + 1)) (by rw [nI_clamp (by omega)]) ?_
  refine lv_aload_n hx hb dL_law_705 rfl (lv_at hl 0 rfl) ?_
  refine lv_iload_n hx hb dL_law_706 rfl (lv_at hl 3 rfl) ?_
  refine lv_iconst (v := 2) hx hb dL_law_707 (by decide) ?_
  refine lv_iadd hx hb dL_law_708 ?_
  refine toI (b := nI (i + 2)) (nI_add i 2) ?_
  refine va_sld hx hb hX hbl hbA hw.2.2.1 (vp_in_nI (n := i + 2) (by omega) (by omega)) dL_law_709 ?_
  refine toI (b := xs (i + 2)) (by rw [nI_clamp (by omega)]) ?_
  refine cal_ViF (wr := cw G g u) (wf := rw' G h) (x := y) (As := [.int (xs (i + 1)), .int (xs (i + 2))]) (rest := [.int r]) hR go hw dL_law_710 (And.intro q895 (And.intro q4 q898)) q896 q897 kyX4_ballot ⟨Nat.le_of_ble_eq_true rfl, Nat.le_of_ble_eq_true rfl⟩ rc_M hl.1 rfl (Nat.le_of_ble_eq_true rfl) ⟨by show cells + 0 + 0 ≤ 600000; omega, by show slots + 0 + 0 ≤ 7302250; omega⟩ (fun r' w H locs hq hw => ?_)
  have hE := hE r u r' w hp hq
  refine lv_icmp_eq (tgt := 850) hx hb dL_law_713 (by decide) (fun _ => ?_) (fun q => absurd hE.1 q)
  refine W.widen (k := cells + 72) (n := slots + 576) (by show cells + 0 + 0 ≤ cells + 72; omega) (by show slots + 0 + 0 ≤ slots + 576; omega) ?_
  exact kk u w H locs hE.2 hw
set_option maxHeartbeats 4000000 in
set_option maxRecDepth 100000 in
theorem lo_log (go : Go l ⟨RL, nm, "([I)Z"⟩ cL_law 4 rt0 p s m args meth c) (hX : va_X b L xs s s.heap) (hbl : b < s.heap.size) (hbA : ¬ A b) (hL : L ≤ 2048) (hi : i + 4 ≤ L) (hw : Wd G A s H locs (cw G g x ++ rw' G h y)) (hl : lv_has ls 4 [(0, .ref b), (1, .ref (g 0 0)), (2, .ref (h 0)), (3, .int (nI i))]) (hf : cells + 72 ≤ 600000 ∧ slots + 576 ≤ 7302250)
    (hD : Duo l G g h yX3_log cX3_log 4 (Rm 1 21) yX4_log cX4_log 3 (Rm 2 46) [.int (xs (i + 1)), .int (xs (i + 2))] x y k)
    (kk : ∀ (u : Sg) (w : Rg) (H1 : Heap) (locs1 : List Loc), Al u w (k + 1) → Wd G A s H1 locs1 (cw G g u ++ rw' G h w) → W p l e room_1 s m args below meth c H1 locs1 (cells + 72) (slots + 576) Q (F0 m 850 ls [])) : W p l e room_1 s m args below meth c H locs cells slots Q (F0 m 718 ls []) := by
  obtain ⟨pC, pR, hC, hR, hE⟩ := hD
  have hx := go.1
  have hb := go.2.1
  refine lv_aload_n hx hb dL_law_718 rfl (lv_at hl 1 rfl) ?_
  refine lv_aload_n hx hb dL_law_719 rfl (lv_at hl 0 rfl) ?_
  refine lv_iload_n hx hb dL_law_720 rfl (lv_at hl 3 rfl) ?_
  refine lv_iconst (v := 1) hx hb dL_law_721 (by decide) ?_
  refine lv_iadd hx hb dL_law_722 ?_
  refine toI (b := nI (i + 1)) (nI_add i 1) ?_
  refine va_sld hx hb hX hbl hbA hw.2.2.1 (vp_in_nI (n := i + 1) (by omega) (by omega)) dL_law_723 ?_
  refine toI (b := xs (i + 1)) (by rw [nI_clamp (by omega)]) ?_
  refine lv_aload_n hx hb dL_law_724 rfl (lv_at hl 0 rfl) ?_
  refine lv_iload_n hx hb dL_law_725 rfl (lv_at hl 3 rfl) ?_
  refine lv_iconst (v := 2) hx hb dL_law_726 (by decide) ?_
  refine lv_iadd hx hb dL_law_727 ?_
  refine toI (b := nI (i + 2)) (nI_add i 2) ?_
  refine va_sld hx hb hX hbl hbA hw.2.2.1 (vp_in_nI (n := i + 2) (by omega) (by omega)) dL_law_728 ?_
  refine toI (b := xs (i + 2)) (by rw [nI_clamp (by omega)]) ?_
  refine cal_ViF (wr := rw' G h y) (wf := cw G g) (x := x) (As := [.int (xs (i + 1)), .int (xs (i + 2))]) (rest := []) hC go hw.swap dL_law_729 (And.intro q555 (And.intro q1 q558)) q556 q557 kyX3_log ⟨Nat.le_of_ble_eq_true rfl, Nat.le_of_ble_eq_true rfl⟩ rc_X hl.1 rfl (Nat.le_of_ble_eq_true rfl) ⟨by show cells + 0 ≤ 600000; omega, by show slots + 0 ≤ 7302250; omega⟩ (fun r u H locs hp hw => ?_)
  have hw := hw.swap
  refine lv_aload_n hx hb dL_law_732 rfl (lv_at hl 2 rfl) ?_
  refine lv_aload_n hx hb dL_law_733 rfl (lv_at hl 0 rfl) ?_
  refine lv_iload_n hx hb dL_law_734 rfl (lv_at hl 3 rfl) ?_
  refine lv_iconst (v := 1) hx hb dL_law_735 (by decide) ?_
  refine lv_iadd hx hb dL_law_736 ?_
  refine toI (b := nI (i + 1)) (nI_add i 1) ?_
  refine va_sld hx hb hX hbl hbA hw.2.2.1 (vp_in_nI (n := i + 1) (by omega) (by omega)) dL_law_737 ?_
  refine toI (b := xs (i + 1)) (by rw [nI_clamp (by omega)]) ?_
  refine lv_aload_n hx hb dL_law_738 rfl (lv_at hl 0 rfl) ?_
  refine lv_iload_n hx hb dL_law_739 rfl (lv_at hl 3 rfl) ?_
  refine lv_iconst (v := 2) hx hb dL_law_740 (by decide) ?_
  refine lv_iadd hx hb dL_law_741 ?_
  refine toI (b := nI (i + 2)) (nI_add i 2) ?_
  refine va_sld hx hb hX hbl hbA hw.2.2.1 (vp_in_nI (n := i + 2) (by omega) (by omega)) dL_law_742 ?_
  refine toI (b := xs (i + 2)) (by rw [nI_clamp (by omega)]) ?_
  refine cal_ViF (wr := cw G g u) (wf := rw' G h) (x := y) (As := [.int (xs (i + 1)), .int (xs (i + 2))]) (rest := [.int r]) hR go hw dL_law_743 (And.intro q899 (And.intro q4 q902)) q900 q901 kyX4_log ⟨Nat.le_of_ble_eq_true rfl, Nat.le_of_ble_eq_true rfl⟩ rc_M hl.1 rfl (Nat.le_of_ble_eq_true rfl) ⟨by show cells + 0 + 0 ≤ 600000; omega, by show slots + 0 + 0 ≤ 7302250; omega⟩ (fun r' w H locs hq hw => ?_)
  have hE := hE r u r' w hp hq
  refine lv_icmp_eq (tgt := 850) hx hb dL_law_746 (by decide) (fun _ => ?_) (fun q => absurd hE.1 q)
  refine W.widen (k := cells + 72) (n := slots + 576) (by show cells + 0 + 0 ≤ cells + 72; omega) (by show slots + 0 + 0 ≤ slots + 576; omega) ?_
  exact kk u w H locs hE.2 hw
set_option maxHeartbeats 4000000 in
set_option maxRecDepth 100000 in
theorem lo_logged (go : Go l ⟨RL, nm, "([I)Z"⟩ cL_law 4 rt0 p s m args meth c) (hX : va_X b L xs s s.heap) (hbl : b < s.heap.size) (hbA : ¬ A b) (hL : L ≤ 2048) (hi : i + 4 ≤ L) (hw : Wd G A s H locs (cw G g x ++ rw' G h y)) (hl : lv_has ls 4 [(0, .ref b), (1, .ref (g 0 0)), (2, .ref (h 0)), (3, .int (nI i))]) (hf : cells + 72 ≤ 600000 ∧ slots + 576 ≤ 7302250)
    (hD : Duo l G g h yX3_logged cX3_logged 5 (Rm 2 41) yX4_logged cX4_logged 5 (Rm 2 46) [.int (xs (i + 1)), .int (xs (i + 2)), .int (xs (i + 3))] x y k)
    (kk : ∀ (u : Sg) (w : Rg) (H1 : Heap) (locs1 : List Loc), Al u w (k + 1) → Wd G A s H1 locs1 (cw G g u ++ rw' G h w) → W p l e room_1 s m args below meth c H1 locs1 (cells + 72) (slots + 576) Q (F0 m 850 ls [])) : W p l e room_1 s m args below meth c H locs cells slots Q (F0 m 751 ls []) := by
  obtain ⟨pC, pR, hC, hR, hE⟩ := hD
  have hx := go.1
  have hb := go.2.1
  refine lv_aload_n hx hb dL_law_751 rfl (lv_at hl 1 rfl) ?_
  refine lv_aload_n hx hb dL_law_752 rfl (lv_at hl 0 rfl) ?_
  refine lv_iload_n hx hb dL_law_753 rfl (lv_at hl 3 rfl) ?_
  refine lv_iconst (v := 1) hx hb dL_law_754 (by decide) ?_
  refine lv_iadd hx hb dL_law_755 ?_
  refine toI (b := nI (i + 1)) (nI_add i 1) ?_
  refine va_sld hx hb hX hbl hbA hw.2.2.1 (vp_in_nI (n := i + 1) (by omega) (by omega)) dL_law_756 ?_
  refine toI (b := xs (i + 1)) (by rw [nI_clamp (by omega)]) ?_
  refine lv_aload_n hx hb dL_law_757 rfl (lv_at hl 0 rfl) ?_
  refine lv_iload_n hx hb dL_law_758 rfl (lv_at hl 3 rfl) ?_
  refine lv_iconst (v := 2) hx hb dL_law_759 (by decide) ?_
  refine lv_iadd hx hb dL_law_760 ?_
  refine toI (b := nI (i + 2)) (nI_add i 2) ?_
  refine va_sld hx hb hX hbl hbA hw.2.2.1 (vp_in_nI (n := i + 2) (by omega) (by omega)) dL_law_761 ?_
  refine toI (b := xs (i + 2)) (by rw [nI_clamp (by omega)]) ?_
  refine lv_aload_n hx hb dL_law_762 rfl (lv_at hl 0 rfl) ?_
  refine lv_iload_n hx hb dL_law_763 rfl (lv_at hl 3 rfl) ?_
  refine lv_iconst (v := 3) hx hb dL_law_764 (by decide) ?_
  refine lv_iadd hx hb dL_law_765 ?_
  refine toI (b := nI (i + 3)) (nI_add i 3) ?_
  refine va_sld hx hb hX hbl hbA hw.2.2.1 (vp_in_nI (n := i + 3) (by omega) (by omega)) dL_law_766 ?_
  refine toI (b := xs (i + 3)) (by rw [nI_clamp (by omega)]) ?_
  refine cal_ViF (wr := rw' G h y) (wf := cw G g) (x := x) (As := [.int (xs (i + 1)), .int (xs (i + 2)), .int (xs (i + 3))]) (rest := []) hC go hw.swap dL_law_767 (And.intro q563 (And.intro q1 q566)) q564 q565 kyX3_logged ⟨Nat.le_of_ble_eq_true rfl, Nat.le_of_ble_eq_true rfl⟩ rc_X hl.1 rfl (Nat.le_of_ble_eq_true rfl) ⟨by show cells + 0 ≤ 600000; omega, by show slots + 0 ≤ 7302250; omega⟩ (fun r u H locs hp hw => ?_)
  have hw := hw.swap
  refine lv_aload_n hx hb dL_law_770 rfl (lv_at hl 2 rfl) ?_
  refine lv_aload_n hx hb dL_law_771 rfl (lv_at hl 0 rfl) ?_
  refine lv_iload_n hx hb dL_law_772 rfl (lv_at hl 3 rfl) ?_
  refine lv_iconst (v := 1) hx hb dL_law_773 (by decide) ?_
  refine lv_iadd hx hb dL_law_774 ?_
  refine toI (b := nI (i + 1)) (nI_add i 1) ?_
  refine va_sld hx hb hX hbl hbA hw.2.2.1 (vp_in_nI (n := i + 1) (by omega) (by omega)) dL_law_775 ?_
  refine toI (b := xs (i + 1)) (by rw [nI_clamp (by omega)]) ?_
  refine lv_aload_n hx hb dL_law_776 rfl (lv_at hl 0 rfl) ?_
  refine lv_iload_n hx hb dL_law_777 rfl (lv_at hl 3 rfl) ?_
  refine lv_iconst (v := 2) hx hb dL_law_778 (by decide) ?_
  refine lv_iadd hx hb dL_law_779 ?_
  refine toI (b := nI (i + 2)) (nI_add i 2) ?_
  refine va_sld hx hb hX hbl hbA hw.2.2.1 (vp_in_nI (n := i + 2) (by omega) (by omega)) dL_law_780 ?_
  refine toI (b := xs (i + 2)) (by rw [nI_clamp (by omega)]) ?_
  refine lv_aload_n hx hb dL_law_781 rfl (lv_at hl 0 rfl) ?_
  refine lv_iload_n hx hb dL_law_782 rfl (lv_at hl 3 rfl) ?_
  refine lv_iconst (v := 3) hx hb dL_law_783 (by decide) ?_
  refine lv_iadd hx hb dL_law_784 ?_
  refine toI (b := nI (i + 3)) (nI_add i 3) ?_
  refine va_sld hx hb hX hbl hbA hw.2.2.1 (vp_in_nI (n := i + 3) (by omega) (by omega)) dL_law_785 ?_
  refine toI (b := xs (i + 3)) (by rw [nI_clamp (by omega)]) ?_
  refine cal_ViF (wr := cw G g u) (wf := rw' G h) (x := y) (As := [.int (xs (i + 1)), .int (xs (i + 2)), .int (xs (i + 3))]) (rest := [.int r]) hR go hw dL_law_786 (And.intro q907 (And.intro q4 q910)) q908 q909 kyX4_logged ⟨Nat.le_of_ble_eq_true rfl, Nat.le_of_ble_eq_true rfl⟩ rc_M hl.1 rfl (Nat.le_of_ble_eq_true rfl) ⟨by show cells + 0 + 0 ≤ 600000; omega, by show slots + 0 + 0 ≤ 7302250; omega⟩ (fun r' w H locs hq hw => ?_)
  have hE := hE r u r' w hp hq
  refine lv_icmp_eq (tgt := 850) hx hb dL_law_789 (by decide) (fun _ => ?_) (fun q => absurd hE.1 q)
  refine W.widen (k := cells + 72) (n := slots + 576) (by show cells + 0 + 0 ≤ cells + 72; omega) (by show slots + 0 + 0 ≤ slots + 576; omega) ?_
  exact kk u w H locs hE.2 hw
set_option maxHeartbeats 4000000 in
set_option maxRecDepth 100000 in
theorem lo_behind (go : Go l ⟨RL, nm, "([I)Z"⟩ cL_law 4 rt0 p s m args meth c) (hX : va_X b L xs s s.heap) (hbl : b < s.heap.size) (hbA : ¬ A b) (hL : L ≤ 2048) (hi : i + 4 ≤ L) (hw : Wd G A s H locs (cw G g x ++ rw' G h y)) (hl : lv_has ls 4 [(0, .ref b), (1, .ref (g 0 0)), (2, .ref (h 0)), (3, .int (nI i))]) (hf : cells + 72 ≤ 600000 ∧ slots + 576 ≤ 7302250)
    (hD : Duo l G g h yX3_behind cX3_behind 6 (Rm 3 63) yX4_behind cX4_behind 7 (Rm 2 46) [.int (xs (i + 1)), .int (xs (i + 2))] x y k)
    (kk : ∀ (u : Sg) (w : Rg) (H1 : Heap) (locs1 : List Loc), Al u w (k + 1) → Wd G A s H1 locs1 (cw G g u ++ rw' G h w) → W p l e room_1 s m args below meth c H1 locs1 (cells + 72) (slots + 576) Q (F0 m 850 ls [])) : W p l e room_1 s m args below meth c H locs cells slots Q (F0 m 794 ls []) := by
  obtain ⟨pC, pR, hC, hR, hE⟩ := hD
  have hx := go.1
  have hb := go.2.1
  refine lv_aload_n hx hb dL_law_794 rfl (lv_at hl 1 rfl) ?_
  refine lv_aload_n hx hb dL_law_795 rfl (lv_at hl 0 rfl) ?_
  refine lv_iload_n hx hb dL_law_796 rfl (lv_at hl 3 rfl) ?_
  refine lv_iconst (v := 1) hx hb dL_law_797 (by decide) ?_
  refine lv_iadd hx hb dL_law_798 ?_
  refine toI (b := nI (i + 1)) (nI_add i 1) ?_
  refine va_sld hx hb hX hbl hbA hw.2.2.1 (vp_in_nI (n := i + 1) (by omega) (by omega)) dL_law_799 ?_
  refine toI (b := xs (i + 1)) (by rw [nI_clamp (by omega)]) ?_
  refine lv_aload_n hx hb dL_law_800 rfl (lv_at hl 0 rfl) ?_
  refine lv_iload_n hx hb dL_law_801 rfl (lv_at hl 3 rfl) ?_
  refine lv_iconst (v := 2) hx hb dL_law_802 (by decide) ?_
  refine lv_iadd hx hb dL_law_803 ?_
  refine toI (b := nI (i + 2)) (nI_add i 2) ?_
  refine va_sld hx hb hX hbl hbA hw.2.2.1 (vp_in_nI (n := i + 2) (by omega) (by omega)) dL_law_804 ?_
  refine toI (b := xs (i + 2)) (by rw [nI_clamp (by omega)]) ?_
  refine cal_ViF (wr := rw' G h y) (wf := cw G g) (x := x) (As := [.int (xs (i + 1)), .int (xs (i + 2))]) (rest := []) hC go hw.swap dL_law_805 (And.intro q567 (And.intro q1 q570)) q568 q569 kyX3_behind ⟨Nat.le_of_ble_eq_true rfl, Nat.le_of_ble_eq_true rfl⟩ rc_X hl.1 rfl (Nat.le_of_ble_eq_true rfl) ⟨by show cells + 0 ≤ 600000; omega, by show slots + 0 ≤ 7302250; omega⟩ (fun r u H locs hp hw => ?_)
  have hw := hw.swap
  refine lv_aload_n hx hb dL_law_808 rfl (lv_at hl 2 rfl) ?_
  refine lv_aload_n hx hb dL_law_809 rfl (lv_at hl 0 rfl) ?_
  refine lv_iload_n hx hb dL_law_810 rfl (lv_at hl 3 rfl) ?_
  refine lv_iconst (v := 1) hx hb dL_law_811 (by decide) ?_
  refine lv_iadd hx hb dL_law_812 ?_
  refine toI (b := nI (i + 1)) (nI_add i 1) ?_
  refine va_sld hx hb hX hbl hbA hw.2.2.1 (vp_in_nI (n := i + 1) (by omega) (by omega)) dL_law_813 ?_
  refine toI (b := xs (i + 1)) (by rw [nI_clamp (by omega)]) ?_
  refine lv_aload_n hx hb dL_law_814 rfl (lv_at hl 0 rfl) ?_
  refine lv_iload_n hx hb dL_law_815 rfl (lv_at hl 3 rfl) ?_
  refine lv_iconst (v := 2) hx hb dL_law_816 (by decide) ?_
  refine lv_iadd hx hb dL_law_817 ?_
  refine toI (b := nI (i + 2)) (nI_add i 2) ?_
  refine va_sld hx hb hX hbl hbA hw.2.2.1 (vp_in_nI (n := i + 2) (by omega) (by omega)) dL_law_818 ?_
  refine toI (b := xs (i + 2)) (by rw [nI_clamp (by omega)]) ?_
  refine cal_ViF (wr := cw G g u) (wf := rw' G h) (x := y) (As := [.int (xs (i + 1)), .int (xs (i + 2))]) (rest := [.int r]) hR go hw dL_law_819 (And.intro q911 (And.intro q4 q914)) q912 q913 kyX4_behind ⟨Nat.le_of_ble_eq_true rfl, Nat.le_of_ble_eq_true rfl⟩ rc_M hl.1 rfl (Nat.le_of_ble_eq_true rfl) ⟨by show cells + 0 + 0 ≤ 600000; omega, by show slots + 0 + 0 ≤ 7302250; omega⟩ (fun r' w H locs hq hw => ?_)
  have hE := hE r u r' w hp hq
  refine lv_icmp_eq (tgt := 850) hx hb dL_law_822 (by decide) (fun _ => ?_) (fun q => absurd hE.1 q)
  refine W.widen (k := cells + 72) (n := slots + 576) (by show cells + 0 + 0 ≤ cells + 72; omega) (by show slots + 0 + 0 ≤ slots + 576; omega) ?_
  exact kk u w H locs hE.2 hw
set_option maxHeartbeats 4000000 in
set_option maxRecDepth 100000 in
theorem lo_count (go : Go l ⟨RL, nm, "([I)Z"⟩ cL_law 4 rt0 p s m args meth c) (hX : va_X b L xs s s.heap) (hbl : b < s.heap.size) (hbA : ¬ A b) (hL : L ≤ 2048) (hi : i + 4 ≤ L) (hw : Wd G A s H locs (cw G g x ++ rw' G h y)) (hl : lv_has ls 4 [(0, .ref b), (1, .ref (g 0 0)), (2, .ref (h 0)), (3, .int (nI i))]) (hf : cells + 72 ≤ 600000 ∧ slots + 576 ≤ 7302250)
    (hD : Duo l G g h yX3_count cX3_count 2 (Rm 1 26) yX4_count cX4_count 2 (Rm 1 23) [.int (xs (i + 1))] x y k)
    (kk : ∀ (u : Sg) (w : Rg) (H1 : Heap) (locs1 : List Loc), Al u w (k + 1) → Wd G A s H1 locs1 (cw G g u ++ rw' G h w) → W p l e room_1 s m args below meth c H1 locs1 (cells + 72) (slots + 576) Q (F0 m 850 ls [])) : W p l e room_1 s m args below meth c H locs cells slots Q (F0 m 827 ls []) := by
  obtain ⟨pC, pR, hC, hR, hE⟩ := hD
  have hx := go.1
  have hb := go.2.1
  refine lv_aload_n hx hb dL_law_827 rfl (lv_at hl 1 rfl) ?_
  refine lv_aload_n hx hb dL_law_828 rfl (lv_at hl 0 rfl) ?_
  refine lv_iload_n hx hb dL_law_829 rfl (lv_at hl 3 rfl) ?_
  refine lv_iconst (v := 1) hx hb dL_law_830 (by decide) ?_
  refine lv_iadd hx hb dL_law_831 ?_
  refine toI (b := nI (i + 1)) (nI_add i 1) ?_
  refine va_sld hx hb hX hbl hbA hw.2.2.1 (vp_in_nI (n := i + 1) (by omega) (by omega)) dL_law_832 ?_
  refine toI (b := xs (i + 1)) (by rw [nI_clamp (by omega)]) ?_
  refine cal_ViF (wr := rw' G h y) (wf := cw G g) (x := x) (As := [.int (xs (i + 1))]) (rest := []) hC go hw.swap dL_law_833 (And.intro q576 (And.intro q1 q579)) q577 q578 kyX3_count ⟨Nat.le_of_ble_eq_true rfl, Nat.le_of_ble_eq_true rfl⟩ rc_X hl.1 rfl (Nat.le_of_ble_eq_true rfl) ⟨by show cells + 0 ≤ 600000; omega, by show slots + 0 ≤ 7302250; omega⟩ (fun r u H locs hp hw => ?_)
  have hw := hw.swap
  refine lv_aload_n hx hb dL_law_836 rfl (lv_at hl 2 rfl) ?_
  refine lv_aload_n hx hb dL_law_837 rfl (lv_at hl 0 rfl) ?_
  refine lv_iload_n hx hb dL_law_838 rfl (lv_at hl 3 rfl) ?_
  refine lv_iconst (v := 1) hx hb dL_law_839 (by decide) ?_
  refine lv_iadd hx hb dL_law_840 ?_
  refine toI (b := nI (i + 1)) (nI_add i 1) ?_
  refine va_sld hx hb hX hbl hbA hw.2.2.1 (vp_in_nI (n := i + 1) (by omega) (by omega)) dL_law_841 ?_
  refine toI (b := xs (i + 1)) (by rw [nI_clamp (by omega)]) ?_
  refine cal_ViF (wr := cw G g u) (wf := rw' G h) (x := y) (As := [.int (xs (i + 1))]) (rest := [.int r]) hR go hw dL_law_842 (And.intro q915 (And.intro q4 q918)) q916 q917 kyX4_count ⟨Nat.le_of_ble_eq_true rfl, Nat.le_of_ble_eq_true rfl⟩ rc_M hl.1 rfl (Nat.le_of_ble_eq_true rfl) ⟨by show cells + 0 + 0 ≤ 600000; omega, by show slots + 0 + 0 ≤ 7302250; omega⟩ (fun r' w H locs hq hw => ?_)
  have hE := hE r u r' w hp hq
  refine lv_icmp_eq (tgt := 850) hx hb dL_law_845 (by decide) (fun _ => ?_) (fun q => absurd hE.1 q)
  refine W.widen (k := cells + 72) (n := slots + 576) (by show cells + 0 + 0 ≤ cells + 72; omega) (by show slots + 0 + 0 ≤ slots + 576; omega) ?_
  exact kk u w H locs hE.2 hw
end LO
