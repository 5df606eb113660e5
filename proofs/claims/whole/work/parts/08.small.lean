/-! ===== what the small methods answer ===== -/
def inB (n x : Int32) : Bool := !decide (x < 0) && !decide (n ≤ x)
def vaB (x : Int32) : Bool := !decide (x < 0) && !decide (9999 < x)
def bt (x : Int32) : Int32 := (1 : Int32) <<< (x &&& 31)
def hasB (b x : Int32) : Bool := !decide (b &&& bt x = 0)
def cntB (p : Nat → Bool) : Nat → Nat
  | 0 => 0
  | n + 1 => cntB p n + (if p n then 1 else 0)
def howM (x : Sg) (st : Int32) : Nat := cntB (fun d => decide (sI x (2 + d) 1 = st)) 6
def orB (p : Nat → Bool) : Nat → Int32
  | 0 => 0
  | n + 1 => if p n then orB p n ||| bt (nI n) else orB p n
theorem cntB_t {p : Nat → Bool} {n : Nat} (h : p n = true) : nI (cntB p n) + 1 = nI (cntB p (n + 1)) := by rw [nI_1, cntB, h]; rfl
theorem cntB_f {p : Nat → Bool} {n : Nat} (h : p n = false) : nI (cntB p n) = nI (cntB p (n + 1)) := by rw [cntB, h]; rfl
theorem orB_t {p : Nat → Bool} {n : Nat} (h : p n = true) : orB p n ||| bt (nI n) = orB p (n + 1) := by rw [orB, if_pos h]
theorem orB_f {p : Nat → Bool} {n : Nat} (h : p n = false) : orB p n = orB p (n + 1) := by rw [orB, if_neg (by rw [h]; decide)]
theorem lv_to {ls : Array Slot} {n : Nat} {l l' : List (Nat × Value)} (h : lv_has ls n l) (e : l = l') : lv_has ls n l' := e ▸ h
theorem lc {a : Nat} {x y : Int32} {t t' : List (Nat × Value)} (h : x = y) (ht : t = t') : (a, Value.int x) :: t = (a, Value.int y) :: t' := by rw [h, ht]
theorem lr {q : Nat × Value} {t t' : List (Nat × Value)} (ht : t = t') : q :: t = q :: t' := by rw [ht]
theorem inB_of {n : Nat} {x N : Int32} (h : inB N x = true) (hN : N = nI n) (hn : n < 2 ^ 31) : ∃ j : Nat, j < n ∧ x = nI j := by
  simp only [inB, Bool.and_eq_true, Bool.not_eq_true', decide_eq_false_iff_not] at h
  rcases pk_ix x hn with q | q | q
  · exact absurd q h.1
  · exact absurd (by rw [hN]; exact q) h.2
  · exact q
theorem inB_nI {n : Nat} {N : Int32} (j : Nat) (hj : j < n) (hN : N = nI n) (hn : n < 2 ^ 31) : inB N (nI j) = true := by
  simp only [inB, Bool.and_eq_true, Bool.not_eq_true', decide_eq_false_iff_not]
  exact ⟨nI_pos (by omega), by rw [hN]; exact nI_ge hj hn⟩

theorem kyJ0_charAt_5068e : Ky yJ0_charAt_5068e 1 := by unfold Ky; decide +kernel
theorem kyJ0_checkIndex_df160 : Ky yJ0_checkIndex_df160 2 := by unfold Ky; decide +kernel
theorem kyJ0_coder_7d493 : Ky yJ0_coder_7d493 0 := by unfold Ky; decide +kernel
theorem kyJ0_isLatin1_aae02 : Ky yJ0_isLatin1_aae02 0 := by unfold Ky; decide +kernel
theorem kyJ0_length_8abf5 : Ky yJ0_length_8abf5 0 := by unfold Ky; decide +kernel
theorem kyJ1_charAt_3b067 : Ky yJ1_charAt_3b067 2 := by unfold Ky; decide +kernel
theorem kyJ2_charAt_3b067 : Ky yJ2_charAt_3b067 2 := by unfold Ky; decide +kernel
theorem kyJ2_checkIndex_2214a : Ky yJ2_checkIndex_2214a 2 := by unfold Ky; decide +kernel
theorem kyJ2_getChar_3b067 : Ky yJ2_getChar_3b067 2 := by unfold Ky; decide +kernel
theorem kyJ2_length_9d52b : Ky yJ2_length_9d52b 1 := by unfold Ky; decide +kernel
theorem kyJ3_checkIndex_8e157 : Ky yJ3_checkIndex_8e157 3 := by unfold Ky; decide +kernel
theorem kyJ6_bitCount_0f7a4 : Ky yJ6_bitCount_0f7a4 1 := by unfold Ky; decide +kernel
theorem kyL_law : Ky yL_law 1 := by unfold Ky; decide +kernel
theorem kyX0_becomeFree : Ky yX0_becomeFree 1 := by unfold Ky; decide +kernel
theorem kyX0_becomeOpen : Ky yX0_becomeOpen 3 := by unfold Ky; decide +kernel
theorem kyX0_becomeSent : Ky yX0_becomeSent 1 := by unfold Ky; decide +kernel
theorem kyX0_hasAllVotes : Ky yX0_hasAllVotes 0 := by unfold Ky; decide +kernel
theorem kyX0_hasOnlyYes : Ky yX0_hasOnlyYes 0 := by unfold Ky; decide +kernel
theorem kyX0_init : Ky yX0_init 1 := by unfold Ky; decide +kernel
theorem kyX0_note : Ky yX0_note 3 := by unfold Ky; decide +kernel
theorem kyX1_hasNoted : Ky yX1_hasNoted 1 := by unfold Ky; decide +kernel
theorem kyX1_init : Ky yX1_init 0 := by unfold Ky; decide +kernel
theorem kyX1_keepDeal : Ky yX1_keepDeal 2 := by unfold Ky; decide +kernel
theorem kyX1_keepWrite : Ky yX1_keepWrite 2 := by unfold Ky; decide +kernel
theorem kyX2_append : Ky yX2_append 1 := by unfold Ky; decide +kernel
theorem kyX2_areOfOneRow : Ky yX2_areOfOneRow 2 := by unfold Ky; decide +kernel
theorem kyX2_formOf : Ky yX2_formOf 1 := by unfold Ky; decide +kernel
theorem kyX2_init : Ky yX2_init 0 := by unfold Ky; decide +kernel
theorem kyX2_isDigit : Ky yX2_isDigit 1 := by unfold Ky; decide +kernel
theorem kyX2_isSmall : Ky yX2_isSmall 1 := by unfold Ky; decide +kernel
theorem kyX2_kindOf : Ky yX2_kindOf 1 := by unfold Ky; decide +kernel
theorem kyX2_kindOfToken : Ky yX2_kindOfToken 0 := by unfold Ky; decide +kernel
theorem kyX2_leastOf : Ky yX2_leastOf 1 := by unfold Ky; decide +kernel
theorem kyX2_letterAt : Ky yX2_letterAt 1 := by unfold Ky; decide +kernel
theorem kyX2_mostOf : Ky yX2_mostOf 1 := by unfold Ky; decide +kernel
theorem kyX2_nextToken : Ky yX2_nextToken 0 := by unfold Ky; decide +kernel
theorem kyX2_numberOf : Ky yX2_numberOf 2 := by unfold Ky; decide +kernel
theorem kyX2_numberOfToken : Ky yX2_numberOfToken 0 := by unfold Ky; decide +kernel
theorem kyX2_parse : Ky yX2_parse 0 := by unfold Ky; decide +kernel
theorem kyX2_takeClause : Ky yX2_takeClause 1 := by unfold Ky; decide +kernel
theorem kyX2_tokenIs : Ky yX2_tokenIs 1 := by unfold Ky; decide +kernel
theorem kyX2_wordOf : Ky yX2_wordOf 1 := by unfold Ky; decide +kernel
theorem kyX3_abort : Ky yX3_abort 1 := by unfold Ky; decide +kernel
theorem kyX3_allValues : Ky yX3_allValues 0 := by unfold Ky; decide +kernel
theorem kyX3_ballot : Ky yX3_ballot 2 := by unfold Ky; decide +kernel
theorem kyX3_begin : Ky yX3_begin 1 := by unfold Ky; decide +kernel
theorem kyX3_behind : Ky yX3_behind 2 := by unfold Ky; decide +kernel
theorem kyX3_bit : Ky yX3_bit 1 := by unfold Ky; decide +kernel
theorem kyX3_change : Ky yX3_change 2 := by unfold Ky; decide +kernel
theorem kyX3_commit : Ky yX3_commit 2 := by unfold Ky; decide +kernel
theorem kyX3_count : Ky yX3_count 1 := by unfold Ky; decide +kernel
theorem kyX3_crossedOf : Ky yX3_crossedOf 1 := by unfold Ky; decide +kernel
theorem kyX3_deal : Ky yX3_deal 2 := by unfold Ky; decide +kernel
theorem kyX3_doClause : Ky yX3_doClause 1 := by unfold Ky; decide +kernel
theorem kyX3_doomAll : Ky yX3_doomAll 1 := by unfold Ky; decide +kernel
theorem kyX3_entryOf : Ky yX3_entryOf 1 := by unfold Ky; decide +kernel
theorem kyX3_erase : Ky yX3_erase 0 := by unfold Ky; decide +kernel
theorem kyX3_fault : Ky yX3_fault 0 := by unfold Ky; decide +kernel
theorem kyX3_firstWithoutVote : Ky yX3_firstWithoutVote 1 := by unfold Ky; decide +kernel
theorem kyX3_foretell : Ky yX3_foretell 2 := by unfold Ky; decide +kernel
theorem kyX3_goesFirst : Ky yX3_goesFirst 2 := by unfold Ky; decide +kernel
theorem kyX3_has : Ky yX3_has 2 := by unfold Ky; decide +kernel
theorem kyX3_howMany : Ky yX3_howMany 1 := by unfold Ky; decide +kernel
theorem kyX3_init : Ky yX3_init 0 := by unfold Ky; decide +kernel
theorem kyX3_isDeal : Ky yX3_isDeal 1 := by unfold Ky; decide +kernel
theorem kyX3_isFailure : Ky yX3_isFailure 1 := by unfold Ky; decide +kernel
theorem kyX3_isItem : Ky yX3_isItem 1 := by unfold Ky; decide +kernel
theorem kyX3_isStubborn : Ky yX3_isStubborn 1 := by unfold Ky; decide +kernel
theorem kyX3_isValidator : Ky yX3_isValidator 1 := by unfold Ky; decide +kernel
theorem kyX3_isValue : Ky yX3_isValue 1 := by unfold Ky; decide +kernel
theorem kyX3_item : Ky yX3_item 2 := by unfold Ky; decide +kernel
theorem kyX3_itemsOf : Ky yX3_itemsOf 1 := by unfold Ky; decide +kernel
theorem kyX3_keep : Ky yX3_keep 2 := by unfold Ky; decide +kernel
theorem kyX3_lay : Ky yX3_lay 3 := by unfold Ky; decide +kernel
theorem kyX3_limit : Ky yX3_limit 1 := by unfold Ky; decide +kernel
theorem kyX3_log : Ky yX3_log 2 := by unfold Ky; decide +kernel
theorem kyX3_logged : Ky yX3_logged 3 := by unfold Ky; decide +kernel
theorem kyX3_lose : Ky yX3_lose 2 := by unfold Ky; decide +kernel
theorem kyX3_mustYield : Ky yX3_mustYield 1 := by unfold Ky; decide +kernel
theorem kyX3_nextEntry : Ky yX3_nextEntry 0 := by unfold Ky; decide +kernel
theorem kyX3_noted : Ky yX3_noted 3 := by unfold Ky; decide +kernel
theorem kyX3_opinion : Ky yX3_opinion 2 := by unfold Ky; decide +kernel
theorem kyX3_peek : Ky yX3_peek 2 := by unfold Ky; decide +kernel
theorem kyX3_promisedBefore : Ky yX3_promisedBefore 2 := by unfold Ky; decide +kernel
theorem kyX3_put : Ky yX3_put 2 := by unfold Ky; decide +kernel
theorem kyX3_read : Ky yX3_read 2 := by unfold Ky; decide +kernel
theorem kyX3_retry : Ky yX3_retry 1 := by unfold Ky; decide +kernel
theorem kyX3_rivalsOf : Ky yX3_rivalsOf 1 := by unfold Ky; decide +kernel
theorem kyX3_send : Ky yX3_send 1 := by unfold Ky; decide +kernel
theorem kyX3_sent : Ky yX3_sent 1 := by unfold Ky; decide +kernel
theorem kyX3_sentAt : Ky yX3_sentAt 1 := by unfold Ky; decide +kernel
theorem kyX3_sentBefore : Ky yX3_sentBefore 1 := by unfold Ky; decide +kernel
theorem kyX3_settle : Ky yX3_settle 0 := by unfold Ky; decide +kernel
theorem kyX3_staleOf : Ky yX3_staleOf 1 := by unfold Ky; decide +kernel
theorem kyX3_startAnew : Ky yX3_startAnew 0 := by unfold Ky; decide +kernel
theorem kyX3_sweep : Ky yX3_sweep 0 := by unfold Ky; decide +kernel
theorem kyX3_tell : Ky yX3_tell 0 := by unfold Ky; decide +kernel
theorem kyX3_vote : Ky yX3_vote 1 := by unfold Ky; decide +kernel
theorem kyX3_write : Ky yX3_write 1 := by unfold Ky; decide +kernel
theorem kyX4_abort : Ky yX4_abort 1 := by unfold Ky; decide +kernel
theorem kyX4_allAnew : Ky yX4_allAnew 0 := by unfold Ky; decide +kernel
theorem kyX4_allValues : Ky yX4_allValues 0 := by unfold Ky; decide +kernel
theorem kyX4_ballot : Ky yX4_ballot 2 := by unfold Ky; decide +kernel
theorem kyX4_begin : Ky yX4_begin 1 := by unfold Ky; decide +kernel
theorem kyX4_behind : Ky yX4_behind 2 := by unfold Ky; decide +kernel
theorem kyX4_checks : Ky yX4_checks 2 := by unfold Ky; decide +kernel
theorem kyX4_commit : Ky yX4_commit 2 := by unfold Ky; decide +kernel
theorem kyX4_commits : Ky yX4_commits 2 := by unfold Ky; decide +kernel
theorem kyX4_count : Ky yX4_count 1 := by unfold Ky; decide +kernel
theorem kyX4_crossed : Ky yX4_crossed 1 := by unfold Ky; decide +kernel
theorem kyX4_deal : Ky yX4_deal 2 := by unfold Ky; decide +kernel
theorem kyX4_does : Ky yX4_does 1 := by unfold Ky; decide +kernel
theorem kyX4_erase : Ky yX4_erase 0 := by unfold Ky; decide +kernel
theorem kyX4_fails : Ky yX4_fails 2 := by unfold Ky; decide +kernel
theorem kyX4_fault : Ky yX4_fault 0 := by unfold Ky; decide +kernel
theorem kyX4_firstSent : Ky yX4_firstSent 1 := by unfold Ky; decide +kernel
theorem kyX4_frees : Ky yX4_frees 2 := by unfold Ky; decide +kernel
theorem kyX4_has : Ky yX4_has 2 := by unfold Ky; decide +kernel
theorem kyX4_in : Ky yX4_in 3 := by unfold Ky; decide +kernel
theorem kyX4_inState : Ky yX4_inState 1 := by unfold Ky; decide +kernel
theorem kyX4_init : Ky yX4_init 0 := by unfold Ky; decide +kernel
theorem kyX4_isCommit : Ky yX4_isCommit 1 := by unfold Ky; decide +kernel
theorem kyX4_isDeal : Ky yX4_isDeal 1 := by unfold Ky; decide +kernel
theorem kyX4_isDigit : Ky yX4_isDigit 1 := by unfold Ky; decide +kernel
theorem kyX4_isItem : Ky yX4_isItem 1 := by unfold Ky; decide +kernel
theorem kyX4_isSmall : Ky yX4_isSmall 1 := by unfold Ky; decide +kernel
theorem kyX4_isStubborn : Ky yX4_isStubborn 1 := by unfold Ky; decide +kernel
theorem kyX4_isWeaker : Ky yX4_isWeaker 2 := by unfold Ky; decide +kernel
theorem kyX4_item : Ky yX4_item 2 := by unfold Ky; decide +kernel
theorem kyX4_lay : Ky yX4_lay 3 := by unfold Ky; decide +kernel
theorem kyX4_limit : Ky yX4_limit 1 := by unfold Ky; decide +kernel
theorem kyX4_log : Ky yX4_log 2 := by unfold Ky; decide +kernel
theorem kyX4_logged : Ky yX4_logged 3 := by unfold Ky; decide +kernel
theorem kyX4_logs : Ky yX4_logs 2 := by unfold Ky; decide +kernel
theorem kyX4_next : Ky yX4_next 0 := by unfold Ky; decide +kernel
theorem kyX4_noted : Ky yX4_noted 3 := by unfold Ky; decide +kernel
theorem kyX4_ones : Ky yX4_ones 1 := by unfold Ky; decide +kernel
theorem kyX4_opens : Ky yX4_opens 1 := by unfold Ky; decide +kernel
theorem kyX4_peek : Ky yX4_peek 2 := by unfold Ky; decide +kernel
theorem kyX4_put : Ky yX4_put 2 := by unfold Ky; decide +kernel
theorem kyX4_puts : Ky yX4_puts 2 := by unfold Ky; decide +kernel
theorem kyX4_read : Ky yX4_read 2 := by unfold Ky; decide +kernel
theorem kyX4_reads : Ky yX4_reads 3 := by unfold Ky; decide +kernel
theorem kyX4_readsAll : Ky yX4_readsAll 1 := by unfold Ky; decide +kernel
theorem kyX4_readsClause : Ky yX4_readsClause 0 := by unfold Ky; decide +kernel
theorem kyX4_readsRest : Ky yX4_readsRest 1 := by unfold Ky; decide +kernel
theorem kyX4_refused : Ky yX4_refused 2 := by unfold Ky; decide +kernel
theorem kyX4_retry : Ky yX4_retry 1 := by unfold Ky; decide +kernel
theorem kyX4_rivals : Ky yX4_rivals 1 := by unfold Ky; decide +kernel
theorem kyX4_send : Ky yX4_send 1 := by unfold Ky; decide +kernel
theorem kyX4_sent : Ky yX4_sent 1 := by unfold Ky; decide +kernel
theorem kyX4_settle : Ky yX4_settle 0 := by unfold Ky; decide +kernel
theorem kyX4_stale : Ky yX4_stale 1 := by unfold Ky; decide +kernel
theorem kyX4_sweep : Ky yX4_sweep 0 := by unfold Ky; decide +kernel
theorem kyX4_tell : Ky yX4_tell 0 := by unfold Ky; decide +kernel
theorem kyX4_vote : Ky yX4_vote 1 := by unfold Ky; decide +kernel
theorem kyX4_wordHere : Ky yX4_wordHere 0 := by unfold Ky; decide +kernel
theorem kyX4_write : Ky yX4_write 1 := by unfold Ky; decide +kernel

set_option maxHeartbeats 4000000 in
set_option maxRecDepth 100000 in
theorem kX3_isItem (l : Launch) (G : Cx) (x : Int32) : Si l G yX3_isItem cX3_isItem 1 .boolean (Rm 0 0) [.int x] (fun r => r = bI (inB 8 x)) := by
  refine Si.mk (by decide) (Nat.le_of_ble_eq_true rfl) ?_
  intro p e s m below meth c A ls go hk hl
  have hS : va_S A s.heap s.heap [] := va_S.rf
  have hx := go.1
  have hb := go.2.1
  have hl : lv_has ls 1 [(0, .int x)] := hl
  refine lv_iload_n hx hb dX3_isItem_0 rfl (lv_at hl 0 rfl) ?_
  refine lv_if_lt (tgt := 14) hx hb dX3_isItem_1 (by decide) (fun h1 => ?_) (fun h1 => ?_)
  · skip
    refine lv_iconst (v := 0) hx hb dX3_isItem_14 (by decide) ?_
    refine ret_sz go dX3_isItem_15 rfl ?_
    simp [inB, bI, *]
  · skip
    refine lv_iload_n hx hb dX3_isItem_4 rfl (lv_at hl 0 rfl) ?_
    refine lv_bipush (v := 8) hx hb dX3_isItem_5 (by decide) ?_
    refine lv_icmp_ge (tgt := 14) hx hb dX3_isItem_7 (by decide) (fun h7 => ?_) (fun h7 => ?_)
    · skip
      refine lv_iconst (v := 0) hx hb dX3_isItem_14 (by decide) ?_
      refine ret_sz go dX3_isItem_15 rfl ?_
      simp [inB, bI, *]
    · skip
      refine lv_iconst (v := 1) hx hb dX3_isItem_10 (by decide) ?_
      refine lv_goto (tgt := 15) hx hb dX3_isItem_11 (by decide) ?_
      refine ret_sz go dX3_isItem_15 rfl ?_
      simp [inB, bI, *]

set_option maxHeartbeats 4000000 in
set_option maxRecDepth 100000 in
theorem kX3_isDeal (l : Launch) (G : Cx) (x : Int32) : Si l G yX3_isDeal cX3_isDeal 1 .boolean (Rm 0 0) [.int x] (fun r => r = bI (inB 6 x)) := by
  refine Si.mk (by decide) (Nat.le_of_ble_eq_true rfl) ?_
  intro p e s m below meth c A ls go hk hl
  have hS : va_S A s.heap s.heap [] := va_S.rf
  have hx := go.1
  have hb := go.2.1
  have hl : lv_has ls 1 [(0, .int x)] := hl
  refine lv_iload_n hx hb dX3_isDeal_0 rfl (lv_at hl 0 rfl) ?_
  refine lv_if_lt (tgt := 14) hx hb dX3_isDeal_1 (by decide) (fun h1 => ?_) (fun h1 => ?_)
  · skip
    refine lv_iconst (v := 0) hx hb dX3_isDeal_14 (by decide) ?_
    refine ret_sz go dX3_isDeal_15 rfl ?_
    simp [inB, bI, *]
  · skip
    refine lv_iload_n hx hb dX3_isDeal_4 rfl (lv_at hl 0 rfl) ?_
    refine lv_bipush (v := 6) hx hb dX3_isDeal_5 (by decide) ?_
    refine lv_icmp_ge (tgt := 14) hx hb dX3_isDeal_7 (by decide) (fun h7 => ?_) (fun h7 => ?_)
    · skip
      refine lv_iconst (v := 0) hx hb dX3_isDeal_14 (by decide) ?_
      refine ret_sz go dX3_isDeal_15 rfl ?_
      simp [inB, bI, *]
    · skip
      refine lv_iconst (v := 1) hx hb dX3_isDeal_10 (by decide) ?_
      refine lv_goto (tgt := 15) hx hb dX3_isDeal_11 (by decide) ?_
      refine ret_sz go dX3_isDeal_15 rfl ?_
      simp [inB, bI, *]

set_option maxHeartbeats 4000000 in
set_option maxRecDepth 100000 in
theorem kX3_isValidator (l : Launch) (G : Cx) (x : Int32) : Si l G yX3_isValidator cX3_isValidator 1 .boolean (Rm 0 0) [.int x] (fun r => r = bI (inB 2 x)) := by
  refine Si.mk (by decide) (Nat.le_of_ble_eq_true rfl) ?_
  intro p e s m below meth c A ls go hk hl
  have hS : va_S A s.heap s.heap [] := va_S.rf
  have hx := go.1
  have hb := go.2.1
  have hl : lv_has ls 1 [(0, .int x)] := hl
  refine lv_iload_n hx hb dX3_isValidator_0 rfl (lv_at hl 0 rfl) ?_
  refine lv_if_lt (tgt := 13) hx hb dX3_isValidator_1 (by decide) (fun h1 => ?_) (fun h1 => ?_)
  · skip
    refine lv_iconst (v := 0) hx hb dX3_isValidator_13 (by decide) ?_
    refine ret_sz go dX3_isValidator_14 rfl ?_
    simp [inB, bI, *]
  · skip
    refine lv_iload_n hx hb dX3_isValidator_4 rfl (lv_at hl 0 rfl) ?_
    refine lv_iconst (v := 2) hx hb dX3_isValidator_5 (by decide) ?_
    refine lv_icmp_ge (tgt := 13) hx hb dX3_isValidator_6 (by decide) (fun h6 => ?_) (fun h6 => ?_)
    · skip
      refine lv_iconst (v := 0) hx hb dX3_isValidator_13 (by decide) ?_
      refine ret_sz go dX3_isValidator_14 rfl ?_
      simp [inB, bI, *]
    · skip
      refine lv_iconst (v := 1) hx hb dX3_isValidator_9 (by decide) ?_
      refine lv_goto (tgt := 14) hx hb dX3_isValidator_10 (by decide) ?_
      refine ret_sz go dX3_isValidator_14 rfl ?_
      simp [inB, bI, *]

set_option maxHeartbeats 4000000 in
set_option maxRecDepth 100000 in
theorem kX3_isValue (l : Launch) (G : Cx) (x : Int32) : Si l G yX3_isValue cX3_isValue 1 .boolean (Rm 0 0) [.int x] (fun r => r = bI (vaB x)) := by
  refine Si.mk (by decide) (Nat.le_of_ble_eq_true rfl) ?_
  intro p e s m below meth c A ls go hk hl
  have hS : va_S A s.heap s.heap [] := va_S.rf
  have hx := go.1
  have hb := go.2.1
  have hl : lv_has ls 1 [(0, .int x)] := hl
  refine lv_iload_n hx hb dX3_isValue_0 rfl (lv_at hl 0 rfl) ?_
  refine lv_if_lt (tgt := 15) hx hb dX3_isValue_1 (by decide) (fun h1 => ?_) (fun h1 => ?_)
  · skip
    refine lv_iconst (v := 0) hx hb dX3_isValue_15 (by decide) ?_
    refine ret_sz go dX3_isValue_16 rfl ?_
    simp [vaB, bI, *]
  · skip
    refine lv_iload_n hx hb dX3_isValue_4 rfl (lv_at hl 0 rfl) ?_
    refine lv_sipush (v := 9999) hx hb dX3_isValue_5 (by decide) ?_
    refine lv_icmp_gt (tgt := 15) hx hb dX3_isValue_8 (by decide) (fun h8 => ?_) (fun h8 => ?_)
    · skip
      refine lv_iconst (v := 0) hx hb dX3_isValue_15 (by decide) ?_
      refine ret_sz go dX3_isValue_16 rfl ?_
      simp [vaB, bI, *]
    · skip
      refine lv_iconst (v := 1) hx hb dX3_isValue_11 (by decide) ?_
      refine lv_goto (tgt := 16) hx hb dX3_isValue_12 (by decide) ?_
      refine ret_sz go dX3_isValue_16 rfl ?_
      simp [vaB, bI, *]

set_option maxHeartbeats 4000000 in
set_option maxRecDepth 100000 in
theorem kX3_bit (l : Launch) (G : Cx) (x : Int32) : Si l G yX3_bit cX3_bit 1 .int (Rm 0 0) [.int x] (fun r => r = bt x) := by
  refine Si.mk (by decide) (Nat.le_of_ble_eq_true rfl) ?_
  intro p e s m below meth c A ls go hk hl
  have hS : va_S A s.heap s.heap [] := va_S.rf
  have hx := go.1
  have hb := go.2.1
  have hl : lv_has ls 1 [(0, .int x)] := hl
  refine lv_iconst (v := 1) hx hb dX3_bit_0 (by decide) ?_
  refine lv_iload_n hx hb dX3_bit_1 rfl (lv_at hl 0 rfl) ?_
  refine lv_ishl hx hb dX3_bit_2 ?_
  refine ret_si go dX3_bit_3 ?_
  rfl

set_option maxHeartbeats 4000000 in
set_option maxRecDepth 100000 in
theorem kX3_has (l : Launch) (G : Cx) (b x : Int32) : Si l G yX3_has cX3_has 2 .boolean (Rm 1 20) [.int b, .int x] (fun r => r = bI (hasB b x)) := by
  refine Si.mk (by decide) (Nat.le_of_ble_eq_true rfl) ?_
  intro p e s m below meth c A ls go hk hl
  have hS : va_S A s.heap s.heap [] := va_S.rf
  have hx := go.1
  have hb := go.2.1
  have hl : lv_has ls 2 [(0, .int b), (1, .int x)] := hl
  refine lv_iload_n hx hb dX3_has_0 rfl (lv_at hl 0 rfl) ?_
  refine lv_iload_n hx hb dX3_has_1 rfl (lv_at hl 1 rfl) ?_
  refine cal_S (kX3_bit l G x) go hS hk dX3_has_2 (And.intro q396 (And.intro q1 q369)) q368 kyX3_bit ⟨rfl, rfl⟩ ⟨Nat.le_of_ble_eq_true rfl, Nat.le_of_ble_eq_true rfl⟩ hl.1 rfl (Nat.le_of_ble_eq_true rfl) ⟨Nat.le_of_ble_eq_true rfl, Nat.le_of_ble_eq_true rfl⟩ ?_
  refine lv_iand hx hb dX3_has_5 ?_
  refine lv_if_eq (tgt := 13) hx hb dX3_has_6 (by decide) (fun h6 => ?_) (fun h6 => ?_)
  · skip
    refine lv_iconst (v := 0) hx hb dX3_has_13 (by decide) ?_
    refine ret_sz go dX3_has_14 rfl ?_
    simp [hasB, bI, *]
  · skip
    refine lv_iconst (v := 1) hx hb dX3_has_9 (by decide) ?_
    refine lv_goto (tgt := 14) hx hb dX3_has_10 (by decide) ?_
    refine ret_sz go dX3_has_14 rfl ?_
    simp [hasB, bI, *]

/-- a deal is free -/
def frD (x : Sg) (d : Nat) (b : Bool) : Sg :=
  let y := pI (pI (pI (pI (pI (pI x (2 + d) 1 0) (2 + d) 8 (bI b)) (2 + d) 2 0) (2 + d) 5 0) (2 + d) 6 0) (2 + d) 7 (-1)
  if b then y else pI (pI y (2 + d) 3 0) (2 + d) 4 0

set_option maxHeartbeats 4000000 in
set_option maxRecDepth 100000 in
theorem kX0_becomeFree (l : Launch) (G : Cx) (g : Nat → Nat → Nat) (x : Sg) (d : Nat) (hd : d < 6) (b : Bool) : Cv l G yX0_becomeFree cX0_becomeFree 2 (Rm 0 0) (cw G g) [.ref (g (2 + d) 0), .int (bI b)] x (fun u => u = frD x d b) := by
  refine Cv.mk (by decide) (Nat.le_of_ble_eq_true rfl) ?_
  intro p e s m below meth c A ls go hw hl
  generalize s.heap = H at hw ⊢
  generalize ([] : List Loc) = locs at hw ⊢
  have hx := go.1
  have hb := go.2.1
  have hl : lv_has ls 2 [(0, .ref (g (2 + d) 0)), (1, .int (bI b))] := hl
  refine lv_aload_n hx hb dX0_becomeFree_0 rfl (lv_at hl 0 rfl) ?_
  refine lv_iconst (v := 0) hx hb dX0_becomeFree_1 (by decide) ?_
  refine pD (d := d) (k := 1) hd ⟨by decide, by decide⟩ go hw dX0_becomeFree_2 q62 (fun H locs hw => ?_)
  refine lv_aload_n hx hb dX0_becomeFree_5 rfl (lv_at hl 0 rfl) ?_
  refine lv_iload_n hx hb dX0_becomeFree_6 rfl (lv_at hl 1 rfl) ?_
  refine pDz (d := d) hd (bI_z _) go hw dX0_becomeFree_7 q80 (fun H locs hw => ?_)
  refine lv_aload_n hx hb dX0_becomeFree_10 rfl (lv_at hl 0 rfl) ?_
  refine lv_iconst (v := 0) hx hb dX0_becomeFree_11 (by decide) ?_
  refine pD (d := d) (k := 2) hd ⟨by decide, by decide⟩ go hw dX0_becomeFree_12 q64 (fun H locs hw => ?_)
  refine lv_aload_n hx hb dX0_becomeFree_15 rfl (lv_at hl 0 rfl) ?_
  refine lv_iconst (v := 0) hx hb dX0_becomeFree_16 (by decide) ?_
  refine pD (d := d) (k := 5) hd ⟨by decide, by decide⟩ go hw dX0_becomeFree_17 q72 (fun H locs hw => ?_)
  refine lv_aload_n hx hb dX0_becomeFree_20 rfl (lv_at hl 0 rfl) ?_
  refine lv_iconst (v := 0) hx hb dX0_becomeFree_21 (by decide) ?_
  refine pD (d := d) (k := 6) hd ⟨by decide, by decide⟩ go hw dX0_becomeFree_22 q75 (fun H locs hw => ?_)
  refine lv_aload_n hx hb dX0_becomeFree_25 rfl (lv_at hl 0 rfl) ?_
  refine lv_iconst (v := (-1)) hx hb dX0_becomeFree_26 (by decide) ?_
  refine pD (d := d) (k := 7) hd ⟨by decide, by decide⟩ go hw dX0_becomeFree_27 q78 (fun H locs hw => ?_)
  refine lv_iload_n hx hb dX0_becomeFree_30 rfl (lv_at hl 1 rfl) ?_
  refine lv_if_ne (tgt := 44) hx hb dX0_becomeFree_31 (by decide) (fun h31 => ?_) (fun h31 => ?_)
  · skip
    have h31 := bI_1 h31
    refine ret_v (wf := cw G g) go hw dX0_becomeFree_44 ?_
    simp [frD, *]
  · skip
    have h31 := bI_0 h31
    refine lv_aload_n hx hb dX0_becomeFree_34 rfl (lv_at hl 0 rfl) ?_
    refine lv_iconst (v := 0) hx hb dX0_becomeFree_35 (by decide) ?_
    refine pD (d := d) (k := 3) hd ⟨by decide, by decide⟩ go hw dX0_becomeFree_36 q67 (fun H locs hw => ?_)
    refine lv_aload_n hx hb dX0_becomeFree_39 rfl (lv_at hl 0 rfl) ?_
    refine lv_iconst (v := 0) hx hb dX0_becomeFree_40 (by decide) ?_
    refine pD (d := d) (k := 4) hd ⟨by decide, by decide⟩ go hw dX0_becomeFree_41 q70 (fun H locs hw => ?_)
    refine ret_v (wf := cw G g) go hw dX0_becomeFree_44 ?_
    simp [frD, *]

set_option maxHeartbeats 4000000 in
set_option maxRecDepth 100000 in
theorem kX3_howMany (l : Launch) (G : Cx) (g : Nat → Nat → Nat) (x : Sg) (st : Int32) : Ci l G yX3_howMany cX3_howMany 7 .int (Rm 0 0) (cw G g) [.ref (g 0 0), .int st] x (fun r u => r = nI (howM x st) ∧ u = x) := by
  refine Ci.mk (by decide) (Nat.le_of_ble_eq_true rfl) ?_
  intro p e s m below meth c A ls go hw hl
  generalize s.heap = H at hw ⊢
  generalize ([] : List Loc) = locs at hw ⊢
  have hx := go.1
  have hb := go.2.1
  have hl : lv_has ls 7 [(0, .ref (g 0 0)), (1, .int st)] := hl
  refine lv_iconst (v := 0) hx hb dX3_howMany_0 (by decide) ?_
  refine lv_istore_n (lv' := [(2, .int 0), (0, .ref (g 0 0)), (1, .int st)]) hx hb dX3_howMany_1 rfl hl (by decide) rfl (fun ls hl => ?_)
  refine lv_aload_n hx hb dX3_howMany_2 rfl (lv_at hl 1 rfl) ?_
  refine gX (k := 3) (v := .ref (g 0 4)) rfl (by decide) rfl go hw dX3_howMany_3 q130 ?_
  refine lv_astore_n (lv' := [(3, .ref (g 0 4)), (2, .int 0), (0, .ref (g 0 0)), (1, .int st)]) hx hb dX3_howMany_6 rfl hl (by decide) rfl (fun ls hl => ?_)
  refine lv_aload_n hx hb dX3_howMany_7 rfl (lv_at hl 0 rfl) ?_
  refine lDl go hw dX3_howMany_8 ?_
  refine lv_istore (lv' := [(4, .int (nI 6)), (3, .ref (g 0 4)), (2, .int 0), (0, .ref (g 0 0)), (1, .int st)]) hx hb dX3_howMany_9 hl (by decide) rfl (fun ls hl => ?_)
  refine lv_iconst (v := 0) hx hb dX3_howMany_11 (by decide) ?_
  refine lv_istore (lv' := [(5, .int 0), (4, .int (nI 6)), (3, .ref (g 0 4)), (2, .int 0), (0, .ref (g 0 0)), (1, .int st)]) hx hb dX3_howMany_12 hl (by decide) rfl (fun ls hl => ?_)
  have hl0 : lv_has ls 7 [(0, .ref (g 0 0)), (1, .int st), (2, .int (nI (cntB (fun d => decide (sI x (2 + d) 1 = st)) 0))), (3, .ref (g 0 4)), (4, .int (nI 6)), (5, .int (nI 0))] := lv_to (lv_sub (l' := [(0, .ref (g 0 0)), (1, .int st), (2, .int 0), (3, .ref (g 0 4)), (4, .int (nI 6)), (5, .int 0)]) hl [4, 5, 3, 2, 1, 0] rfl) (lr (lr (lc (show (0 : Int32) = nI (cntB (fun d => decide (sI x (2 + d) 1 = st)) 0) from rfl) (lr (lr (lc (show (0 : Int32) = nI 0 from rfl) rfl))))))
  refine loop_up (N := 6) (P := fun i H locs ls => Wd G A s H locs (cw G g x) ∧ lv_has ls 7 [(0, .ref (g 0 0)), (1, .int st), (2, .int (nI (cntB (fun d => decide (sI x (2 + d) 1 = st)) i))), (3, .ref (g 0 4)), (4, .int (nI 6)), (5, .int (nI i))]) (X := fun H locs ls => W p l e (Rm 0 0) s m ([.ref (g 0 0), .int st] : List Value).toArray below meth c H locs 0 0 (MQ below (va_Qi (fun r u => r = nI (howM x st) ∧ u = x) (PostW G (cw G g) A) A) ([.ref (g 0 0), .int st] : List Value).toArray s (Rm 0 0).cells (Rm 0 0).slots A) (F0 m 14 ls [])) ?_ 0 (by omega) H locs ls ⟨hw, hl0⟩
  clear hl0 hl hw
  intro i hi ih H locs ls hP
  obtain ⟨hw, hl⟩ := hP
  refine lv_iload hx hb dX3_howMany_14 (lv_at hl 5 rfl) ?_
  refine lv_iload hx hb dX3_howMany_16 (lv_at hl 4 rfl) ?_
  refine lv_icmp_ge (tgt := 45) hx hb dX3_howMany_18 (by decide) (fun h18 => ?_) (fun h18 => ?_)
  · skip
    have hE : i = 6 := lp_end h18 rfl rfl hi (by decide)
    subst hE
    refine lv_iload_n hx hb dX3_howMany_45 rfl (lv_at hl 2 rfl) ?_
    refine ret_i (wf := cw G g) go hw dX3_howMany_46 ?_
    exact ⟨rfl, rfl⟩
  · skip
    have hlt : i < 6 := lp_in h18 rfl rfl hi (by decide)
    refine lv_aload_n hx hb dX3_howMany_21 rfl (lv_at hl 3 rfl) ?_
    refine lv_iload hx hb dX3_howMany_22 (lv_at hl 5 rfl) ?_
    refine aDl (d := i) (by omega) go hw dX3_howMany_24 ?_
    refine lv_astore (lv' := [(6, .ref (g (2 + i) 0)), (0, .ref (g 0 0)), (1, .int st), (2, .int (nI (cntB (fun d => decide (sI x (2 + d) 1 = st)) i))), (3, .ref (g 0 4)), (4, .int (nI 6)), (5, .int (nI i))]) hx hb dX3_howMany_25 hl (by decide) rfl (fun ls hl => ?_)
    refine lv_aload hx hb dX3_howMany_27 (lv_at hl 0 rfl) ?_
    refine gDi (d := i) (k := 1) (v := sI x (2 + i) 1) (by omega) (by decide) rfl go hw dX3_howMany_29 q63 ?_
    refine lv_iload_n hx hb dX3_howMany_32 rfl (lv_at hl 2 rfl) ?_
    refine lv_icmp_ne (tgt := 39) hx hb dX3_howMany_33 (by decide) (fun h33 => ?_) (fun h33 => ?_)
    · skip
      refine lv_iinc (v := nI (i + 1)) (lv' := [(5, .int (nI (i + 1))), (6, .ref (g (2 + i) 0)), (0, .ref (g 0 0)), (1, .int st), (2, .int (nI (cntB (fun d => decide (sI x (2 + d) 1 = st)) i))), (3, .ref (g 0 4)), (4, .int (nI 6))]) hx hb dX3_howMany_39 hl (k := 6) rfl (nI_1 _) (by decide) rfl (fun ls hl => ?_)
      refine lv_goto (tgt := 14) hx hb dX3_howMany_42 (by decide) ?_
      have hl9 : lv_has ls 7 [(0, .ref (g 0 0)), (1, .int st), (2, .int (nI (cntB (fun d => decide (sI x (2 + d) 1 = st)) (i + 1)))), (3, .ref (g 0 4)), (4, .int (nI 6)), (5, .int (nI (i + 1)))] := lv_to (lv_sub (l' := [(0, .ref (g 0 0)), (1, .int st), (2, .int (nI (cntB (fun d => decide (sI x (2 + d) 1 = st)) i))), (3, .ref (g 0 4)), (4, .int (nI 6)), (5, .int (nI (i + 1)))]) hl [2, 3, 4, 5, 6, 0] rfl) (lr (lr (lc (show (nI (cntB (fun d => decide (sI x (2 + d) 1 = st)) i) : Int32) = nI (cntB (fun d => decide (sI x (2 + d) 1 = st)) (i + 1)) from by first | exact cntB_t (by simp [*]) | exact cntB_f (by simp [*])) (lr (lr (lr rfl))))))
      exact ih _ _ _ (by omega) ⟨hw, hl9⟩
    · skip
      refine lv_iinc (v := nI (cntB (fun d => decide (sI x (2 + d) 1 = st)) i) + 1) (lv' := [(2, .int (nI (cntB (fun d => decide (sI x (2 + d) 1 = st)) i) + 1)), (6, .ref (g (2 + i) 0)), (0, .ref (g 0 0)), (1, .int st), (3, .ref (g 0 4)), (4, .int (nI 6)), (5, .int (nI i))]) hx hb dX3_howMany_36 hl (k := 3) rfl rfl (by decide) rfl (fun ls hl => ?_)
      refine lv_iinc (v := nI (i + 1)) (lv' := [(5, .int (nI (i + 1))), (2, .int (nI (cntB (fun d => decide (sI x (2 + d) 1 = st)) i) + 1)), (6, .ref (g (2 + i) 0)), (0, .ref (g 0 0)), (1, .int st), (3, .ref (g 0 4)), (4, .int (nI 6))]) hx hb dX3_howMany_39 hl (k := 6) rfl (nI_1 _) (by decide) rfl (fun ls hl => ?_)
      refine lv_goto (tgt := 14) hx hb dX3_howMany_42 (by decide) ?_
      have hl9 : lv_has ls 7 [(0, .ref (g 0 0)), (1, .int st), (2, .int (nI (cntB (fun d => decide (sI x (2 + d) 1 = st)) (i + 1)))), (3, .ref (g 0 4)), (4, .int (nI 6)), (5, .int (nI (i + 1)))] := lv_to (lv_sub (l' := [(0, .ref (g 0 0)), (1, .int st), (2, .int (nI (cntB (fun d => decide (sI x (2 + d) 1 = st)) i) + 1)), (3, .ref (g 0 4)), (4, .int (nI 6)), (5, .int (nI (i + 1)))]) hl [3, 4, 1, 5, 6, 0] rfl) (lr (lr (lc (show (nI (cntB (fun d => decide (sI x (2 + d) 1 = st)) i) + 1 : Int32) = nI (cntB (fun d => decide (sI x (2 + d) 1 = st)) (i + 1)) from by first | exact cntB_t (by simp [*]) | exact cntB_f (by simp [*])) (lr (lr (lr rfl))))))
      exact ih _ _ _ (by omega) ⟨hw, hl9⟩
