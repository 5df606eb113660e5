/-! ===== the reference: the log, and what its public methods answer and do ===== -/
theorem nI_m1 {d : Nat} (h : d < 2 ^ 31) : ¬ nI d = -1 := fun q => nI_pos h (by rw [q]; decide)
theorem nI_s1 (n : Nat) : nI (n + 1) - 1 = nI n := by rw [← nI_1, Int32.add_sub_cancel]
theorem n200 {t : Nat} (q : t < 200) : ¬ nI t = 200 := fun z => by
  have h1 := nI_lt q (show (200 : Nat) < 2 ^ 31 by decide)
  rw [z] at h1
  exact Int32.lt_irrefl h1
theorem n200' {t : Nat} (h : t ≤ 200) (z : ¬ nI t = 200) : t < 200 := by
  rcases Nat.lt_or_ge t 200 with q | q
  · exact q
  · exact absurd (by rw [show t = 200 by omega]; rfl) z
theorem rI_frR (x : Rg) (d : Nat) (b : Bool) (k : Nat) : rI (frR x d b) k = rI x k := by cases b <;> rfl
theorem rI_cm (d : Nat) (x : Rg) (k : Nat) : ∀ n, rI (foR (cmS d) x n) k = rI x k
  | 0 => rfl
  | n + 1 => by
    show rI (if _ then _ else _) k = _
    split
    · exact rI_cm d x k n
    · exact rI_cm d x k n
theorem cox_2 (x : Rg) (c0 d : Nat) (w : Int32) : rI (coR x c0 d w) 2 = nI (c0 + 1) := (rI_frR _ _ _ _).trans ((rI_cm _ _ _ _).trans rfl)
theorem rf_deal {x : Rg} {a w : Int32} (h : rfR x a w = 0) : inB 6 a = true := by
  unfold rfR at h
  by_cases q : inB 6 a = true
  · exact q
  · rw [if_neg q] at h; exact absurd h (by decide)
def dmF (x : Rg) (b : Int32) : Nat → Int32 := fun e => if hasB b (nI e) = true then 2 else rA x 4 e
def wrR (x : Rg) (t : Nat) (v : Int32) : Int32 × Rg := if inL v.toInt64 0 255 = true then (if t < 200 then (nI (t + 1), qI (qA x 22 (upd (rA x 22) t v)) 23 (nI (t + 1))) else (-5, x)) else (-3, x)
def itR (x : Rg) (a w : Int32) : Int32 := if inB 8 a = true then (if w = 0 then rA x 0 a.toNatClampNeg else if w = 1 then rA x 1 a.toNatClampNeg else -3) else -2
def liR (x : Rg) (n : Int32) : Int32 × Rg := if inL n.toInt64 1 9 = true then (rI x 16, qI x 16 n) else (-3, x)
def beY (x : Rg) (d : Nat) : Rg :=
  let y := opR x d
  qA (qA (qI y 18 (rI y 18 + 1)) 6 (upd (rA y 6) d (rI y 18 + 1))) 7 (upd (rA y 7) d 0)
def beR (x : Rg) (a : Int32) : Int32 × Rg := if inB 6 a = true then (if rA x 4 a.toNatClampNeg = 0 then (rI (opR x a.toNatClampNeg) 18 + 1, beY x a.toNatClampNeg) else (-4, x)) else (-2, x)
def reY (x : Rg) (d : Nat) : Rg := qA (opR x d) 7 (upd (rA (opR x d) 7) d (rA (opR x d) 7 d + 1))
def reR (x : Rg) (a : Int32) : Int32 × Rg := if inB 6 a = true then (if rA x 8 a.toNatClampNeg = 0 then (-4, x) else (rA (opR x a.toNatClampNeg) 7 a.toNatClampNeg + 1, reY x a.toNatClampNeg)) else (-2, x)
def rdY (x : Rg) (d i : Nat) : Rg := qA (qA (qA x 9 (upd (rA x 9) d (rA x 9 d ||| bt (nI i)))) 11 (upd (rA x 11) (8 * d + i) (rA x 0 i))) 12 (upd (rA x 12) (8 * d + i) (rA x 1 i))
def rdR (x : Rg) (a b : Int32) : Int32 × Rg :=
  if inB 6 a = true ∧ inB 8 b = true then
    if rA x 4 a.toNatClampNeg = 1 then
      if hasB (rA x 10 a.toNatClampNeg) b = true then (rA x 13 (8 * a.toNatClampNeg + b.toNatClampNeg), x)
      else if hasB (rA x 9 a.toNatClampNeg) b = true then (rA x 11 (8 * a.toNatClampNeg + b.toNatClampNeg), x)
      else (rA x 0 b.toNatClampNeg, rdY x a.toNatClampNeg b.toNatClampNeg)
    else (-4, x)
  else (-2, x)
def laY (x : Rg) (d i : Nat) (v : Int32) : Rg := qA (qA x 10 (upd (rA x 10) d (rA x 10 d ||| bt (nI i)))) 13 (upd (rA x 13) (8 * d + i) v)
def laR (x : Rg) (a b v : Int32) : Int32 × Rg :=
  if inB 6 a = true ∧ inB 8 b = true then
    if vaB v = true then
      if rA x 4 a.toNatClampNeg = 1 then (onI (rA x 10 a.toNatClampNeg ||| bt b), laY x a.toNatClampNeg b.toNatClampNeg v) else (-4, x)
    else (-3, x)
  else (-2, x)
def ptY (x : Rg) (c0 i : Nat) (v : Int32) : Rg :=
  let f := rA (lgN x c0 4) 3
  puR (qA (qA (lgN x c0 4) 3 (upd f (22 * c0 + 4) (bt (nI i)))) 3 (upd (upd f (22 * c0 + 4) (bt (nI i))) (22 * c0 + 14 + i) v)) i v
def ptR (x : Rg) (c0 : Nat) (a v : Int32) : Int32 × Rg :=
  if inB 8 a = true then (if vaB v = true then (if nI (inS x 3) ≤ 0 then (nI (c0 + 1), ptY x c0 a.toNatClampNeg v) else (-4, x)) else (-3, x)) else (-2, x)
def ckF (x : Rg) (c0 d : Nat) (w : Int32) : Int32 := ckR x d w (rA x 5 d).toNatClampNeg (c0 - (rA x 5 d).toNatClampNeg)
def cmY (x : Rg) (c0 d : Nat) (w : Int32) : Rg := coR (qA x 4 (cpF (rA x 4) (dmF x (if w = 2 then rvR x d else 0)) 6)) c0 d w
def cmR (x : Rg) (c0 : Nat) (a w : Int32) : Int32 × Rg :=
  if rfR x a w = 0 then (if ckF x c0 a.toNatClampNeg w = 0 then (nI (c0 + 1), cmY x c0 a.toNatClampNeg w) else (ckF x c0 a.toNatClampNeg w, faR x a.toNatClampNeg (ckF x c0 a.toNatClampNeg w))) else (rfR x a w, x)
def peR (x : Rg) (c0 : Nat) (a w : Int32) : Int32 := if rfR x a w = 0 then (if ckF x c0 a.toNatClampNeg w = 0 then nI c0 + 1 else ckF x c0 a.toNatClampNeg w) else rfR x a w
def abR (x : Rg) (a : Int32) : Int32 × Rg := if inB 6 a = true then (if rA x 4 a.toNatClampNeg = 1 ∨ rA x 4 a.toNatClampNeg = 2 then (nI (inS (faR x a.toNatClampNeg 0) 1), faR x a.toNatClampNeg 0) else (-4, x)) else (-2, x)
def swR (x : Rg) : Nat → Rg × Nat
  | 0 => (x, 0)
  | n + 1 => if rA (swR x n).1 4 n = 1 ∧ ¬ slR (swR x n).1 n = 0 then (faR (swR x n).1 n 0, (swR x n).2 + 1) else swR x n
def snY (x : Rg) (d : Nat) : Rg := qA (qA (qA (qI (qA x 4 (upd (rA x 4) d 3)) 17 (rI x 17 + 1)) 14 (upd (rA x 14) d (rI x 17 + 1))) 15 (upd (rA x 15) d 0)) 15 (upd (upd (rA x 15) d 0) (6 + d) 0)
def snR (x : Rg) (a : Int32) : Int32 × Rg := if inB 6 a = true then (if rA x 4 a.toNatClampNeg = 1 then (rI x 17 + 1, snY x a.toNatClampNeg) else (-4, x)) else (-2, x)
/-- the deal of the least ticket, of those that are meant -/
def amR (x : Rg) (p : Nat → Bool) : Nat → Int32
  | 0 => -1
  | n + 1 => if p n = true ∧ (amR x p n = -1 ∨ ¬ rA x 14 (amR x p n).toNatClampNeg ≤ rA x 14 n) then nI n else amR x p n
theorem amR_or (x : Rg) (p : Nat → Bool) : ∀ n, amR x p n = -1 ∨ ∃ j, j < n ∧ amR x p n = nI j
  | 0 => Or.inl rfl
  | n + 1 => by
    rw [amR]
    split
    · exact Or.inr ⟨n, by omega, rfl⟩
    · rcases amR_or x p n with q | ⟨j, hj, q⟩
      · exact Or.inl q
      · exact Or.inr ⟨j, by omega, q⟩
theorem amR_cl {x : Rg} {p : Nat → Bool} {n : Nat} (hn : n < 2 ^ 31) (h : ¬ amR x p n = -1) : amR x p n = nI ((amR x p n).toNatClampNeg) ∧ (amR x p n).toNatClampNeg < n := by
  rcases amR_or x p n with q | ⟨j, hj, q⟩
  · exact absurd q h
  · rw [q, nI_clamp (by omega)]; exact ⟨rfl, hj⟩
theorem amR_a {x : Rg} {p : Nat → Bool} {n : Nat} (h : p n = true) (h2 : amR x p n = -1) : nI n = amR x p (n + 1) := (if_pos ⟨h, Or.inl h2⟩).symm
theorem amR_b {x : Rg} {p : Nat → Bool} {n : Nat} (h : p n = true) (h2 : ¬ rA x 14 (amR x p n).toNatClampNeg ≤ rA x 14 n) : nI n = amR x p (n + 1) := (if_pos ⟨h, Or.inr h2⟩).symm
theorem amR_c {x : Rg} {p : Nat → Bool} {n : Nat} (h : ¬ amR x p n = -1) (h2 : rA x 14 (amR x p n).toNatClampNeg ≤ rA x 14 n) : amR x p n = amR x p (n + 1) := (if_neg (fun z => z.2.elim h (fun q => q h2))).symm
theorem amR_d {x : Rg} {p : Nat → Bool} {n : Nat} (h : p n = false) : amR x p n = amR x p (n + 1) := (if_neg (fun z => Bool.noConfusion (h.symm.trans z.1))).symm
def fnR (x : Rg) : Int32 := amR x (fun d => decide (rA x 4 d = 3)) 6
def fvR (x : Rg) (k : Nat) : Int32 := amR x (fun d => decide (rA x 4 d = 3) && decide (rA x 15 (6 * k + d) = 0)) 6
theorem fn_cl {x : Rg} (h : ¬ fnR x = -1) : fnR x = nI ((fnR x).toNatClampNeg) ∧ (fnR x).toNatClampNeg < 6 := amR_cl (by decide) h
theorem fv_cl {x : Rg} {k : Nat} (h : ¬ fvR x k = -1) : fvR x k = nI ((fvR x k).toNatClampNeg) ∧ (fvR x k).toNatClampNeg < 6 := amR_cl (by decide) h
def bfR (x : Rg) (k d : Nat) : Int32 := foI (fun e a => a ||| (if rA x 4 e = 3 ∧ ¬ rA x 14 d ≤ rA x 14 e ∧ rA x 15 (6 * k + e) = 2 then rA x 10 e else 0)) 0 6
def vyR (x : Rg) (k d : Nat) : Bool := decide ((15 <<< ((4 * (nI k)) &&& 31)) &&& ((slR x d) ||| ((rA x 9 d) &&& (bfR x k d))) = 0)
def voR (x : Rg) (v : Int32) : Int32 × Rg :=
  if inB 2 v = true then
    if fvR x v.toNatClampNeg = -1 then (-4, x)
    else (bI (vyR x v.toNatClampNeg (fvR x v.toNatClampNeg).toNatClampNeg), qA x 15 (upd (rA x 15) (6 * v.toNatClampNeg + (fvR x v.toNatClampNeg).toNatClampNeg) (if vyR x v.toNatClampNeg (fvR x v.toNatClampNeg).toNatClampNeg = true then 2 else 1)))
  else (-2, x)
def zeR (x : Rg) (c0 : Nat) : Int32 × Rg :=
  if fnR x = -1 then (-4, x) else
  if rA x 15 (fnR x).toNatClampNeg = 0 ∨ rA x 15 (6 + (fnR x).toNatClampNeg) = 0 then (-4, x) else
  if rA x 15 (fnR x).toNatClampNeg = 2 ∧ rA x 15 (6 + (fnR x).toNatClampNeg) = 2 then (nI (c0 + 1), coR x c0 (fnR x).toNatClampNeg 3) else
  if slR x (fnR x).toNatClampNeg = 0 then (-12, faR x (fnR x).toNatClampNeg (-12)) else (-11, faR x (fnR x).toNatClampNeg (-11))
def dlR (x : Rg) (c0 d : Nat) (w : Int32) : Int32 :=
  if w = 0 then rA x 4 d else if w = 1 then rA x 5 d else if w = 2 then rA x 6 d else if w = 3 then rA x 7 d else if w = 4 then rA x 9 d else if w = 5 then rA x 10 d else if w = 6 then (if rA x 8 d = 0 then 0 else 1) else if w = 7 then bI (stR x d) else if w = 8 then slR x d else if w = 9 then crR x d (rA x 5 d).toNatClampNeg (c0 - (rA x 5 d).toNatClampNeg) else if w = 10 then rvR x d else if w = 11 then (if rA x 4 d = 3 then rA x 14 d else -1) else -3
def deR (x : Rg) (c0 : Nat) (a w : Int32) : Int32 := if inB 6 a = true then dlR x c0 a.toNatClampNeg w else -2
def ntR (x : Rg) (a b w : Int32) : Int32 :=
  if inB 6 a = true ∧ inB 8 b = true then
    if w = 0 then (if hasB (rA x 9 a.toNatClampNeg) b = true then rA x 11 (8 * a.toNatClampNeg + b.toNatClampNeg) else -1)
    else if w = 1 then (if hasB (rA x 9 a.toNatClampNeg) b = true then rA x 12 (8 * a.toNatClampNeg + b.toNatClampNeg) else -1)
    else if w = 2 then (if hasB (rA x 10 a.toNatClampNeg) b = true then rA x 13 (8 * a.toNatClampNeg + b.toNatClampNeg) else -1)
    else -3
  else -2
def abN (x : Rg) (d : Nat) : Nat := cntB (fun j => decide (rA x 4 j = 3) && !decide (rA x 14 d ≤ rA x 14 j)) 6
def seP (x : Rg) (k : Int32) (d : Nat) : Bool := decide (rA x 4 d = 3) && decide (nI (abN x d) = k)
def seR (x : Rg) (k : Int32) : Int32 := if fstN (seP x k) 6 < 6 then nI (fstN (seP x k) 6) else -2
def baR (x : Rg) (v a : Int32) : Int32 := if inB 2 v = true ∧ inB 6 a = true then (if rA x 4 a.toNatClampNeg = 3 then rA x 15 (6 * v.toNatClampNeg + a.toNatClampNeg) - 1 else -4) else -2
def loR (x : Rg) (c0 : Nat) (k w : Int32) : Int32 := if okE c0 k = true then (if inB 6 w = true then rA x 3 (22 * (k.toNatClampNeg - 1) + w.toNatClampNeg) else -3) else -2
def ldR (x : Rg) (c0 : Nat) (k b w : Int32) : Int32 := if okE c0 k = true ∧ inB 8 b = true then (if w = 0 then rA x 3 (22 * (k.toNatClampNeg - 1) + b.toNatClampNeg + 6) else if w = 1 then rA x 3 (22 * (k.toNatClampNeg - 1) + b.toNatClampNeg + 14) else -3) else -2
def bhX (x : Rg) (n q : Nat) : Int32 := ((foI (fun i a => a ||| (if rA x 3 (22 * n + 6 + i) = nI (q + 1) then 1 else 0)) 0 8) ||| (if (rA x 3 (22 * n + 4)) &&& (rA x 3 (22 * q + 4)) = 0 then 0 else 2)) ||| (if (rA x 3 (22 * n + 4)) &&& (rA x 3 (22 * q + 3)) = 0 then 0 else 4)
def bhR (x : Rg) (c0 : Nat) (k j : Int32) : Int32 := if okE c0 k = true ∧ okE c0 j = true ∧ j < k then bhX x (k.toNatClampNeg - 1) (j.toNatClampNeg - 1) else -2
def cnR (x : Rg) (w : Int32) : Int32 :=
  if w = 0 then rI x 2 else if w = 1 then nI (inS x 1) else if w = 2 then nI (inS x 3) else if w = 3 then nI (inS x 2) else if w = 4 then rI x 19 else if w = 5 then rI x 20 else if w = 6 then rI x 21 else if w = 7 then rI x 18 else if w = 8 then rI x 16 else if w = 9 then rI x 23 else if w = 10 then foI (fun i a => a + rA x 0 i) 0 8 else -3

set_option maxHeartbeats 4000000 in
set_option maxRecDepth 100000 in
theorem kX4_logsN (l : Launch) (G : Cx) (h : Nat → Nat) (x : Rg) (c0 : Nat) (hc : rI x 2 = nI c0) (hc5 : c0 ≤ 575) (w : Int32) : Ci l G yX4_logs cX4_logs 5 .int (Rm 0 0) (rw' G h) [.ref (h 0), .int (-1), .int w] x (fun r u => r = nI (22 * c0) ∧ u = lgN x c0 w) := by
  refine Ci.mk (by decide) (Nat.le_of_ble_eq_true rfl) ?_
  intro p e s m below meth c A ls go hw hl
  generalize s.heap = H at hw ⊢
  generalize ([] : List Loc) = locs at hw ⊢
  have hx := go.1
  have hb := go.2.1
  have hl : lv_has ls 5 [(0, .ref (h 0)), (1, .int (-1)), (2, .int w)] := hl
  refine lv_bipush (v := 22) hx hb dX4_logs_0 (by decide) ?_
  refine lv_aload_n hx hb dX4_logs_2 rfl (lv_at hl 0 rfl) ?_
  refine gMi (k := 2) (v := nI c0) (by decide) hc go hw dX4_logs_3 q592 ?_
  refine lv_imul hx hb dX4_logs_6 ?_
  refine toI (show 22 * (nI c0) = nI (22 * c0) from by rw [show (22 : Int32) = nI 22 from rfl, pk_mul]) ?_
  refine lv_istore_n (lv' := [(3, .int (nI (22 * c0))), (0, .ref (h 0)), (1, .int (-1)), (2, .int w)]) hx hb dX4_logs_7 rfl hl (by decide) rfl (fun ls hl => ?_)
  refine lv_aload_n hx hb dX4_logs_8 rfl (lv_at hl 1 rfl) ?_
  refine lv_dup hx hb dX4_logs_9 rfl ?_
  refine gMi (k := 2) (v := nI c0) (by decide) hc go hw dX4_logs_10 q592 ?_
  refine lv_iconst (v := 1) hx hb dX4_logs_13 (by decide) ?_
  refine lv_iadd hx hb dX4_logs_14 ?_
  refine toI (show (nI c0) + 1 = nI (c0 + 1) from by exact nI_1 c0) ?_
  refine pM (k := 2) rfl go hw dX4_logs_15 q592 (fun H locs hw => ?_)
  refine lv_aload_n hx hb dX4_logs_18 rfl (lv_at hl 1 rfl) ?_
  refine gM (k := 3) (v := .ref (h 4)) rfl (by decide) rfl go hw dX4_logs_19 q593 ?_
  refine lv_iload_n hx hb dX4_logs_22 rfl (lv_at hl 0 rfl) ?_
  refine lv_iload_n hx hb dX4_logs_23 rfl (lv_at hl 2 rfl) ?_
  refine sM (k := 3) (j := 22 * c0) rfl (by decide) (by show 22 * c0 < 13200; omega) go hw dX4_logs_24 (fun H locs hw => ?_)
  rw [show rA (qI x 2 (nI (c0 + 1))) 3 = rA x 3 from ((rA_qI _ _ _ _).trans rfl)] at hw
  refine lv_aload_n hx hb dX4_logs_25 rfl (lv_at hl 1 rfl) ?_
  refine gM (k := 3) (v := .ref (h 4)) rfl (by decide) rfl go hw dX4_logs_26 q593 ?_
  refine lv_iload_n hx hb dX4_logs_29 rfl (lv_at hl 0 rfl) ?_
  refine lv_iconst (v := 1) hx hb dX4_logs_30 (by decide) ?_
  refine lv_iadd hx hb dX4_logs_31 ?_
  refine lv_iload_n hx hb dX4_logs_32 rfl (lv_at hl 2 rfl) ?_
  refine lv_iconst (v := (-1)) hx hb dX4_logs_33 (by decide) ?_
  refine lv_icmp_ne (tgt := 41) hx hb dX4_logs_34 (by decide) (fun q => absurd q (by decide)) (fun _ => ?_)
  refine lv_iconst (v := 0) hx hb dX4_logs_37 (by decide) ?_
  refine lv_goto (tgt := 47) hx hb dX4_logs_38 (by decide) ?_
  refine toI2 (show ((nI (22 * c0)) + 1 : Int32) = nI (22 * c0 + 1) from by rw [show (1 : Int32) = nI 1 from rfl, nI_add]) ?_
  refine sM (k := 3) (j := (22 * c0 + 1)) rfl (by decide) (by show 22 * c0 + 1 < 13200; omega) go hw dX4_logs_47 (fun H locs hw => ?_)
  rw [show rA (qA (qI x 2 (nI (c0 + 1))) 3 (upd (rA x 3) (22 * c0) (-1))) 3 = upd (rA x 3) (22 * c0) (-1) from rA_eq] at hw
  refine lv_aload_n hx hb dX4_logs_48 rfl (lv_at hl 1 rfl) ?_
  refine gM (k := 3) (v := .ref (h 4)) rfl (by decide) rfl go hw dX4_logs_49 q593 ?_
  refine lv_iload_n hx hb dX4_logs_52 rfl (lv_at hl 0 rfl) ?_
  refine lv_iconst (v := 2) hx hb dX4_logs_53 (by decide) ?_
  refine lv_iadd hx hb dX4_logs_54 ?_
  refine lv_iload_n hx hb dX4_logs_55 rfl (lv_at hl 2 rfl) ?_
  refine lv_iconst (v := (-1)) hx hb dX4_logs_56 (by decide) ?_
  refine lv_icmp_ne (tgt := 64) hx hb dX4_logs_57 (by decide) (fun q => absurd q (by decide)) (fun _ => ?_)
  refine lv_iconst (v := 0) hx hb dX4_logs_60 (by decide) ?_
  refine lv_goto (tgt := 70) hx hb dX4_logs_61 (by decide) ?_
  refine toI2 (show ((nI (22 * c0)) + 2 : Int32) = nI (22 * c0 + 2) from by rw [show (2 : Int32) = nI 2 from rfl, nI_add]) ?_
  refine sM (k := 3) (j := (22 * c0 + 2)) rfl (by decide) (by show 22 * c0 + 2 < 13200; omega) go hw dX4_logs_70 (fun H locs hw => ?_)
  rw [show rA (qA (qA (qI x 2 (nI (c0 + 1))) 3 (upd (rA x 3) (22 * c0) (-1))) 3 (upd (upd (rA x 3) (22 * c0) (-1)) (22 * c0 + 1) 0)) 3 = upd (upd (rA x 3) (22 * c0) (-1)) (22 * c0 + 1) 0 from rA_eq] at hw
  refine lv_aload_n hx hb dX4_logs_71 rfl (lv_at hl 1 rfl) ?_
  refine gM (k := 3) (v := .ref (h 4)) rfl (by decide) rfl go hw dX4_logs_72 q593 ?_
  refine lv_iload_n hx hb dX4_logs_75 rfl (lv_at hl 0 rfl) ?_
  refine lv_iconst (v := 3) hx hb dX4_logs_76 (by decide) ?_
  refine lv_iadd hx hb dX4_logs_77 ?_
  refine lv_iload_n hx hb dX4_logs_78 rfl (lv_at hl 2 rfl) ?_
  refine lv_iconst (v := (-1)) hx hb dX4_logs_79 (by decide) ?_
  refine lv_icmp_ne (tgt := 87) hx hb dX4_logs_80 (by decide) (fun q => absurd q (by decide)) (fun _ => ?_)
  refine lv_iconst (v := 0) hx hb dX4_logs_83 (by decide) ?_
  refine lv_goto (tgt := 93) hx hb dX4_logs_84 (by decide) ?_
  refine toI2 (show ((nI (22 * c0)) + 3 : Int32) = nI (22 * c0 + 3) from by rw [show (3 : Int32) = nI 3 from rfl, nI_add]) ?_
  refine sM (k := 3) (j := (22 * c0 + 3)) rfl (by decide) (by show 22 * c0 + 3 < 13200; omega) go hw dX4_logs_93 (fun H locs hw => ?_)
  rw [show rA (qA (qA (qA (qI x 2 (nI (c0 + 1))) 3 (upd (rA x 3) (22 * c0) (-1))) 3 (upd (upd (rA x 3) (22 * c0) (-1)) (22 * c0 + 1) 0)) 3 (upd (upd (upd (rA x 3) (22 * c0) (-1)) (22 * c0 + 1) 0) (22 * c0 + 2) 0)) 3 = upd (upd (upd (rA x 3) (22 * c0) (-1)) (22 * c0 + 1) 0) (22 * c0 + 2) 0 from rA_eq] at hw
  refine lv_aload_n hx hb dX4_logs_94 rfl (lv_at hl 1 rfl) ?_
  refine gM (k := 3) (v := .ref (h 4)) rfl (by decide) rfl go hw dX4_logs_95 q593 ?_
  refine lv_iload_n hx hb dX4_logs_98 rfl (lv_at hl 0 rfl) ?_
  refine lv_iconst (v := 4) hx hb dX4_logs_99 (by decide) ?_
  refine lv_iadd hx hb dX4_logs_100 ?_
  refine lv_iload_n hx hb dX4_logs_101 rfl (lv_at hl 2 rfl) ?_
  refine lv_iconst (v := (-1)) hx hb dX4_logs_102 (by decide) ?_
  refine lv_icmp_ne (tgt := 110) hx hb dX4_logs_103 (by decide) (fun q => absurd q (by decide)) (fun _ => ?_)
  refine lv_iconst (v := 0) hx hb dX4_logs_106 (by decide) ?_
  refine lv_goto (tgt := 116) hx hb dX4_logs_107 (by decide) ?_
  refine toI2 (show ((nI (22 * c0)) + 4 : Int32) = nI (22 * c0 + 4) from by rw [show (4 : Int32) = nI 4 from rfl, nI_add]) ?_
  refine sM (k := 3) (j := (22 * c0 + 4)) rfl (by decide) (by show 22 * c0 + 4 < 13200; omega) go hw dX4_logs_116 (fun H locs hw => ?_)
  rw [show rA (qA (qA (qA (qA (qI x 2 (nI (c0 + 1))) 3 (upd (rA x 3) (22 * c0) (-1))) 3 (upd (upd (rA x 3) (22 * c0) (-1)) (22 * c0 + 1) 0)) 3 (upd (upd (upd (rA x 3) (22 * c0) (-1)) (22 * c0 + 1) 0) (22 * c0 + 2) 0)) 3 (upd (upd (upd (upd (rA x 3) (22 * c0) (-1)) (22 * c0 + 1) 0) (22 * c0 + 2) 0) (22 * c0 + 3) 0)) 3 = upd (upd (upd (upd (rA x 3) (22 * c0) (-1)) (22 * c0 + 1) 0) (22 * c0 + 2) 0) (22 * c0 + 3) 0 from rA_eq] at hw
  refine lv_aload_n hx hb dX4_logs_117 rfl (lv_at hl 1 rfl) ?_
  refine gM (k := 3) (v := .ref (h 4)) rfl (by decide) rfl go hw dX4_logs_118 q593 ?_
  refine lv_iload_n hx hb dX4_logs_121 rfl (lv_at hl 0 rfl) ?_
  refine lv_iconst (v := 5) hx hb dX4_logs_122 (by decide) ?_
  refine lv_iadd hx hb dX4_logs_123 ?_
  refine lv_iload_n hx hb dX4_logs_124 rfl (lv_at hl 3 rfl) ?_
  refine toI2 (show ((nI (22 * c0)) + 5 : Int32) = nI (22 * c0 + 5) from by rw [show (5 : Int32) = nI 5 from rfl, nI_add]) ?_
  refine sM (k := 3) (j := (22 * c0 + 5)) rfl (by decide) (by show 22 * c0 + 5 < 13200; omega) go hw dX4_logs_125 (fun H locs hw => ?_)
  rw [show rA (qA (qA (qA (qA (qA (qI x 2 (nI (c0 + 1))) 3 (upd (rA x 3) (22 * c0) (-1))) 3 (upd (upd (rA x 3) (22 * c0) (-1)) (22 * c0 + 1) 0)) 3 (upd (upd (upd (rA x 3) (22 * c0) (-1)) (22 * c0 + 1) 0) (22 * c0 + 2) 0)) 3 (upd (upd (upd (upd (rA x 3) (22 * c0) (-1)) (22 * c0 + 1) 0) (22 * c0 + 2) 0) (22 * c0 + 3) 0)) 3 (upd (upd (upd (upd (upd (rA x 3) (22 * c0) (-1)) (22 * c0 + 1) 0) (22 * c0 + 2) 0) (22 * c0 + 3) 0) (22 * c0 + 4) 0)) 3 = upd (upd (upd (upd (upd (rA x 3) (22 * c0) (-1)) (22 * c0 + 1) 0) (22 * c0 + 2) 0) (22 * c0 + 3) 0) (22 * c0 + 4) 0 from rA_eq] at hw
  refine lv_iconst (v := 0) hx hb dX4_logs_126 (by decide) ?_
  refine lv_istore (lv' := [(4, .int 0), (3, .int (nI (22 * c0))), (0, .ref (h 0)), (1, .int (-1)), (2, .int w)]) hx hb dX4_logs_127 hl (by decide) rfl (fun ls hl => ?_)
  rw [show qA (qA (qA (qA (qA (qA (qI x 2 (nI (c0 + 1))) 3 (upd (rA x 3) (22 * c0) (-1))) 3 (upd (upd (rA x 3) (22 * c0) (-1)) (22 * c0 + 1) 0)) 3 (upd (upd (upd (rA x 3) (22 * c0) (-1)) (22 * c0 + 1) 0) (22 * c0 + 2) 0)) 3 (upd (upd (upd (upd (rA x 3) (22 * c0) (-1)) (22 * c0 + 1) 0) (22 * c0 + 2) 0) (22 * c0 + 3) 0)) 3 (upd (upd (upd (upd (upd (rA x 3) (22 * c0) (-1)) (22 * c0 + 1) 0) (22 * c0 + 2) 0) (22 * c0 + 3) 0) (22 * c0 + 4) 0)) 3 (upd (upd (upd (upd (upd (upd (rA x 3) (22 * c0) (-1)) (22 * c0 + 1) 0) (22 * c0 + 2) 0) (22 * c0 + 3) 0) (22 * c0 + 4) 0) (22 * c0 + 5) w) = qA (lg0 x c0 (-1) 0 0 0 0 w) 3 (lgL (rA (lg0 x c0 (-1) 0 0 0 0 w) 3) (fun _ => -1) (fun _ => -1) (22 * c0) 0) from by rw [lgL_0, qA_self]; rfl] at hw
  have hl0 : lv_has ls 5 [(0, .ref (h 0)), (1, .int (-1)), (2, .int w), (3, .int (nI (22 * c0))), (4, .int (nI 0))] := lv_to (lv_sub (l' := [(0, .ref (h 0)), (1, .int (-1)), (2, .int w), (3, .int (nI (22 * c0))), (4, .int 0)]) hl [2, 3, 4, 1, 0] rfl) (lr (lr (lr (lr (lc (show (0 : Int32) = nI 0 from rfl) rfl)))))
  refine loop_up (N := 8) (P := fun i H locs ls => Wd G A s H locs (rw' G h (qA (lg0 x c0 (-1) 0 0 0 0 w) 3 (lgL (rA (lg0 x c0 (-1) 0 0 0 0 w) 3) (fun _ => -1) (fun _ => -1) (22 * c0) i))) ∧ lv_has ls 5 [(0, .ref (h 0)), (1, .int (-1)), (2, .int w), (3, .int (nI (22 * c0))), (4, .int (nI i))]) (X := fun H locs ls => W p l e (Rm 0 0) s m ([.ref (h 0), .int (-1), .int w] : List Value).toArray below meth c H locs 0 0 (MQ below (va_Qi (fun r u => r = nI (22 * c0) ∧ u = lgN x c0 w) (PostW G (rw' G h) A) A) ([.ref (h 0), .int (-1), .int w] : List Value).toArray s (Rm 0 0).cells (Rm 0 0).slots A) (F0 m 129 ls [])) ?_ 0 (by omega) H locs ls ⟨hw, hl0⟩
  clear hl0 hl hw
  intro i hi ih H locs ls hP
  obtain ⟨hw, hl⟩ := hP
  refine lv_iload hx hb dX4_logs_129 (lv_at hl 4 rfl) ?_
  refine lv_bipush (v := 8) hx hb dX4_logs_131 (by decide) ?_
  refine lv_icmp_ge (tgt := 236) hx hb dX4_logs_133 (by decide) (fun h133 => ?_) (fun h133 => ?_)
  · skip
    have hE : i = 8 := lp_end h133 rfl rfl hi (by decide)
    subst hE
    refine lv_iload_n hx hb dX4_logs_236 rfl (lv_at hl 3 rfl) ?_
    refine ret_i (wf := rw' G h) go hw dX4_logs_237 ?_
    exact ⟨rfl, rfl⟩
  · skip
    have hlt : i < 8 := lp_in h133 rfl rfl hi (by decide)
    refine lv_aload_n hx hb dX4_logs_136 rfl (lv_at hl 0 rfl) ?_
    refine gM (k := 3) (v := .ref (h 4)) rfl (by decide) rfl go hw dX4_logs_137 q593 ?_
    refine lv_iload_n hx hb dX4_logs_140 rfl (lv_at hl 3 rfl) ?_
    refine lv_bipush (v := 6) hx hb dX4_logs_141 (by decide) ?_
    refine lv_iadd hx hb dX4_logs_143 ?_
    refine lv_iload hx hb dX4_logs_144 (lv_at hl 4 rfl) ?_
    refine lv_iadd hx hb dX4_logs_146 ?_
    refine lv_iload_n hx hb dX4_logs_147 rfl (lv_at hl 1 rfl) ?_
    refine lv_iconst (v := (-1)) hx hb dX4_logs_148 (by decide) ?_
    refine lv_icmp_eq (tgt := 181) hx hb dX4_logs_149 (by decide) (fun _ => ?_) (fun q => absurd q (by decide))
    refine lv_iconst (v := (-1)) hx hb dX4_logs_181 (by decide) ?_
    refine toI2 (show (((nI (22 * c0)) + 6) + (nI i) : Int32) = nI (22 * c0 + 6 + i) from by rw [show (6 : Int32) = nI 6 from rfl, nI_add, nI_add]) ?_
    refine sM (k := 3) (j := (22 * c0 + 6 + i)) rfl (by decide) (by show 22 * c0 + 6 + i < 13200; omega) go hw dX4_logs_182 (fun H locs hw => ?_)
    rw [show rA (qA (lg0 x c0 (-1) 0 0 0 0 w) 3 (lgL (rA (lg0 x c0 (-1) 0 0 0 0 w) 3) (fun _ => -1) (fun _ => -1) (22 * c0) i)) 3 = lgL (rA (lg0 x c0 (-1) 0 0 0 0 w) 3) (fun _ => -1) (fun _ => -1) (22 * c0) i from rA_eq] at hw
    refine lv_aload_n hx hb dX4_logs_183 rfl (lv_at hl 0 rfl) ?_
    refine gM (k := 3) (v := .ref (h 4)) rfl (by decide) rfl go hw dX4_logs_184 q593 ?_
    refine lv_iload_n hx hb dX4_logs_187 rfl (lv_at hl 3 rfl) ?_
    refine lv_bipush (v := 14) hx hb dX4_logs_188 (by decide) ?_
    refine lv_iadd hx hb dX4_logs_190 ?_
    refine lv_iload hx hb dX4_logs_191 (lv_at hl 4 rfl) ?_
    refine lv_iadd hx hb dX4_logs_193 ?_
    refine lv_iload_n hx hb dX4_logs_194 rfl (lv_at hl 1 rfl) ?_
    refine lv_iconst (v := (-1)) hx hb dX4_logs_195 (by decide) ?_
    refine lv_icmp_eq (tgt := 228) hx hb dX4_logs_196 (by decide) (fun _ => ?_) (fun q => absurd q (by decide))
    refine lv_iconst (v := (-1)) hx hb dX4_logs_228 (by decide) ?_
    refine toI2 (show (((nI (22 * c0)) + 14) + (nI i) : Int32) = nI (22 * c0 + 14 + i) from by rw [show (14 : Int32) = nI 14 from rfl, nI_add, nI_add]) ?_
    refine sM (k := 3) (j := (22 * c0 + 14 + i)) rfl (by decide) (by show 22 * c0 + 14 + i < 13200; omega) go hw dX4_logs_229 (fun H locs hw => ?_)
    rw [show rA (qA (qA (lg0 x c0 (-1) 0 0 0 0 w) 3 (lgL (rA (lg0 x c0 (-1) 0 0 0 0 w) 3) (fun _ => -1) (fun _ => -1) (22 * c0) i)) 3 (upd (lgL (rA (lg0 x c0 (-1) 0 0 0 0 w) 3) (fun _ => -1) (fun _ => -1) (22 * c0) i) (22 * c0 + 6 + i) (-1))) 3 = upd (lgL (rA (lg0 x c0 (-1) 0 0 0 0 w) 3) (fun _ => -1) (fun _ => -1) (22 * c0) i) (22 * c0 + 6 + i) (-1) from rA_eq] at hw
    refine lv_iinc (v := nI (i + 1)) (lv' := [(4, .int (nI (i + 1))), (0, .ref (h 0)), (1, .int (-1)), (2, .int w), (3, .int (nI (22 * c0)))]) hx hb dX4_logs_230 hl (k := 4) rfl (nI_1 _) (by decide) rfl (fun ls hl => ?_)
    refine lv_goto (tgt := 129) hx hb dX4_logs_233 (by decide) ?_
    have hl9 : lv_has ls 5 [(0, .ref (h 0)), (1, .int (-1)), (2, .int w), (3, .int (nI (22 * c0))), (4, .int (nI (i + 1)))] := lv_sub hl [1, 2, 3, 4, 0] rfl
    rw [show qA (qA (qA (lg0 x c0 (-1) 0 0 0 0 w) 3 (lgL (rA (lg0 x c0 (-1) 0 0 0 0 w) 3) (fun _ => -1) (fun _ => -1) (22 * c0) i)) 3 (upd (lgL (rA (lg0 x c0 (-1) 0 0 0 0 w) 3) (fun _ => -1) (fun _ => -1) (22 * c0) i) (22 * c0 + 6 + i) (-1))) 3 (upd (upd (lgL (rA (lg0 x c0 (-1) 0 0 0 0 w) 3) (fun _ => -1) (fun _ => -1) (22 * c0) i) (22 * c0 + 6 + i) (-1)) (22 * c0 + 14 + i) (-1)) = qA (lg0 x c0 (-1) 0 0 0 0 w) 3 (lgL (rA (lg0 x c0 (-1) 0 0 0 0 w) 3) (fun _ => -1) (fun _ => -1) (22 * c0) (i + 1)) from by rw [qA_over, qA_over, lgL_s _ _ _ _ _ hlt]] at hw
    exact ih _ _ _ (by omega) ⟨hw, hl9⟩

set_option maxHeartbeats 4000000 in
set_option maxRecDepth 100000 in
theorem kX4_logsD (l : Launch) (G : Cx) (h : Nat → Nat) (x : Rg) (c0 : Nat) (hc : rI x 2 = nI c0) (hc5 : c0 ≤ 575) (d : Nat) (hd : d < 6) (w : Int32) : Ci l G yX4_logs cX4_logs 5 .int (Rm 1 21) (rw' G h) [.ref (h 0), .int (nI d), .int w] x (fun r u => r = nI (22 * c0) ∧ u = lgD x c0 d w) := by
  refine Ci.mk (by decide) (Nat.le_of_ble_eq_true rfl) ?_
  intro p e s m below meth c A ls go hw hl
  generalize s.heap = H at hw ⊢
  generalize ([] : List Loc) = locs at hw ⊢
  have hx := go.1
  have hb := go.2.1
  have hl : lv_has ls 5 [(0, .ref (h 0)), (1, .int (nI d)), (2, .int w)] := hl
  refine lv_bipush (v := 22) hx hb dX4_logs_0 (by decide) ?_
  refine lv_aload_n hx hb dX4_logs_2 rfl (lv_at hl 0 rfl) ?_
  refine gMi (k := 2) (v := nI c0) (by decide) hc go hw dX4_logs_3 q592 ?_
  refine lv_imul hx hb dX4_logs_6 ?_
  refine toI (show 22 * (nI c0) = nI (22 * c0) from by rw [show (22 : Int32) = nI 22 from rfl, pk_mul]) ?_
  refine lv_istore_n (lv' := [(3, .int (nI (22 * c0))), (0, .ref (h 0)), (1, .int (nI d)), (2, .int w)]) hx hb dX4_logs_7 rfl hl (by decide) rfl (fun ls hl => ?_)
  refine lv_aload_n hx hb dX4_logs_8 rfl (lv_at hl 1 rfl) ?_
  refine lv_dup hx hb dX4_logs_9 rfl ?_
  refine gMi (k := 2) (v := nI c0) (by decide) hc go hw dX4_logs_10 q592 ?_
  refine lv_iconst (v := 1) hx hb dX4_logs_13 (by decide) ?_
  refine lv_iadd hx hb dX4_logs_14 ?_
  refine toI (show (nI c0) + 1 = nI (c0 + 1) from by exact nI_1 c0) ?_
  refine pM (k := 2) rfl go hw dX4_logs_15 q592 (fun H locs hw => ?_)
  refine lv_aload_n hx hb dX4_logs_18 rfl (lv_at hl 1 rfl) ?_
  refine gM (k := 3) (v := .ref (h 4)) rfl (by decide) rfl go hw dX4_logs_19 q593 ?_
  refine lv_iload_n hx hb dX4_logs_22 rfl (lv_at hl 0 rfl) ?_
  refine lv_iload_n hx hb dX4_logs_23 rfl (lv_at hl 2 rfl) ?_
  refine sM (k := 3) (j := 22 * c0) rfl (by decide) (by show 22 * c0 < 13200; omega) go hw dX4_logs_24 (fun H locs hw => ?_)
  rw [show rA (qI x 2 (nI (c0 + 1))) 3 = rA x 3 from ((rA_qI _ _ _ _).trans rfl)] at hw
  refine lv_aload_n hx hb dX4_logs_25 rfl (lv_at hl 1 rfl) ?_
  refine gM (k := 3) (v := .ref (h 4)) rfl (by decide) rfl go hw dX4_logs_26 q593 ?_
  refine lv_iload_n hx hb dX4_logs_29 rfl (lv_at hl 0 rfl) ?_
  refine lv_iconst (v := 1) hx hb dX4_logs_30 (by decide) ?_
  refine lv_iadd hx hb dX4_logs_31 ?_
  refine lv_iload_n hx hb dX4_logs_32 rfl (lv_at hl 2 rfl) ?_
  refine lv_iconst (v := (-1)) hx hb dX4_logs_33 (by decide) ?_
  refine lv_icmp_ne (tgt := 41) hx hb dX4_logs_34 (by decide) (fun h34 => ?_) (fun h34 => absurd h34 (by exact nI_m1 (by omega)))
  refine lv_aload_n hx hb dX4_logs_41 rfl (lv_at hl 1 rfl) ?_
  refine gM (k := 6) (v := .ref (h 7)) rfl (by decide) rfl go hw dX4_logs_42 q596 ?_
  refine lv_iload_n hx hb dX4_logs_45 rfl (lv_at hl 2 rfl) ?_
  refine aM (k := 6) (j := d) rfl (by decide) (by exact hd) go hw dX4_logs_46 ?_
  refine toI (show rA (qA (qI x 2 (nI (c0 + 1))) 3 (upd (rA x 3) (22 * c0) (nI d))) 6 d = rA x 6 d from congrFun ((rA_ne (by decide)).trans ((rA_qI _ _ _ _).trans rfl)) d) ?_
  refine toI2 (show ((nI (22 * c0)) + 1 : Int32) = nI (22 * c0 + 1) from by rw [show (1 : Int32) = nI 1 from rfl, nI_add]) ?_
  refine sM (k := 3) (j := (22 * c0 + 1)) rfl (by decide) (by show 22 * c0 + 1 < 13200; omega) go hw dX4_logs_47 (fun H locs hw => ?_)
  rw [show rA (qA (qI x 2 (nI (c0 + 1))) 3 (upd (rA x 3) (22 * c0) (nI d))) 3 = upd (rA x 3) (22 * c0) (nI d) from rA_eq] at hw
  refine lv_aload_n hx hb dX4_logs_48 rfl (lv_at hl 1 rfl) ?_
  refine gM (k := 3) (v := .ref (h 4)) rfl (by decide) rfl go hw dX4_logs_49 q593 ?_
  refine lv_iload_n hx hb dX4_logs_52 rfl (lv_at hl 0 rfl) ?_
  refine lv_iconst (v := 2) hx hb dX4_logs_53 (by decide) ?_
  refine lv_iadd hx hb dX4_logs_54 ?_
  refine lv_iload_n hx hb dX4_logs_55 rfl (lv_at hl 2 rfl) ?_
  refine lv_iconst (v := (-1)) hx hb dX4_logs_56 (by decide) ?_
  refine lv_icmp_ne (tgt := 64) hx hb dX4_logs_57 (by decide) (fun h57 => ?_) (fun h57 => absurd h57 (by exact nI_m1 (by omega)))
  refine lv_aload_n hx hb dX4_logs_64 rfl (lv_at hl 1 rfl) ?_
  refine gM (k := 7) (v := .ref (h 8)) rfl (by decide) rfl go hw dX4_logs_65 q597 ?_
  refine lv_iload_n hx hb dX4_logs_68 rfl (lv_at hl 2 rfl) ?_
  refine aM (k := 7) (j := d) rfl (by decide) (by exact hd) go hw dX4_logs_69 ?_
  refine toI (show rA (qA (qA (qI x 2 (nI (c0 + 1))) 3 (upd (rA x 3) (22 * c0) (nI d))) 3 (upd (upd (rA x 3) (22 * c0) (nI d)) (22 * c0 + 1) (rA x 6 d))) 7 d = rA x 7 d from congrFun ((rA_ne (by decide)).trans ((rA_ne (by decide)).trans ((rA_qI _ _ _ _).trans rfl))) d) ?_
  refine toI2 (show ((nI (22 * c0)) + 2 : Int32) = nI (22 * c0 + 2) from by rw [show (2 : Int32) = nI 2 from rfl, nI_add]) ?_
  refine sM (k := 3) (j := (22 * c0 + 2)) rfl (by decide) (by show 22 * c0 + 2 < 13200; omega) go hw dX4_logs_70 (fun H locs hw => ?_)
  rw [show rA (qA (qA (qI x 2 (nI (c0 + 1))) 3 (upd (rA x 3) (22 * c0) (nI d))) 3 (upd (upd (rA x 3) (22 * c0) (nI d)) (22 * c0 + 1) (rA x 6 d))) 3 = upd (upd (rA x 3) (22 * c0) (nI d)) (22 * c0 + 1) (rA x 6 d) from rA_eq] at hw
  refine lv_aload_n hx hb dX4_logs_71 rfl (lv_at hl 1 rfl) ?_
  refine gM (k := 3) (v := .ref (h 4)) rfl (by decide) rfl go hw dX4_logs_72 q593 ?_
  refine lv_iload_n hx hb dX4_logs_75 rfl (lv_at hl 0 rfl) ?_
  refine lv_iconst (v := 3) hx hb dX4_logs_76 (by decide) ?_
  refine lv_iadd hx hb dX4_logs_77 ?_
  refine lv_iload_n hx hb dX4_logs_78 rfl (lv_at hl 2 rfl) ?_
  refine lv_iconst (v := (-1)) hx hb dX4_logs_79 (by decide) ?_
  refine lv_icmp_ne (tgt := 87) hx hb dX4_logs_80 (by decide) (fun h80 => ?_) (fun h80 => absurd h80 (by exact nI_m1 (by omega)))
  refine lv_aload_n hx hb dX4_logs_87 rfl (lv_at hl 1 rfl) ?_
  refine gM (k := 9) (v := .ref (h 10)) rfl (by decide) rfl go hw dX4_logs_88 q599 ?_
  refine lv_iload_n hx hb dX4_logs_91 rfl (lv_at hl 2 rfl) ?_
  refine aM (k := 9) (j := d) rfl (by decide) (by exact hd) go hw dX4_logs_92 ?_
  refine toI (show rA (qA (qA (qA (qI x 2 (nI (c0 + 1))) 3 (upd (rA x 3) (22 * c0) (nI d))) 3 (upd (upd (rA x 3) (22 * c0) (nI d)) (22 * c0 + 1) (rA x 6 d))) 3 (upd (upd (upd (rA x 3) (22 * c0) (nI d)) (22 * c0 + 1) (rA x 6 d)) (22 * c0 + 2) (rA x 7 d))) 9 d = rA x 9 d from congrFun ((rA_ne (by decide)).trans ((rA_ne (by decide)).trans ((rA_ne (by decide)).trans ((rA_qI _ _ _ _).trans rfl)))) d) ?_
  refine toI2 (show ((nI (22 * c0)) + 3 : Int32) = nI (22 * c0 + 3) from by rw [show (3 : Int32) = nI 3 from rfl, nI_add]) ?_
  refine sM (k := 3) (j := (22 * c0 + 3)) rfl (by decide) (by show 22 * c0 + 3 < 13200; omega) go hw dX4_logs_93 (fun H locs hw => ?_)
  rw [show rA (qA (qA (qA (qI x 2 (nI (c0 + 1))) 3 (upd (rA x 3) (22 * c0) (nI d))) 3 (upd (upd (rA x 3) (22 * c0) (nI d)) (22 * c0 + 1) (rA x 6 d))) 3 (upd (upd (upd (rA x 3) (22 * c0) (nI d)) (22 * c0 + 1) (rA x 6 d)) (22 * c0 + 2) (rA x 7 d))) 3 = upd (upd (upd (rA x 3) (22 * c0) (nI d)) (22 * c0 + 1) (rA x 6 d)) (22 * c0 + 2) (rA x 7 d) from rA_eq] at hw
  refine lv_aload_n hx hb dX4_logs_94 rfl (lv_at hl 1 rfl) ?_
  refine gM (k := 3) (v := .ref (h 4)) rfl (by decide) rfl go hw dX4_logs_95 q593 ?_
  refine lv_iload_n hx hb dX4_logs_98 rfl (lv_at hl 0 rfl) ?_
  refine lv_iconst (v := 4) hx hb dX4_logs_99 (by decide) ?_
  refine lv_iadd hx hb dX4_logs_100 ?_
  refine lv_iload_n hx hb dX4_logs_101 rfl (lv_at hl 2 rfl) ?_
  refine lv_iconst (v := (-1)) hx hb dX4_logs_102 (by decide) ?_
  refine lv_icmp_ne (tgt := 110) hx hb dX4_logs_103 (by decide) (fun h103 => ?_) (fun h103 => absurd h103 (by exact nI_m1 (by omega)))
  refine lv_aload_n hx hb dX4_logs_110 rfl (lv_at hl 1 rfl) ?_
  refine gM (k := 10) (v := .ref (h 11)) rfl (by decide) rfl go hw dX4_logs_111 q600 ?_
  refine lv_iload_n hx hb dX4_logs_114 rfl (lv_at hl 2 rfl) ?_
  refine aM (k := 10) (j := d) rfl (by decide) (by exact hd) go hw dX4_logs_115 ?_
  refine toI (show rA (qA (qA (qA (qA (qI x 2 (nI (c0 + 1))) 3 (upd (rA x 3) (22 * c0) (nI d))) 3 (upd (upd (rA x 3) (22 * c0) (nI d)) (22 * c0 + 1) (rA x 6 d))) 3 (upd (upd (upd (rA x 3) (22 * c0) (nI d)) (22 * c0 + 1) (rA x 6 d)) (22 * c0 + 2) (rA x 7 d))) 3 (upd (upd (upd (upd (rA x 3) (22 * c0) (nI d)) (22 * c0 + 1) (rA x 6 d)) (22 * c0 + 2) (rA x 7 d)) (22 * c0 + 3) (rA x 9 d))) 10 d = rA x 10 d from congrFun ((rA_ne (by decide)).trans ((rA_ne (by decide)).trans ((rA_ne (by decide)).trans ((rA_ne (by decide)).trans ((rA_qI _ _ _ _).trans rfl))))) d) ?_
  refine toI2 (show ((nI (22 * c0)) + 4 : Int32) = nI (22 * c0 + 4) from by rw [show (4 : Int32) = nI 4 from rfl, nI_add]) ?_
  refine sM (k := 3) (j := (22 * c0 + 4)) rfl (by decide) (by show 22 * c0 + 4 < 13200; omega) go hw dX4_logs_116 (fun H locs hw => ?_)
  rw [show rA (qA (qA (qA (qA (qI x 2 (nI (c0 + 1))) 3 (upd (rA x 3) (22 * c0) (nI d))) 3 (upd (upd (rA x 3) (22 * c0) (nI d)) (22 * c0 + 1) (rA x 6 d))) 3 (upd (upd (upd (rA x 3) (22 * c0) (nI d)) (22 * c0 + 1) (rA x 6 d)) (22 * c0 + 2) (rA x 7 d))) 3 (upd (upd (upd (upd (rA x 3) (22 * c0) (nI d)) (22 * c0 + 1) (rA x 6 d)) (22 * c0 + 2) (rA x 7 d)) (22 * c0 + 3) (rA x 9 d))) 3 = upd (upd (upd (upd (rA x 3) (22 * c0) (nI d)) (22 * c0 + 1) (rA x 6 d)) (22 * c0 + 2) (rA x 7 d)) (22 * c0 + 3) (rA x 9 d) from rA_eq] at hw
  refine lv_aload_n hx hb dX4_logs_117 rfl (lv_at hl 1 rfl) ?_
  refine gM (k := 3) (v := .ref (h 4)) rfl (by decide) rfl go hw dX4_logs_118 q593 ?_
  refine lv_iload_n hx hb dX4_logs_121 rfl (lv_at hl 0 rfl) ?_
  refine lv_iconst (v := 5) hx hb dX4_logs_122 (by decide) ?_
  refine lv_iadd hx hb dX4_logs_123 ?_
  refine lv_iload_n hx hb dX4_logs_124 rfl (lv_at hl 3 rfl) ?_
  refine toI2 (show ((nI (22 * c0)) + 5 : Int32) = nI (22 * c0 + 5) from by rw [show (5 : Int32) = nI 5 from rfl, nI_add]) ?_
  refine sM (k := 3) (j := (22 * c0 + 5)) rfl (by decide) (by show 22 * c0 + 5 < 13200; omega) go hw dX4_logs_125 (fun H locs hw => ?_)
  rw [show rA (qA (qA (qA (qA (qA (qI x 2 (nI (c0 + 1))) 3 (upd (rA x 3) (22 * c0) (nI d))) 3 (upd (upd (rA x 3) (22 * c0) (nI d)) (22 * c0 + 1) (rA x 6 d))) 3 (upd (upd (upd (rA x 3) (22 * c0) (nI d)) (22 * c0 + 1) (rA x 6 d)) (22 * c0 + 2) (rA x 7 d))) 3 (upd (upd (upd (upd (rA x 3) (22 * c0) (nI d)) (22 * c0 + 1) (rA x 6 d)) (22 * c0 + 2) (rA x 7 d)) (22 * c0 + 3) (rA x 9 d))) 3 (upd (upd (upd (upd (upd (rA x 3) (22 * c0) (nI d)) (22 * c0 + 1) (rA x 6 d)) (22 * c0 + 2) (rA x 7 d)) (22 * c0 + 3) (rA x 9 d)) (22 * c0 + 4) (rA x 10 d))) 3 = upd (upd (upd (upd (upd (rA x 3) (22 * c0) (nI d)) (22 * c0 + 1) (rA x 6 d)) (22 * c0 + 2) (rA x 7 d)) (22 * c0 + 3) (rA x 9 d)) (22 * c0 + 4) (rA x 10 d) from rA_eq] at hw
  refine lv_iconst (v := 0) hx hb dX4_logs_126 (by decide) ?_
  refine lv_istore (lv' := [(4, .int 0), (3, .int (nI (22 * c0))), (0, .ref (h 0)), (1, .int (nI d)), (2, .int w)]) hx hb dX4_logs_127 hl (by decide) rfl (fun ls hl => ?_)
  rw [show qA (qA (qA (qA (qA (qA (qI x 2 (nI (c0 + 1))) 3 (upd (rA x 3) (22 * c0) (nI d))) 3 (upd (upd (rA x 3) (22 * c0) (nI d)) (22 * c0 + 1) (rA x 6 d))) 3 (upd (upd (upd (rA x 3) (22 * c0) (nI d)) (22 * c0 + 1) (rA x 6 d)) (22 * c0 + 2) (rA x 7 d))) 3 (upd (upd (upd (upd (rA x 3) (22 * c0) (nI d)) (22 * c0 + 1) (rA x 6 d)) (22 * c0 + 2) (rA x 7 d)) (22 * c0 + 3) (rA x 9 d))) 3 (upd (upd (upd (upd (upd (rA x 3) (22 * c0) (nI d)) (22 * c0 + 1) (rA x 6 d)) (22 * c0 + 2) (rA x 7 d)) (22 * c0 + 3) (rA x 9 d)) (22 * c0 + 4) (rA x 10 d))) 3 (upd (upd (upd (upd (upd (upd (rA x 3) (22 * c0) (nI d)) (22 * c0 + 1) (rA x 6 d)) (22 * c0 + 2) (rA x 7 d)) (22 * c0 + 3) (rA x 9 d)) (22 * c0 + 4) (rA x 10 d)) (22 * c0 + 5) w) = qA (lg1 x c0 d w) 3 (lgL (rA (lg1 x c0 d w) 3) (nsR x d) (wvR x d) (22 * c0) 0) from by rw [lgL_0, qA_self]; rfl] at hw
  have hl0 : lv_has ls 5 [(0, .ref (h 0)), (1, .int (nI d)), (2, .int w), (3, .int (nI (22 * c0))), (4, .int (nI 0))] := lv_to (lv_sub (l' := [(0, .ref (h 0)), (1, .int (nI d)), (2, .int w), (3, .int (nI (22 * c0))), (4, .int 0)]) hl [2, 3, 4, 1, 0] rfl) (lr (lr (lr (lr (lc (show (0 : Int32) = nI 0 from rfl) rfl)))))
  refine loop_up (N := 8) (P := fun i H locs ls => Wd G A s H locs (rw' G h (qA (lg1 x c0 d w) 3 (lgL (rA (lg1 x c0 d w) 3) (nsR x d) (wvR x d) (22 * c0) i))) ∧ lv_has ls 5 [(0, .ref (h 0)), (1, .int (nI d)), (2, .int w), (3, .int (nI (22 * c0))), (4, .int (nI i))]) (X := fun H locs ls => W p l e (Rm 1 21) s m ([.ref (h 0), .int (nI d), .int w] : List Value).toArray below meth c H locs 0 0 (MQ below (va_Qi (fun r u => r = nI (22 * c0) ∧ u = lgD x c0 d w) (PostW G (rw' G h) A) A) ([.ref (h 0), .int (nI d), .int w] : List Value).toArray s (Rm 1 21).cells (Rm 1 21).slots A) (F0 m 129 ls [])) ?_ 0 (by omega) H locs ls ⟨hw, hl0⟩
  clear hl0 hl hw
  intro i hi ih H locs ls hP
  obtain ⟨hw, hl⟩ := hP
  refine lv_iload hx hb dX4_logs_129 (lv_at hl 4 rfl) ?_
  refine lv_bipush (v := 8) hx hb dX4_logs_131 (by decide) ?_
  refine lv_icmp_ge (tgt := 236) hx hb dX4_logs_133 (by decide) (fun h133 => ?_) (fun h133 => ?_)
  · skip
    have hE : i = 8 := lp_end h133 rfl rfl hi (by decide)
    subst hE
    refine lv_iload_n hx hb dX4_logs_236 rfl (lv_at hl 3 rfl) ?_
    refine ret_i (wf := rw' G h) go hw dX4_logs_237 ?_
    exact ⟨rfl, rfl⟩
  · skip
    have hlt : i < 8 := lp_in h133 rfl rfl hi (by decide)
    refine lv_aload_n hx hb dX4_logs_136 rfl (lv_at hl 0 rfl) ?_
    refine gM (k := 3) (v := .ref (h 4)) rfl (by decide) rfl go hw dX4_logs_137 q593 ?_
    refine lv_iload_n hx hb dX4_logs_140 rfl (lv_at hl 3 rfl) ?_
    refine lv_bipush (v := 6) hx hb dX4_logs_141 (by decide) ?_
    refine lv_iadd hx hb dX4_logs_143 ?_
    refine lv_iload hx hb dX4_logs_144 (lv_at hl 4 rfl) ?_
    refine lv_iadd hx hb dX4_logs_146 ?_
    refine lv_iload_n hx hb dX4_logs_147 rfl (lv_at hl 1 rfl) ?_
    refine lv_iconst (v := (-1)) hx hb dX4_logs_148 (by decide) ?_
    refine lv_icmp_eq (tgt := 181) hx hb dX4_logs_149 (by decide) (fun h149 => absurd h149 (by exact nI_m1 (by omega))) (fun h149 => ?_)
    refine lv_aload_n hx hb dX4_logs_152 rfl (lv_at hl 0 rfl) ?_
    refine gM (k := 9) (v := .ref (h 10)) rfl (by decide) rfl go hw dX4_logs_153 q599 ?_
    refine lv_iload_n hx hb dX4_logs_156 rfl (lv_at hl 1 rfl) ?_
    refine aM (k := 9) (j := d) rfl (by decide) (by exact hd) go hw dX4_logs_157 ?_
    refine toI (show rA (qA (lg1 x c0 d w) 3 (lgL (rA (lg1 x c0 d w) 3) (nsR x d) (wvR x d) (22 * c0) i)) 9 d = rA (lg1 x c0 d w) 9 d from congrFun ((rA_ne (by decide)).trans rfl) d) ?_
    refine toI (show rA (lg1 x c0 d w) 9 d = rA x 9 d from by rfl) ?_
    refine lv_iload hx hb dX4_logs_158 (lv_at hl 4 rfl) ?_
    refine cal_S (kX4_has l G (rA x 9 d) i (by omega)) go hw.2.2.1 hw.2.2.2.1 dX4_logs_160 (And.intro q761 (And.intro q4 q763)) q762 kyX4_has ⟨rfl, rfl⟩ ⟨Nat.le_of_ble_eq_true rfl, Nat.le_of_ble_eq_true rfl⟩ hl.1 rfl (Nat.le_of_ble_eq_true rfl) ⟨Nat.le_of_ble_eq_true rfl, Nat.le_of_ble_eq_true rfl⟩ ?_
    refine lv_if_eq (tgt := 181) hx hb dX4_logs_163 (by decide) (fun h163 => ?_) (fun h163 => ?_)
    · skip
      have h163 := bI_0 h163
      refine lv_iconst (v := (-1)) hx hb dX4_logs_181 (by decide) ?_
      refine toI (show (-1) = nsR x d i from by first | exact (if_pos h163).symm | exact (if_neg (by rw [h163]; decide)).symm) ?_
      refine toI2 (show (((nI (22 * c0)) + 6) + (nI i) : Int32) = nI (22 * c0 + 6 + i) from by rw [show (6 : Int32) = nI 6 from rfl, nI_add, nI_add]) ?_
      refine sM (k := 3) (j := (22 * c0 + 6 + i)) rfl (by decide) (by show 22 * c0 + 6 + i < 13200; omega) go hw dX4_logs_182 (fun H locs hw => ?_)
      rw [show rA (qA (lg1 x c0 d w) 3 (lgL (rA (lg1 x c0 d w) 3) (nsR x d) (wvR x d) (22 * c0) i)) 3 = lgL (rA (lg1 x c0 d w) 3) (nsR x d) (wvR x d) (22 * c0) i from rA_eq] at hw
      refine lv_aload_n hx hb dX4_logs_183 rfl (lv_at hl 0 rfl) ?_
      refine gM (k := 3) (v := .ref (h 4)) rfl (by decide) rfl go hw dX4_logs_184 q593 ?_
      refine lv_iload_n hx hb dX4_logs_187 rfl (lv_at hl 3 rfl) ?_
      refine lv_bipush (v := 14) hx hb dX4_logs_188 (by decide) ?_
      refine lv_iadd hx hb dX4_logs_190 ?_
      refine lv_iload hx hb dX4_logs_191 (lv_at hl 4 rfl) ?_
      refine lv_iadd hx hb dX4_logs_193 ?_
      refine lv_iload_n hx hb dX4_logs_194 rfl (lv_at hl 1 rfl) ?_
      refine lv_iconst (v := (-1)) hx hb dX4_logs_195 (by decide) ?_
      refine lv_icmp_eq (tgt := 228) hx hb dX4_logs_196 (by decide) (fun h196 => absurd h196 (by exact nI_m1 (by omega))) (fun h196 => ?_)
      refine lv_aload_n hx hb dX4_logs_199 rfl (lv_at hl 0 rfl) ?_
      refine gM (k := 10) (v := .ref (h 11)) rfl (by decide) rfl go hw dX4_logs_200 q600 ?_
      refine lv_iload_n hx hb dX4_logs_203 rfl (lv_at hl 1 rfl) ?_
      refine aM (k := 10) (j := d) rfl (by decide) (by exact hd) go hw dX4_logs_204 ?_
      refine toI (show rA (qA (qA (lg1 x c0 d w) 3 (lgL (rA (lg1 x c0 d w) 3) (nsR x d) (wvR x d) (22 * c0) i)) 3 (upd (lgL (rA (lg1 x c0 d w) 3) (nsR x d) (wvR x d) (22 * c0) i) (22 * c0 + 6 + i) (nsR x d i))) 10 d = rA (lg1 x c0 d w) 10 d from congrFun ((rA_ne (by decide)).trans ((rA_ne (by decide)).trans rfl)) d) ?_
      refine toI (show rA (lg1 x c0 d w) 10 d = rA x 10 d from by rfl) ?_
      refine lv_iload hx hb dX4_logs_205 (lv_at hl 4 rfl) ?_
      refine cal_S (kX4_has l G (rA x 10 d) i (by omega)) go hw.2.2.1 hw.2.2.2.1 dX4_logs_207 (And.intro q761 (And.intro q4 q763)) q762 kyX4_has ⟨rfl, rfl⟩ ⟨Nat.le_of_ble_eq_true rfl, Nat.le_of_ble_eq_true rfl⟩ hl.1 rfl (Nat.le_of_ble_eq_true rfl) ⟨Nat.le_of_ble_eq_true rfl, Nat.le_of_ble_eq_true rfl⟩ ?_
      refine lv_if_eq (tgt := 228) hx hb dX4_logs_210 (by decide) (fun h210 => ?_) (fun h210 => ?_)
      · skip
        have h210 := bI_0 h210
        refine lv_iconst (v := (-1)) hx hb dX4_logs_228 (by decide) ?_
        refine toI (show (-1) = wvR x d i from by first | exact (if_pos h210).symm | exact (if_neg (by rw [h210]; decide)).symm) ?_
        refine toI2 (show (((nI (22 * c0)) + 14) + (nI i) : Int32) = nI (22 * c0 + 14 + i) from by rw [show (14 : Int32) = nI 14 from rfl, nI_add, nI_add]) ?_
        refine sM (k := 3) (j := (22 * c0 + 14 + i)) rfl (by decide) (by show 22 * c0 + 14 + i < 13200; omega) go hw dX4_logs_229 (fun H locs hw => ?_)
        rw [show rA (qA (qA (lg1 x c0 d w) 3 (lgL (rA (lg1 x c0 d w) 3) (nsR x d) (wvR x d) (22 * c0) i)) 3 (upd (lgL (rA (lg1 x c0 d w) 3) (nsR x d) (wvR x d) (22 * c0) i) (22 * c0 + 6 + i) (nsR x d i))) 3 = upd (lgL (rA (lg1 x c0 d w) 3) (nsR x d) (wvR x d) (22 * c0) i) (22 * c0 + 6 + i) (nsR x d i) from rA_eq] at hw
        refine lv_iinc (v := nI (i + 1)) (lv' := [(4, .int (nI (i + 1))), (0, .ref (h 0)), (1, .int (nI d)), (2, .int w), (3, .int (nI (22 * c0)))]) hx hb dX4_logs_230 hl (k := 4) rfl (nI_1 _) (by decide) rfl (fun ls hl => ?_)
        refine lv_goto (tgt := 129) hx hb dX4_logs_233 (by decide) ?_
        have hl9 : lv_has ls 5 [(0, .ref (h 0)), (1, .int (nI d)), (2, .int w), (3, .int (nI (22 * c0))), (4, .int (nI (i + 1)))] := lv_sub hl [1, 2, 3, 4, 0] rfl
        rw [show qA (qA (qA (lg1 x c0 d w) 3 (lgL (rA (lg1 x c0 d w) 3) (nsR x d) (wvR x d) (22 * c0) i)) 3 (upd (lgL (rA (lg1 x c0 d w) 3) (nsR x d) (wvR x d) (22 * c0) i) (22 * c0 + 6 + i) (nsR x d i))) 3 (upd (upd (lgL (rA (lg1 x c0 d w) 3) (nsR x d) (wvR x d) (22 * c0) i) (22 * c0 + 6 + i) (nsR x d i)) (22 * c0 + 14 + i) (wvR x d i)) = qA (lg1 x c0 d w) 3 (lgL (rA (lg1 x c0 d w) 3) (nsR x d) (wvR x d) (22 * c0) (i + 1)) from by rw [qA_over, qA_over, lgL_s _ _ _ _ _ hlt]] at hw
        exact ih _ _ _ (by omega) ⟨hw, hl9⟩
      · skip
        have h210 := bI_1 h210
        refine lv_aload_n hx hb dX4_logs_213 rfl (lv_at hl 0 rfl) ?_
        refine gM (k := 13) (v := .ref (h 14)) rfl (by decide) rfl go hw dX4_logs_214 q603 ?_
        refine lv_bipush (v := 8) hx hb dX4_logs_217 (by decide) ?_
        refine lv_iload_n hx hb dX4_logs_219 rfl (lv_at hl 1 rfl) ?_
        refine lv_imul hx hb dX4_logs_220 ?_
        refine lv_iload hx hb dX4_logs_221 (lv_at hl 4 rfl) ?_
        refine lv_iadd hx hb dX4_logs_223 ?_
        refine toI (show ((8 * (nI d)) + (nI i) : Int32) = nI (8 * d + i) from by rw [show (8 : Int32) = nI 8 from rfl, pk_mul, nI_add]) ?_
        refine aM (k := 13) (j := (8 * d + i)) rfl (by decide) (by show 8 * d + i < 48; omega) go hw dX4_logs_224 ?_
        refine toI (show rA (qA (qA (lg1 x c0 d w) 3 (lgL (rA (lg1 x c0 d w) 3) (nsR x d) (wvR x d) (22 * c0) i)) 3 (upd (lgL (rA (lg1 x c0 d w) 3) (nsR x d) (wvR x d) (22 * c0) i) (22 * c0 + 6 + i) (nsR x d i))) 13 (8 * d + i) = rA (lg1 x c0 d w) 13 (8 * d + i) from congrFun ((rA_ne (by decide)).trans ((rA_ne (by decide)).trans rfl)) (8 * d + i)) ?_
        refine lv_goto (tgt := 229) hx hb dX4_logs_225 (by decide) ?_
        refine toI (show rA (lg1 x c0 d w) 13 (8 * d + i) = wvR x d i from by first | exact (if_pos h210).symm | exact (if_neg (by rw [h210]; decide)).symm) ?_
        refine toI2 (show (((nI (22 * c0)) + 14) + (nI i) : Int32) = nI (22 * c0 + 14 + i) from by rw [show (14 : Int32) = nI 14 from rfl, nI_add, nI_add]) ?_
        refine sM (k := 3) (j := (22 * c0 + 14 + i)) rfl (by decide) (by show 22 * c0 + 14 + i < 13200; omega) go hw dX4_logs_229 (fun H locs hw => ?_)
        rw [show rA (qA (qA (lg1 x c0 d w) 3 (lgL (rA (lg1 x c0 d w) 3) (nsR x d) (wvR x d) (22 * c0) i)) 3 (upd (lgL (rA (lg1 x c0 d w) 3) (nsR x d) (wvR x d) (22 * c0) i) (22 * c0 + 6 + i) (nsR x d i))) 3 = upd (lgL (rA (lg1 x c0 d w) 3) (nsR x d) (wvR x d) (22 * c0) i) (22 * c0 + 6 + i) (nsR x d i) from rA_eq] at hw
        refine lv_iinc (v := nI (i + 1)) (lv' := [(4, .int (nI (i + 1))), (0, .ref (h 0)), (1, .int (nI d)), (2, .int w), (3, .int (nI (22 * c0)))]) hx hb dX4_logs_230 hl (k := 4) rfl (nI_1 _) (by decide) rfl (fun ls hl => ?_)
        refine lv_goto (tgt := 129) hx hb dX4_logs_233 (by decide) ?_
        have hl9 : lv_has ls 5 [(0, .ref (h 0)), (1, .int (nI d)), (2, .int w), (3, .int (nI (22 * c0))), (4, .int (nI (i + 1)))] := lv_sub hl [1, 2, 3, 4, 0] rfl
        rw [show qA (qA (qA (lg1 x c0 d w) 3 (lgL (rA (lg1 x c0 d w) 3) (nsR x d) (wvR x d) (22 * c0) i)) 3 (upd (lgL (rA (lg1 x c0 d w) 3) (nsR x d) (wvR x d) (22 * c0) i) (22 * c0 + 6 + i) (nsR x d i))) 3 (upd (upd (lgL (rA (lg1 x c0 d w) 3) (nsR x d) (wvR x d) (22 * c0) i) (22 * c0 + 6 + i) (nsR x d i)) (22 * c0 + 14 + i) (wvR x d i)) = qA (lg1 x c0 d w) 3 (lgL (rA (lg1 x c0 d w) 3) (nsR x d) (wvR x d) (22 * c0) (i + 1)) from by rw [qA_over, qA_over, lgL_s _ _ _ _ _ hlt]] at hw
        exact ih _ _ _ (by omega) ⟨hw, hl9⟩
    · skip
      have h163 := bI_1 h163
      refine lv_aload_n hx hb dX4_logs_166 rfl (lv_at hl 0 rfl) ?_
      refine gM (k := 12) (v := .ref (h 13)) rfl (by decide) rfl go hw dX4_logs_167 q602 ?_
      refine lv_bipush (v := 8) hx hb dX4_logs_170 (by decide) ?_
      refine lv_iload_n hx hb dX4_logs_172 rfl (lv_at hl 1 rfl) ?_
      refine lv_imul hx hb dX4_logs_173 ?_
      refine lv_iload hx hb dX4_logs_174 (lv_at hl 4 rfl) ?_
      refine lv_iadd hx hb dX4_logs_176 ?_
      refine toI (show ((8 * (nI d)) + (nI i) : Int32) = nI (8 * d + i) from by rw [show (8 : Int32) = nI 8 from rfl, pk_mul, nI_add]) ?_
      refine aM (k := 12) (j := (8 * d + i)) rfl (by decide) (by show 8 * d + i < 48; omega) go hw dX4_logs_177 ?_
      refine toI (show rA (qA (lg1 x c0 d w) 3 (lgL (rA (lg1 x c0 d w) 3) (nsR x d) (wvR x d) (22 * c0) i)) 12 (8 * d + i) = rA (lg1 x c0 d w) 12 (8 * d + i) from congrFun ((rA_ne (by decide)).trans rfl) (8 * d + i)) ?_
      refine lv_goto (tgt := 182) hx hb dX4_logs_178 (by decide) ?_
      refine toI (show rA (lg1 x c0 d w) 12 (8 * d + i) = nsR x d i from by first | exact (if_pos h163).symm | exact (if_neg (by rw [h163]; decide)).symm) ?_
      refine toI2 (show (((nI (22 * c0)) + 6) + (nI i) : Int32) = nI (22 * c0 + 6 + i) from by rw [show (6 : Int32) = nI 6 from rfl, nI_add, nI_add]) ?_
      refine sM (k := 3) (j := (22 * c0 + 6 + i)) rfl (by decide) (by show 22 * c0 + 6 + i < 13200; omega) go hw dX4_logs_182 (fun H locs hw => ?_)
      rw [show rA (qA (lg1 x c0 d w) 3 (lgL (rA (lg1 x c0 d w) 3) (nsR x d) (wvR x d) (22 * c0) i)) 3 = lgL (rA (lg1 x c0 d w) 3) (nsR x d) (wvR x d) (22 * c0) i from rA_eq] at hw
      refine lv_aload_n hx hb dX4_logs_183 rfl (lv_at hl 0 rfl) ?_
      refine gM (k := 3) (v := .ref (h 4)) rfl (by decide) rfl go hw dX4_logs_184 q593 ?_
      refine lv_iload_n hx hb dX4_logs_187 rfl (lv_at hl 3 rfl) ?_
      refine lv_bipush (v := 14) hx hb dX4_logs_188 (by decide) ?_
      refine lv_iadd hx hb dX4_logs_190 ?_
      refine lv_iload hx hb dX4_logs_191 (lv_at hl 4 rfl) ?_
      refine lv_iadd hx hb dX4_logs_193 ?_
      refine lv_iload_n hx hb dX4_logs_194 rfl (lv_at hl 1 rfl) ?_
      refine lv_iconst (v := (-1)) hx hb dX4_logs_195 (by decide) ?_
      refine lv_icmp_eq (tgt := 228) hx hb dX4_logs_196 (by decide) (fun h196 => absurd h196 (by exact nI_m1 (by omega))) (fun h196 => ?_)
      refine lv_aload_n hx hb dX4_logs_199 rfl (lv_at hl 0 rfl) ?_
      refine gM (k := 10) (v := .ref (h 11)) rfl (by decide) rfl go hw dX4_logs_200 q600 ?_
      refine lv_iload_n hx hb dX4_logs_203 rfl (lv_at hl 1 rfl) ?_
      refine aM (k := 10) (j := d) rfl (by decide) (by exact hd) go hw dX4_logs_204 ?_
      refine toI (show rA (qA (qA (lg1 x c0 d w) 3 (lgL (rA (lg1 x c0 d w) 3) (nsR x d) (wvR x d) (22 * c0) i)) 3 (upd (lgL (rA (lg1 x c0 d w) 3) (nsR x d) (wvR x d) (22 * c0) i) (22 * c0 + 6 + i) (nsR x d i))) 10 d = rA (lg1 x c0 d w) 10 d from congrFun ((rA_ne (by decide)).trans ((rA_ne (by decide)).trans rfl)) d) ?_
      refine toI (show rA (lg1 x c0 d w) 10 d = rA x 10 d from by rfl) ?_
      refine lv_iload hx hb dX4_logs_205 (lv_at hl 4 rfl) ?_
      refine cal_S (kX4_has l G (rA x 10 d) i (by omega)) go hw.2.2.1 hw.2.2.2.1 dX4_logs_207 (And.intro q761 (And.intro q4 q763)) q762 kyX4_has ⟨rfl, rfl⟩ ⟨Nat.le_of_ble_eq_true rfl, Nat.le_of_ble_eq_true rfl⟩ hl.1 rfl (Nat.le_of_ble_eq_true rfl) ⟨Nat.le_of_ble_eq_true rfl, Nat.le_of_ble_eq_true rfl⟩ ?_
      refine lv_if_eq (tgt := 228) hx hb dX4_logs_210 (by decide) (fun h210 => ?_) (fun h210 => ?_)
      · skip
        have h210 := bI_0 h210
        refine lv_iconst (v := (-1)) hx hb dX4_logs_228 (by decide) ?_
        refine toI (show (-1) = wvR x d i from by first | exact (if_pos h210).symm | exact (if_neg (by rw [h210]; decide)).symm) ?_
        refine toI2 (show (((nI (22 * c0)) + 14) + (nI i) : Int32) = nI (22 * c0 + 14 + i) from by rw [show (14 : Int32) = nI 14 from rfl, nI_add, nI_add]) ?_
        refine sM (k := 3) (j := (22 * c0 + 14 + i)) rfl (by decide) (by show 22 * c0 + 14 + i < 13200; omega) go hw dX4_logs_229 (fun H locs hw => ?_)
        rw [show rA (qA (qA (lg1 x c0 d w) 3 (lgL (rA (lg1 x c0 d w) 3) (nsR x d) (wvR x d) (22 * c0) i)) 3 (upd (lgL (rA (lg1 x c0 d w) 3) (nsR x d) (wvR x d) (22 * c0) i) (22 * c0 + 6 + i) (nsR x d i))) 3 = upd (lgL (rA (lg1 x c0 d w) 3) (nsR x d) (wvR x d) (22 * c0) i) (22 * c0 + 6 + i) (nsR x d i) from rA_eq] at hw
        refine lv_iinc (v := nI (i + 1)) (lv' := [(4, .int (nI (i + 1))), (0, .ref (h 0)), (1, .int (nI d)), (2, .int w), (3, .int (nI (22 * c0)))]) hx hb dX4_logs_230 hl (k := 4) rfl (nI_1 _) (by decide) rfl (fun ls hl => ?_)
        refine lv_goto (tgt := 129) hx hb dX4_logs_233 (by decide) ?_
        have hl9 : lv_has ls 5 [(0, .ref (h 0)), (1, .int (nI d)), (2, .int w), (3, .int (nI (22 * c0))), (4, .int (nI (i + 1)))] := lv_sub hl [1, 2, 3, 4, 0] rfl
        rw [show qA (qA (qA (lg1 x c0 d w) 3 (lgL (rA (lg1 x c0 d w) 3) (nsR x d) (wvR x d) (22 * c0) i)) 3 (upd (lgL (rA (lg1 x c0 d w) 3) (nsR x d) (wvR x d) (22 * c0) i) (22 * c0 + 6 + i) (nsR x d i))) 3 (upd (upd (lgL (rA (lg1 x c0 d w) 3) (nsR x d) (wvR x d) (22 * c0) i) (22 * c0 + 6 + i) (nsR x d i)) (22 * c0 + 14 + i) (wvR x d i)) = qA (lg1 x c0 d w) 3 (lgL (rA (lg1 x c0 d w) 3) (nsR x d) (wvR x d) (22 * c0) (i + 1)) from by rw [qA_over, qA_over, lgL_s _ _ _ _ _ hlt]] at hw
        exact ih _ _ _ (by omega) ⟨hw, hl9⟩
      · skip
        have h210 := bI_1 h210
        refine lv_aload_n hx hb dX4_logs_213 rfl (lv_at hl 0 rfl) ?_
        refine gM (k := 13) (v := .ref (h 14)) rfl (by decide) rfl go hw dX4_logs_214 q603 ?_
        refine lv_bipush (v := 8) hx hb dX4_logs_217 (by decide) ?_
        refine lv_iload_n hx hb dX4_logs_219 rfl (lv_at hl 1 rfl) ?_
        refine lv_imul hx hb dX4_logs_220 ?_
        refine lv_iload hx hb dX4_logs_221 (lv_at hl 4 rfl) ?_
        refine lv_iadd hx hb dX4_logs_223 ?_
        refine toI (show ((8 * (nI d)) + (nI i) : Int32) = nI (8 * d + i) from by rw [show (8 : Int32) = nI 8 from rfl, pk_mul, nI_add]) ?_
        refine aM (k := 13) (j := (8 * d + i)) rfl (by decide) (by show 8 * d + i < 48; omega) go hw dX4_logs_224 ?_
        refine toI (show rA (qA (qA (lg1 x c0 d w) 3 (lgL (rA (lg1 x c0 d w) 3) (nsR x d) (wvR x d) (22 * c0) i)) 3 (upd (lgL (rA (lg1 x c0 d w) 3) (nsR x d) (wvR x d) (22 * c0) i) (22 * c0 + 6 + i) (nsR x d i))) 13 (8 * d + i) = rA (lg1 x c0 d w) 13 (8 * d + i) from congrFun ((rA_ne (by decide)).trans ((rA_ne (by decide)).trans rfl)) (8 * d + i)) ?_
        refine lv_goto (tgt := 229) hx hb dX4_logs_225 (by decide) ?_
        refine toI (show rA (lg1 x c0 d w) 13 (8 * d + i) = wvR x d i from by first | exact (if_pos h210).symm | exact (if_neg (by rw [h210]; decide)).symm) ?_
        refine toI2 (show (((nI (22 * c0)) + 14) + (nI i) : Int32) = nI (22 * c0 + 14 + i) from by rw [show (14 : Int32) = nI 14 from rfl, nI_add, nI_add]) ?_
        refine sM (k := 3) (j := (22 * c0 + 14 + i)) rfl (by decide) (by show 22 * c0 + 14 + i < 13200; omega) go hw dX4_logs_229 (fun H locs hw => ?_)
        rw [show rA (qA (qA (lg1 x c0 d w) 3 (lgL (rA (lg1 x c0 d w) 3) (nsR x d) (wvR x d) (22 * c0) i)) 3 (upd (lgL (rA (lg1 x c0 d w) 3) (nsR x d) (wvR x d) (22 * c0) i) (22 * c0 + 6 + i) (nsR x d i))) 3 = upd (lgL (rA (lg1 x c0 d w) 3) (nsR x d) (wvR x d) (22 * c0) i) (22 * c0 + 6 + i) (nsR x d i) from rA_eq] at hw
        refine lv_iinc (v := nI (i + 1)) (lv' := [(4, .int (nI (i + 1))), (0, .ref (h 0)), (1, .int (nI d)), (2, .int w), (3, .int (nI (22 * c0)))]) hx hb dX4_logs_230 hl (k := 4) rfl (nI_1 _) (by decide) rfl (fun ls hl => ?_)
        refine lv_goto (tgt := 129) hx hb dX4_logs_233 (by decide) ?_
        have hl9 : lv_has ls 5 [(0, .ref (h 0)), (1, .int (nI d)), (2, .int w), (3, .int (nI (22 * c0))), (4, .int (nI (i + 1)))] := lv_sub hl [1, 2, 3, 4, 0] rfl
        rw [show qA (qA (qA (lg1 x c0 d w) 3 (lgL (rA (lg1 x c0 d w) 3) (nsR x d) (wvR x d) (22 * c0) i)) 3 (upd (lgL (rA (lg1 x c0 d w) 3) (nsR x d) (wvR x d) (22 * c0) i) (22 * c0 + 6 + i) (nsR x d i))) 3 (upd (upd (lgL (rA (lg1 x c0 d w) 3) (nsR x d) (wvR x d) (22 * c0) i) (22 * c0 + 6 + i) (nsR x d i)) (22 * c0 + 14 + i) (wvR x d i)) = qA (lg1 x c0 d w) 3 (lgL (rA (lg1 x c0 d w) 3) (nsR x d) (wvR x d) (22 * c0) (i + 1)) from by rw [qA_over, qA_over, lgL_s _ _ _ _ _ hlt]] at hw
        exact ih _ _ _ (by omega) ⟨hw, hl9⟩

set_option maxHeartbeats 4000000 in
set_option maxRecDepth 100000 in
theorem kX4_commits (l : Launch) (G : Cx) (h : Nat → Nat) (x : Rg) (c0 : Nat) (hc : rI x 2 = nI c0) (hc5 : c0 ≤ 575) (d : Nat) (hd : d < 6) (w : Int32) : Ci l G yX4_commits cX4_commits 4 .int (Rm 2 45) (rw' G h) [.ref (h 0), .int (nI d), .int w] x (fun r u => r = nI (c0 + 1) ∧ u = coR x c0 d w) := by
  refine Ci.mk (by decide) (Nat.le_of_ble_eq_true rfl) ?_
  intro p e s m below meth c A ls go hw hl
  generalize s.heap = H at hw ⊢
  generalize ([] : List Loc) = locs at hw ⊢
  have hx := go.1
  have hb := go.2.1
  have hl : lv_has ls 4 [(0, .ref (h 0)), (1, .int (nI d)), (2, .int w)] := hl
  refine lv_aload_n hx hb dX4_commits_0 rfl (lv_at hl 0 rfl) ?_
  refine lv_iload_n hx hb dX4_commits_1 rfl (lv_at hl 1 rfl) ?_
  refine lv_iload_n hx hb dX4_commits_2 rfl (lv_at hl 2 rfl) ?_
  refine cal_Vi' (kX4_logsD l G h x c0 hc (by omega) d hd w) go hw dX4_commits_3 (And.intro q757 (And.intro q4 q760)) q759 qs32 kyX4_logs ⟨Nat.le_of_ble_eq_true rfl, Nat.le_of_ble_eq_true rfl⟩ rc_M hl.1 rfl (Nat.le_of_ble_eq_true rfl) ⟨rfl, rfl⟩ ⟨Nat.le_of_ble_eq_true rfl, Nat.le_of_ble_eq_true rfl⟩ (fun H locs hw => ?_)
  refine lv_pop hx hb dX4_commits_6 rfl ?_
  refine lv_iconst (v := 0) hx hb dX4_commits_7 (by decide) ?_
  refine lv_istore_n (lv' := [(3, .int 0), (0, .ref (h 0)), (1, .int (nI d)), (2, .int w)]) hx hb dX4_commits_8 rfl hl (by decide) rfl (fun ls hl => ?_)
  rw [show lgD x c0 d w = foR (cmS d) (lgD x c0 d w) 0 from by rfl] at hw
  have hl0 : lv_has ls 4 [(0, .ref (h 0)), (1, .int (nI d)), (2, .int w), (3, .int (nI 0))] := lv_to (lv_sub (l' := [(0, .ref (h 0)), (1, .int (nI d)), (2, .int w), (3, .int 0)]) hl [1, 2, 3, 0] rfl) (lr (lr (lr (lc (show (0 : Int32) = nI 0 from rfl) rfl))))
  refine loop_up (N := 8) (P := fun i H locs ls => Wd G A s H locs (rw' G h (foR (cmS d) (lgD x c0 d w) i)) ∧ lv_has ls 4 [(0, .ref (h 0)), (1, .int (nI d)), (2, .int w), (3, .int (nI i))]) (X := fun H locs ls => W p l e (Rm 2 45) s m ([.ref (h 0), .int (nI d), .int w] : List Value).toArray below meth c H locs 0 0 (MQ below (va_Qi (fun r u => r = nI (c0 + 1) ∧ u = coR x c0 d w) (PostW G (rw' G h) A) A) ([.ref (h 0), .int (nI d), .int w] : List Value).toArray s (Rm 2 45).cells (Rm 2 45).slots A) (F0 m 9 ls [])) ?_ 0 (by omega) H locs ls ⟨hw, hl0⟩
  clear hl0 hl hw
  intro i hi ih H locs ls hP
  obtain ⟨hw, hl⟩ := hP
  refine lv_iload_n hx hb dX4_commits_9 rfl (lv_at hl 3 rfl) ?_
  refine lv_bipush (v := 8) hx hb dX4_commits_10 (by decide) ?_
  refine lv_icmp_ge (tgt := 50) hx hb dX4_commits_12 (by decide) (fun h12 => ?_) (fun h12 => ?_)
  · skip
    have hE : i = 8 := lp_end h12 rfl rfl hi (by decide)
    subst hE
    refine lv_aload_n hx hb dX4_commits_50 rfl (lv_at hl 0 rfl) ?_
    refine lv_iload_n hx hb dX4_commits_51 rfl (lv_at hl 1 rfl) ?_
    refine lv_iconst (v := 0) hx hb dX4_commits_52 (by decide) ?_
    refine cal_Vv' (kX4_frees l G h (foR (cmS d) (lgD x c0 d w) 8) d (by omega) false) go hw dX4_commits_53 (And.intro q740 (And.intro q4 q743)) q742 qs30 kyX4_frees ⟨Nat.le_of_ble_eq_true rfl, Nat.le_of_ble_eq_true rfl⟩ rc_M hl.1 rfl (Nat.le_of_ble_eq_true rfl) ⟨rfl, rfl⟩ ⟨Nat.le_of_ble_eq_true rfl, Nat.le_of_ble_eq_true rfl⟩ (fun H locs hw => ?_)
    refine lv_aload_n hx hb dX4_commits_56 rfl (lv_at hl 0 rfl) ?_
    refine gMi (k := 2) (v := rI (frR (foR (cmS d) (lgD x c0 d w) 8) d false) 2) (by decide) rfl go hw dX4_commits_57 q592 ?_
    refine toI (show rI (frR (foR (cmS d) (lgD x c0 d w) 8) d false) 2 = nI (c0 + 1) from by exact cox_2 x c0 d w) ?_
    refine ret_i (wf := rw' G h) go hw dX4_commits_60 ?_
    exact ⟨rfl, rfl⟩
  · skip
    have hlt : i < 8 := lp_in h12 rfl rfl hi (by decide)
    refine lv_aload_n hx hb dX4_commits_15 rfl (lv_at hl 0 rfl) ?_
    refine gM (k := 10) (v := .ref (h 11)) rfl (by decide) rfl go hw dX4_commits_16 q600 ?_
    refine lv_iload_n hx hb dX4_commits_19 rfl (lv_at hl 1 rfl) ?_
    refine aM (k := 10) (j := d) rfl (by decide) (by exact hd) go hw dX4_commits_20 ?_
    refine lv_iload_n hx hb dX4_commits_21 rfl (lv_at hl 3 rfl) ?_
    refine cal_S (kX4_has l G (rA (foR (cmS d) (lgD x c0 d w) i) 10 d) i (by omega)) go hw.2.2.1 hw.2.2.2.1 dX4_commits_22 (And.intro q761 (And.intro q4 q763)) q762 kyX4_has ⟨rfl, rfl⟩ ⟨Nat.le_of_ble_eq_true rfl, Nat.le_of_ble_eq_true rfl⟩ hl.1 rfl (Nat.le_of_ble_eq_true rfl) ⟨Nat.le_of_ble_eq_true rfl, Nat.le_of_ble_eq_true rfl⟩ ?_
    refine lv_if_eq (tgt := 44) hx hb dX4_commits_25 (by decide) (fun h25 => ?_) (fun h25 => ?_)
    · skip
      have h25 := bI_0 h25
      refine lv_iinc (v := nI (i + 1)) (lv' := [(3, .int (nI (i + 1))), (0, .ref (h 0)), (1, .int (nI d)), (2, .int w)]) hx hb dX4_commits_44 hl (k := 3) rfl (nI_1 _) (by decide) rfl (fun ls hl => ?_)
      refine lv_goto (tgt := 9) hx hb dX4_commits_47 (by decide) ?_
      have hl9 : lv_has ls 4 [(0, .ref (h 0)), (1, .int (nI d)), (2, .int w), (3, .int (nI (i + 1)))] := lv_sub hl [1, 2, 3, 0] rfl
      rw [show foR (cmS d) (lgD x c0 d w) i = foR (cmS d) (lgD x c0 d w) (i + 1) from by first | exact (if_pos h25).symm | exact (if_neg (by rw [h25]; decide)).symm] at hw
      exact ih _ _ _ (by omega) ⟨hw, hl9⟩
    · skip
      have h25 := bI_1 h25
      refine lv_aload_n hx hb dX4_commits_28 rfl (lv_at hl 0 rfl) ?_
      refine lv_iload_n hx hb dX4_commits_29 rfl (lv_at hl 3 rfl) ?_
      refine lv_aload_n hx hb dX4_commits_30 rfl (lv_at hl 0 rfl) ?_
      refine gM (k := 13) (v := .ref (h 14)) rfl (by decide) rfl go hw dX4_commits_31 q603 ?_
      refine lv_bipush (v := 8) hx hb dX4_commits_34 (by decide) ?_
      refine lv_iload_n hx hb dX4_commits_36 rfl (lv_at hl 1 rfl) ?_
      refine lv_imul hx hb dX4_commits_37 ?_
      refine lv_iload_n hx hb dX4_commits_38 rfl (lv_at hl 3 rfl) ?_
      refine lv_iadd hx hb dX4_commits_39 ?_
      refine toI (show ((8 * (nI d)) + (nI i) : Int32) = nI (8 * d + i) from by rw [show (8 : Int32) = nI 8 from rfl, pk_mul, nI_add]) ?_
      refine aM (k := 13) (j := (8 * d + i)) rfl (by decide) (by show 8 * d + i < 48; omega) go hw dX4_commits_40 ?_
      refine cal_Vv' (kX4_puts l G h (foR (cmS d) (lgD x c0 d w) i) i (by omega) (rA (foR (cmS d) (lgD x c0 d w) i) 13 (8 * d + i))) go hw dX4_commits_41 (And.intro q764 (And.intro q4 q767)) q766 qs33 kyX4_puts ⟨Nat.le_of_ble_eq_true rfl, Nat.le_of_ble_eq_true rfl⟩ rc_M hl.1 rfl (Nat.le_of_ble_eq_true rfl) ⟨rfl, rfl⟩ ⟨Nat.le_of_ble_eq_true rfl, Nat.le_of_ble_eq_true rfl⟩ (fun H locs hw => ?_)
      refine lv_iinc (v := nI (i + 1)) (lv' := [(3, .int (nI (i + 1))), (0, .ref (h 0)), (1, .int (nI d)), (2, .int w)]) hx hb dX4_commits_44 hl (k := 3) rfl (nI_1 _) (by decide) rfl (fun ls hl => ?_)
      refine lv_goto (tgt := 9) hx hb dX4_commits_47 (by decide) ?_
      have hl9 : lv_has ls 4 [(0, .ref (h 0)), (1, .int (nI d)), (2, .int w), (3, .int (nI (i + 1)))] := lv_sub hl [1, 2, 3, 0] rfl
      rw [show puR (foR (cmS d) (lgD x c0 d w) i) i (rA (foR (cmS d) (lgD x c0 d w) i) 13 (8 * d + i)) = foR (cmS d) (lgD x c0 d w) (i + 1) from by first | exact (if_pos h25).symm | exact (if_neg (by rw [h25]; decide)).symm] at hw
      exact ih _ _ _ (by omega) ⟨hw, hl9⟩

set_option maxHeartbeats 4000000 in
set_option maxRecDepth 100000 in
theorem kX4_refused (l : Launch) (G : Cx) (h : Nat → Nat) (x : Rg) (a w : Int32) : Ci l G yX4_refused cX4_refused 3 .int (Rm 2 45) (rw' G h) [.ref (h 0), .int a, .int w] x (fun r u => r = rfR x a w ∧ u = x) := by
  refine Ci.mk (by decide) (Nat.le_of_ble_eq_true rfl) ?_
  intro p e s m below meth c A ls go hw hl
  generalize s.heap = H at hw ⊢
  generalize ([] : List Loc) = locs at hw ⊢
  have hx := go.1
  have hb := go.2.1
  have hl : lv_has ls 3 [(0, .ref (h 0)), (1, .int a), (2, .int w)] := hl
  refine lv_iload_n hx hb dX4_refused_0 rfl (lv_at hl 1 rfl) ?_
  refine cal_S (kX4_isDeal l G a) go hw.2.2.1 hw.2.2.2.1 dX4_refused_1 (And.intro q777 (And.intro q4 q779)) q778 kyX4_isDeal ⟨rfl, rfl⟩ ⟨Nat.le_of_ble_eq_true rfl, Nat.le_of_ble_eq_true rfl⟩ hl.1 rfl (Nat.le_of_ble_eq_true rfl) ⟨Nat.le_of_ble_eq_true rfl, Nat.le_of_ble_eq_true rfl⟩ ?_
  refine lv_if_ne (tgt := 12) hx hb dX4_refused_4 (by decide) (fun h4 => ?_) (fun h4 => ?_)
  · skip
    have h4 := bI_1 h4
    refine lv_iload_n hx hb dX4_refused_12 rfl (lv_at hl 2 rfl) ?_
    refine lv_i2l hx hb dX4_refused_13 rfl ?_
    refine lv_lconst (v := 0) hx hb dX4_refused_14 rfl ?_
    refine lv_ldc2 (v := 2) hx hb go.2.2.2.2.1 (go.2.2.2.2.2.1 _ q825) dX4_refused_15 ?_
    refine cal_S (kX4_in l G w.toInt64 0 2) go hw.2.2.1 hw.2.2.2.1 dX4_refused_18 (And.intro q687 (And.intro q4 q689)) q688 kyX4_in ⟨rfl, rfl⟩ ⟨Nat.le_of_ble_eq_true rfl, Nat.le_of_ble_eq_true rfl⟩ hl.1 rfl (Nat.le_of_ble_eq_true rfl) ⟨Nat.le_of_ble_eq_true rfl, Nat.le_of_ble_eq_true rfl⟩ ?_
    refine lv_if_ne (tgt := 29) hx hb dX4_refused_21 (by decide) (fun h21 => ?_) (fun h21 => ?_)
    · skip
      have h21 := bI_1 h21
      obtain ⟨d, hd, rfl⟩ := inB_of (n := 6) h4 rfl (by decide)
      have cd : (nI d).toNatClampNeg = d := nI_clamp (by omega)
      refine lv_aload_n hx hb dX4_refused_29 rfl (lv_at hl 0 rfl) ?_
      refine gM (k := 4) (v := .ref (h 5)) rfl (by decide) rfl go hw dX4_refused_30 q594 ?_
      refine lv_iload_n hx hb dX4_refused_33 rfl (lv_at hl 1 rfl) ?_
      refine aM (k := 4) (j := d) rfl (by decide) (by exact hd) go hw dX4_refused_34 ?_
      refine lv_iconst (v := 1) hx hb dX4_refused_35 (by decide) ?_
      refine lv_icmp_ne (tgt := 47) hx hb dX4_refused_36 (by decide) (fun h36 => ?_) (fun h36 => ?_)
      · skip
        refine lv_bipush (v := (-4)) hx hb dX4_refused_47 (by decide) ?_
        refine lv_goto (tgt := 53) hx hb dX4_refused_49 (by decide) ?_
        refine ret_i (wf := rw' G h) go hw dX4_refused_53 ?_
        exact ⟨by simp [rfR, *], rfl⟩
      · skip
        refine lv_aload_n hx hb dX4_refused_39 rfl (lv_at hl 0 rfl) ?_
        refine lv_iconst (v := 3) hx hb dX4_refused_40 (by decide) ?_
        refine cal_Vi' (kX4_inState l G h x 3) go hw dX4_refused_41 (And.intro q753 (And.intro q4 q756)) q755 qs31 kyX4_inState ⟨Nat.le_of_ble_eq_true rfl, Nat.le_of_ble_eq_true rfl⟩ rc_M hl.1 rfl (Nat.le_of_ble_eq_true rfl) ⟨rfl, rfl⟩ ⟨Nat.le_of_ble_eq_true rfl, Nat.le_of_ble_eq_true rfl⟩ (fun H locs hw => ?_)
        refine lv_if_le (tgt := 52) hx hb dX4_refused_44 (by decide) (fun h44 => ?_) (fun h44 => ?_)
        · skip
          refine lv_iconst (v := 0) hx hb dX4_refused_52 (by decide) ?_
          refine ret_i (wf := rw' G h) go hw dX4_refused_53 ?_
          exact ⟨by simp [rfR, *], rfl⟩
        · skip
          refine lv_bipush (v := (-4)) hx hb dX4_refused_47 (by decide) ?_
          refine lv_goto (tgt := 53) hx hb dX4_refused_49 (by decide) ?_
          refine ret_i (wf := rw' G h) go hw dX4_refused_53 ?_
          exact ⟨by simp [rfR, *], rfl⟩
    · skip
      have h21 := bI_0 h21
      refine lv_bipush (v := (-3)) hx hb dX4_refused_24 (by decide) ?_
      refine lv_goto (tgt := 53) hx hb dX4_refused_26 (by decide) ?_
      refine ret_i (wf := rw' G h) go hw dX4_refused_53 ?_
      exact ⟨by simp [rfR, *], rfl⟩
  · skip
    have h4 := bI_0 h4
    refine lv_bipush (v := (-2)) hx hb dX4_refused_7 (by decide) ?_
    refine lv_goto (tgt := 53) hx hb dX4_refused_9 (by decide) ?_
    refine ret_i (wf := rw' G h) go hw dX4_refused_53 ?_
    exact ⟨by simp [rfR, *], rfl⟩

set_option maxHeartbeats 4000000 in
set_option maxRecDepth 100000 in
theorem kX4_write (l : Launch) (G : Cx) (h : Nat → Nat) (x : Rg) (t : Nat) (ht : rI x 23 = nI t) (ht2 : t ≤ 200) (v : Int32) : Ci l G yX4_write cX4_write 2 .int (Rm 1 25) (rw' G h) [.ref (h 0), .int v] x (fun r u => r = (wrR x t v).1 ∧ u = (wrR x t v).2) := by
  refine Ci.mk (by decide) (Nat.le_of_ble_eq_true rfl) ?_
  intro p e s m below meth c A ls go hw hl
  generalize s.heap = H at hw ⊢
  generalize ([] : List Loc) = locs at hw ⊢
  have hx := go.1
  have hb := go.2.1
  have hl : lv_has ls 2 [(0, .ref (h 0)), (1, .int v)] := hl
  refine lv_iload_n hx hb dX4_write_0 rfl (lv_at hl 1 rfl) ?_
  refine lv_i2l hx hb dX4_write_1 rfl ?_
  refine lv_lconst (v := 0) hx hb dX4_write_2 rfl ?_
  refine lv_ldc2 (v := 255) hx hb go.2.2.2.2.1 (go.2.2.2.2.2.1 _ q686) dX4_write_3 ?_
  refine cal_S (kX4_in l G v.toInt64 0 255) go hw.2.2.1 hw.2.2.2.1 dX4_write_6 (And.intro q687 (And.intro q4 q689)) q688 kyX4_in ⟨rfl, rfl⟩ ⟨Nat.le_of_ble_eq_true rfl, Nat.le_of_ble_eq_true rfl⟩ hl.1 rfl (Nat.le_of_ble_eq_true rfl) ⟨Nat.le_of_ble_eq_true rfl, Nat.le_of_ble_eq_true rfl⟩ ?_
  refine lv_if_ne (tgt := 15) hx hb dX4_write_9 (by decide) (fun h9 => ?_) (fun h9 => ?_)
  · skip
    have h9 := bI_1 h9
    refine lv_aload_n hx hb dX4_write_15 rfl (lv_at hl 0 rfl) ?_
    refine gMi (k := 23) (v := nI t) (by decide) ht go hw dX4_write_16 q613 ?_
    refine lv_sipush (v := 200) hx hb dX4_write_19 (by decide) ?_
    refine lv_icmp_ne (tgt := 28) hx hb dX4_write_22 (by decide) (fun h22 => ?_) (fun h22 => ?_)
    · skip
      have h22b : t < 200 := n200' ht2 h22
      refine lv_aload_n hx hb dX4_write_28 rfl (lv_at hl 0 rfl) ?_
      refine gM (k := 22) (v := .ref (h 23)) rfl (by decide) rfl go hw dX4_write_29 q612 ?_
      refine lv_aload_n hx hb dX4_write_32 rfl (lv_at hl 0 rfl) ?_
      refine gMi (k := 23) (v := nI t) (by decide) ht go hw dX4_write_33 q613 ?_
      refine lv_iload_n hx hb dX4_write_36 rfl (lv_at hl 1 rfl) ?_
      refine sM (k := 22) (j := t) rfl (by decide) (by show t < 200; omega) go hw dX4_write_37 (fun H locs hw => ?_)
      refine lv_aload_n hx hb dX4_write_38 rfl (lv_at hl 0 rfl) ?_
      refine lv_dup hx hb dX4_write_39 rfl ?_
      refine gMi (k := 23) (v := nI t) (by decide) ((rI_qA _ _ _ _).trans ht) go hw dX4_write_40 q613 ?_
      refine lv_iconst (v := 1) hx hb dX4_write_43 (by decide) ?_
      refine lv_iadd hx hb dX4_write_44 ?_
      refine toI (show (nI t) + 1 = nI (t + 1) from by exact nI_1 t) ?_
      refine pM (k := 23) rfl go hw dX4_write_45 q613 (fun H locs hw => ?_)
      refine lv_aload_n hx hb dX4_write_48 rfl (lv_at hl 0 rfl) ?_
      refine gMi (k := 23) (v := nI (t + 1)) (by decide) rI_eq go hw dX4_write_49 q613 ?_
      refine ret_i (wf := rw' G h) go hw dX4_write_52 ?_
      exact ⟨by simp [wrR, *], by simp [wrR, *]⟩
    · skip
      have h22b : ¬ t < 200 := fun q => n200 q h22
      refine lv_bipush (v := (-5)) hx hb dX4_write_25 (by decide) ?_
      refine ret_i (wf := rw' G h) go hw dX4_write_27 ?_
      exact ⟨by simp [wrR, *], by simp [wrR, *]⟩
  · skip
    have h9 := bI_0 h9
    refine lv_bipush (v := (-3)) hx hb dX4_write_12 (by decide) ?_
    refine ret_i (wf := rw' G h) go hw dX4_write_14 ?_
    exact ⟨by simp [wrR, *], by simp [wrR, *]⟩

set_option maxHeartbeats 4000000 in
set_option maxRecDepth 100000 in
theorem kX4_erase (l : Launch) (G : Cx) (h : Nat → Nat) (x : Rg) : Ci l G yX4_erase cX4_erase 2 .int (Rm 0 0) (rw' G h) [.ref (h 0)] x (fun r u => r = rI x 23 ∧ u = qI x 23 0) := by
  refine Ci.mk (by decide) (Nat.le_of_ble_eq_true rfl) ?_
  intro p e s m below meth c A ls go hw hl
  generalize s.heap = H at hw ⊢
  generalize ([] : List Loc) = locs at hw ⊢
  have hx := go.1
  have hb := go.2.1
  have hl : lv_has ls 2 [(0, .ref (h 0))] := hl
  refine lv_aload_n hx hb dX4_erase_0 rfl (lv_at hl 0 rfl) ?_
  refine gMi (k := 23) (v := rI x 23) (by decide) rfl go hw dX4_erase_1 q613 ?_
  refine lv_istore_n (lv' := [(1, .int (rI x 23)), (0, .ref (h 0))]) hx hb dX4_erase_4 rfl hl (by decide) rfl (fun ls hl => ?_)
  refine lv_aload_n hx hb dX4_erase_5 rfl (lv_at hl 1 rfl) ?_
  refine lv_iconst (v := 0) hx hb dX4_erase_6 (by decide) ?_
  refine pM (k := 23) rfl go hw dX4_erase_7 q613 (fun H locs hw => ?_)
  refine lv_iload_n hx hb dX4_erase_10 rfl (lv_at hl 0 rfl) ?_
  refine ret_i (wf := rw' G h) go hw dX4_erase_11 ?_
  exact ⟨rfl, rfl⟩

set_option maxHeartbeats 4000000 in
set_option maxRecDepth 100000 in
theorem kX4_item (l : Launch) (G : Cx) (h : Nat → Nat) (x : Rg) (a w : Int32) : Ci l G yX4_item cX4_item 3 .int (Rm 2 45) (rw' G h) [.ref (h 0), .int a, .int w] x (fun r u => r = itR x a w ∧ u = x) := by
  refine Ci.mk (by decide) (Nat.le_of_ble_eq_true rfl) ?_
  intro p e s m below meth c A ls go hw hl
  generalize s.heap = H at hw ⊢
  generalize ([] : List Loc) = locs at hw ⊢
  have hx := go.1
  have hb := go.2.1
  have hl : lv_has ls 3 [(0, .ref (h 0)), (1, .int a), (2, .int w)] := hl
  refine lv_iload_n hx hb dX4_item_0 rfl (lv_at hl 1 rfl) ?_
  refine cal_S (kX4_isItem l G a) go hw.2.2.1 hw.2.2.2.1 dX4_item_1 (And.intro q748 (And.intro q4 q750)) q749 kyX4_isItem ⟨rfl, rfl⟩ ⟨Nat.le_of_ble_eq_true rfl, Nat.le_of_ble_eq_true rfl⟩ hl.1 rfl (Nat.le_of_ble_eq_true rfl) ⟨Nat.le_of_ble_eq_true rfl, Nat.le_of_ble_eq_true rfl⟩ ?_
  refine lv_if_ne (tgt := 10) hx hb dX4_item_4 (by decide) (fun h4 => ?_) (fun h4 => ?_)
  · skip
    have h4 := bI_1 h4
    obtain ⟨i, hi, rfl⟩ := inB_of (n := 8) h4 rfl (by decide)
    have ci : (nI i).toNatClampNeg = i := nI_clamp (by omega)
    refine lv_iload_n hx hb dX4_item_10 rfl (lv_at hl 2 rfl) ?_
    refine lv_if_ne (tgt := 23) hx hb dX4_item_11 (by decide) (fun h11 => ?_) (fun h11 => ?_)
    · skip
      refine lv_iload_n hx hb dX4_item_23 rfl (lv_at hl 2 rfl) ?_
      refine lv_iconst (v := 1) hx hb dX4_item_24 (by decide) ?_
      refine lv_icmp_ne (tgt := 37) hx hb dX4_item_25 (by decide) (fun h25 => ?_) (fun h25 => ?_)
      · skip
        refine lv_bipush (v := (-3)) hx hb dX4_item_37 (by decide) ?_
        refine ret_i (wf := rw' G h) go hw dX4_item_39 ?_
        exact ⟨by simp [itR, *], rfl⟩
      · skip
        refine lv_aload_n hx hb dX4_item_28 rfl (lv_at hl 0 rfl) ?_
        refine gM (k := 1) (v := .ref (h 2)) rfl (by decide) rfl go hw dX4_item_29 q591 ?_
        refine lv_iload_n hx hb dX4_item_32 rfl (lv_at hl 1 rfl) ?_
        refine aM (k := 1) (j := i) rfl (by decide) (by exact hi) go hw dX4_item_33 ?_
        refine lv_goto (tgt := 39) hx hb dX4_item_34 (by decide) ?_
        refine ret_i (wf := rw' G h) go hw dX4_item_39 ?_
        exact ⟨by simp [itR, *], rfl⟩
    · skip
      refine lv_aload_n hx hb dX4_item_14 rfl (lv_at hl 0 rfl) ?_
      refine gM (k := 0) (v := .ref (h 1)) rfl (by decide) rfl go hw dX4_item_15 q590 ?_
      refine lv_iload_n hx hb dX4_item_18 rfl (lv_at hl 1 rfl) ?_
      refine aM (k := 0) (j := i) rfl (by decide) (by exact hi) go hw dX4_item_19 ?_
      refine lv_goto (tgt := 39) hx hb dX4_item_20 (by decide) ?_
      refine ret_i (wf := rw' G h) go hw dX4_item_39 ?_
      exact ⟨by simp [itR, *], rfl⟩
  · skip
    have h4 := bI_0 h4
    refine lv_bipush (v := (-2)) hx hb dX4_item_7 (by decide) ?_
    refine ret_i (wf := rw' G h) go hw dX4_item_9 ?_
    exact ⟨by simp [itR, *], rfl⟩

set_option maxHeartbeats 4000000 in
set_option maxRecDepth 100000 in
theorem kX4_limit (l : Launch) (G : Cx) (h : Nat → Nat) (x : Rg) (n : Int32) : Ci l G yX4_limit cX4_limit 3 .int (Rm 1 25) (rw' G h) [.ref (h 0), .int n] x (fun r u => r = (liR x n).1 ∧ u = (liR x n).2) := by
  refine Ci.mk (by decide) (Nat.le_of_ble_eq_true rfl) ?_
  intro p e s m below meth c A ls go hw hl
  generalize s.heap = H at hw ⊢
  generalize ([] : List Loc) = locs at hw ⊢
  have hx := go.1
  have hb := go.2.1
  have hl : lv_has ls 3 [(0, .ref (h 0)), (1, .int n)] := hl
  refine lv_iload_n hx hb dX4_limit_0 rfl (lv_at hl 1 rfl) ?_
  refine lv_i2l hx hb dX4_limit_1 rfl ?_
  refine lv_lconst (v := 1) hx hb dX4_limit_2 rfl ?_
  refine lv_ldc2 (v := 9) hx hb go.2.2.2.2.1 (go.2.2.2.2.2.1 _ q772) dX4_limit_3 ?_
  refine cal_S (kX4_in l G n.toInt64 1 9) go hw.2.2.1 hw.2.2.2.1 dX4_limit_6 (And.intro q687 (And.intro q4 q689)) q688 kyX4_in ⟨rfl, rfl⟩ ⟨Nat.le_of_ble_eq_true rfl, Nat.le_of_ble_eq_true rfl⟩ hl.1 rfl (Nat.le_of_ble_eq_true rfl) ⟨Nat.le_of_ble_eq_true rfl, Nat.le_of_ble_eq_true rfl⟩ ?_
  refine lv_if_ne (tgt := 15) hx hb dX4_limit_9 (by decide) (fun h9 => ?_) (fun h9 => ?_)
  · skip
    have h9 := bI_1 h9
    refine lv_aload_n hx hb dX4_limit_15 rfl (lv_at hl 0 rfl) ?_
    refine gMi (k := 16) (v := rI x 16) (by decide) rfl go hw dX4_limit_16 q606 ?_
    refine lv_istore_n (lv' := [(2, .int (rI x 16)), (0, .ref (h 0)), (1, .int n)]) hx hb dX4_limit_19 rfl hl (by decide) rfl (fun ls hl => ?_)
    refine lv_aload_n hx hb dX4_limit_20 rfl (lv_at hl 1 rfl) ?_
    refine lv_iload_n hx hb dX4_limit_21 rfl (lv_at hl 2 rfl) ?_
    refine pM (k := 16) rfl go hw dX4_limit_22 q606 (fun H locs hw => ?_)
    refine lv_iload_n hx hb dX4_limit_25 rfl (lv_at hl 0 rfl) ?_
    refine ret_i (wf := rw' G h) go hw dX4_limit_26 ?_
    exact ⟨by simp [liR, *], by simp [liR, *]⟩
  · skip
    have h9 := bI_0 h9
    refine lv_bipush (v := (-3)) hx hb dX4_limit_12 (by decide) ?_
    refine ret_i (wf := rw' G h) go hw dX4_limit_14 ?_
    exact ⟨by simp [liR, *], by simp [liR, *]⟩

set_option maxHeartbeats 4000000 in
set_option maxRecDepth 100000 in
theorem kX4_begin (l : Launch) (G : Cx) (h : Nat → Nat) (x : Rg) (a : Int32) : Ci l G yX4_begin cX4_begin 2 .int (Rm 2 45) (rw' G h) [.ref (h 0), .int a] x (fun r u => r = (beR x a).1 ∧ u = (beR x a).2) := by
  refine Ci.mk (by decide) (Nat.le_of_ble_eq_true rfl) ?_
  intro p e s m below meth c A ls go hw hl
  generalize s.heap = H at hw ⊢
  generalize ([] : List Loc) = locs at hw ⊢
  have hx := go.1
  have hb := go.2.1
  have hl : lv_has ls 2 [(0, .ref (h 0)), (1, .int a)] := hl
  refine lv_iload_n hx hb dX4_begin_0 rfl (lv_at hl 1 rfl) ?_
  refine cal_S (kX4_isDeal l G a) go hw.2.2.1 hw.2.2.2.1 dX4_begin_1 (And.intro q777 (And.intro q4 q779)) q778 kyX4_isDeal ⟨rfl, rfl⟩ ⟨Nat.le_of_ble_eq_true rfl, Nat.le_of_ble_eq_true rfl⟩ hl.1 rfl (Nat.le_of_ble_eq_true rfl) ⟨Nat.le_of_ble_eq_true rfl, Nat.le_of_ble_eq_true rfl⟩ ?_
  refine lv_if_ne (tgt := 10) hx hb dX4_begin_4 (by decide) (fun h4 => ?_) (fun h4 => ?_)
  · skip
    have h4 := bI_1 h4
    obtain ⟨d, hd, rfl⟩ := inB_of (n := 6) h4 rfl (by decide)
    have cd : (nI d).toNatClampNeg = d := nI_clamp (by omega)
    refine lv_aload_n hx hb dX4_begin_10 rfl (lv_at hl 0 rfl) ?_
    refine gM (k := 4) (v := .ref (h 5)) rfl (by decide) rfl go hw dX4_begin_11 q594 ?_
    refine lv_iload_n hx hb dX4_begin_14 rfl (lv_at hl 1 rfl) ?_
    refine aM (k := 4) (j := d) rfl (by decide) (by exact hd) go hw dX4_begin_15 ?_
    refine lv_if_eq (tgt := 22) hx hb dX4_begin_16 (by decide) (fun h16 => ?_) (fun h16 => ?_)
    · skip
      refine lv_aload_n hx hb dX4_begin_22 rfl (lv_at hl 0 rfl) ?_
      refine lv_iload_n hx hb dX4_begin_23 rfl (lv_at hl 1 rfl) ?_
      refine cal_Vv' (kX4_opens l G h x d (by omega)) go hw dX4_begin_24 (And.intro q781 (And.intro q4 q784)) q783 qs34 kyX4_opens ⟨Nat.le_of_ble_eq_true rfl, Nat.le_of_ble_eq_true rfl⟩ rc_M hl.1 rfl (Nat.le_of_ble_eq_true rfl) ⟨rfl, rfl⟩ ⟨Nat.le_of_ble_eq_true rfl, Nat.le_of_ble_eq_true rfl⟩ (fun H locs hw => ?_)
      refine lv_aload_n hx hb dX4_begin_27 rfl (lv_at hl 0 rfl) ?_
      refine lv_dup hx hb dX4_begin_28 rfl ?_
      refine gMi (k := 18) (v := rI (opR x d) 18) (by decide) rfl go hw dX4_begin_29 q608 ?_
      refine lv_iconst (v := 1) hx hb dX4_begin_32 (by decide) ?_
      refine lv_iadd hx hb dX4_begin_33 ?_
      refine pM (k := 18) rfl go hw dX4_begin_34 q608 (fun H locs hw => ?_)
      refine lv_aload_n hx hb dX4_begin_37 rfl (lv_at hl 0 rfl) ?_
      refine gM (k := 6) (v := .ref (h 7)) rfl (by decide) rfl go hw dX4_begin_38 q596 ?_
      refine lv_iload_n hx hb dX4_begin_41 rfl (lv_at hl 1 rfl) ?_
      refine lv_aload_n hx hb dX4_begin_42 rfl (lv_at hl 0 rfl) ?_
      refine gMi (k := 18) (v := (rI (opR x d) 18) + 1) (by decide) rI_eq go hw dX4_begin_43 q608 ?_
      refine sM (k := 6) (j := d) rfl (by decide) (by exact hd) go hw dX4_begin_46 (fun H locs hw => ?_)
      rw [show rA (qI (opR x d) 18 ((rI (opR x d) 18) + 1)) 6 = rA (opR x d) 6 from ((rA_qI _ _ _ _).trans rfl)] at hw
      refine lv_aload_n hx hb dX4_begin_47 rfl (lv_at hl 0 rfl) ?_
      refine gM (k := 7) (v := .ref (h 8)) rfl (by decide) rfl go hw dX4_begin_48 q597 ?_
      refine lv_iload_n hx hb dX4_begin_51 rfl (lv_at hl 1 rfl) ?_
      refine lv_iconst (v := 0) hx hb dX4_begin_52 (by decide) ?_
      refine sM (k := 7) (j := d) rfl (by decide) (by exact hd) go hw dX4_begin_53 (fun H locs hw => ?_)
      rw [show rA (qA (qI (opR x d) 18 ((rI (opR x d) 18) + 1)) 6 (upd (rA (opR x d) 6) d ((rI (opR x d) 18) + 1))) 7 = rA (opR x d) 7 from ((rA_ne (by decide)).trans ((rA_qI _ _ _ _).trans rfl))] at hw
      refine lv_aload_n hx hb dX4_begin_54 rfl (lv_at hl 0 rfl) ?_
      refine gMi (k := 18) (v := (rI (opR x d) 18) + 1) (by decide) ((rI_qA _ _ _ _).trans ((rI_qA _ _ _ _).trans rI_eq)) go hw dX4_begin_55 q608 ?_
      refine ret_i (wf := rw' G h) go hw dX4_begin_58 ?_
      exact ⟨by simp [beR, *], by simp [beR, beY, *]⟩
    · skip
      refine lv_bipush (v := (-4)) hx hb dX4_begin_19 (by decide) ?_
      refine ret_i (wf := rw' G h) go hw dX4_begin_21 ?_
      exact ⟨by simp [beR, *], by simp [beR, beY, *]⟩
  · skip
    have h4 := bI_0 h4
    refine lv_bipush (v := (-2)) hx hb dX4_begin_7 (by decide) ?_
    refine ret_i (wf := rw' G h) go hw dX4_begin_9 ?_
    exact ⟨by simp [beR, *], by simp [beR, beY, *]⟩

set_option maxHeartbeats 4000000 in
set_option maxRecDepth 100000 in
theorem kX4_retry (l : Launch) (G : Cx) (h : Nat → Nat) (x : Rg) (a : Int32) : Ci l G yX4_retry cX4_retry 2 .int (Rm 2 45) (rw' G h) [.ref (h 0), .int a] x (fun r u => r = (reR x a).1 ∧ u = (reR x a).2) := by
  refine Ci.mk (by decide) (Nat.le_of_ble_eq_true rfl) ?_
  intro p e s m below meth c A ls go hw hl
  generalize s.heap = H at hw ⊢
  generalize ([] : List Loc) = locs at hw ⊢
  have hx := go.1
  have hb := go.2.1
  have hl : lv_has ls 2 [(0, .ref (h 0)), (1, .int a)] := hl
  refine lv_iload_n hx hb dX4_retry_0 rfl (lv_at hl 1 rfl) ?_
  refine cal_S (kX4_isDeal l G a) go hw.2.2.1 hw.2.2.2.1 dX4_retry_1 (And.intro q777 (And.intro q4 q779)) q778 kyX4_isDeal ⟨rfl, rfl⟩ ⟨Nat.le_of_ble_eq_true rfl, Nat.le_of_ble_eq_true rfl⟩ hl.1 rfl (Nat.le_of_ble_eq_true rfl) ⟨Nat.le_of_ble_eq_true rfl, Nat.le_of_ble_eq_true rfl⟩ ?_
  refine lv_if_ne (tgt := 10) hx hb dX4_retry_4 (by decide) (fun h4 => ?_) (fun h4 => ?_)
  · skip
    have h4 := bI_1 h4
    obtain ⟨d, hd, rfl⟩ := inB_of (n := 6) h4 rfl (by decide)
    have cd : (nI d).toNatClampNeg = d := nI_clamp (by omega)
    refine lv_aload_n hx hb dX4_retry_10 rfl (lv_at hl 0 rfl) ?_
    refine gM (k := 8) (v := .ref (h 9)) rfl (by decide) rfl go hw dX4_retry_11 q598 ?_
    refine lv_iload_n hx hb dX4_retry_14 rfl (lv_at hl 1 rfl) ?_
    refine aMz (j := d) (by exact hd) go hw dX4_retry_15 ?_
    refine lv_if_ne (tgt := 22) hx hb dX4_retry_16 (by decide) (fun h16 => ?_) (fun h16 => ?_)
    · skip
      refine lv_aload_n hx hb dX4_retry_22 rfl (lv_at hl 0 rfl) ?_
      refine lv_iload_n hx hb dX4_retry_23 rfl (lv_at hl 1 rfl) ?_
      refine cal_Vv' (kX4_opens l G h x d (by omega)) go hw dX4_retry_24 (And.intro q781 (And.intro q4 q784)) q783 qs34 kyX4_opens ⟨Nat.le_of_ble_eq_true rfl, Nat.le_of_ble_eq_true rfl⟩ rc_M hl.1 rfl (Nat.le_of_ble_eq_true rfl) ⟨rfl, rfl⟩ ⟨Nat.le_of_ble_eq_true rfl, Nat.le_of_ble_eq_true rfl⟩ (fun H locs hw => ?_)
      refine lv_aload_n hx hb dX4_retry_27 rfl (lv_at hl 0 rfl) ?_
      refine gM (k := 7) (v := .ref (h 8)) rfl (by decide) rfl go hw dX4_retry_28 q597 ?_
      refine lv_iload_n hx hb dX4_retry_31 rfl (lv_at hl 1 rfl) ?_
      refine lv_dup2_11 hx hb dX4_retry_32 rfl rfl ?_
      refine aM (k := 7) (j := d) rfl (by decide) (by exact hd) go hw dX4_retry_33 ?_
      refine lv_iconst (v := 1) hx hb dX4_retry_34 (by decide) ?_
      refine lv_iadd hx hb dX4_retry_35 ?_
      refine sM (k := 7) (j := d) rfl (by decide) (by exact hd) go hw dX4_retry_36 (fun H locs hw => ?_)
      refine lv_aload_n hx hb dX4_retry_37 rfl (lv_at hl 0 rfl) ?_
      refine gM (k := 7) (v := .ref (h 8)) rfl (by decide) rfl go hw dX4_retry_38 q597 ?_
      refine lv_iload_n hx hb dX4_retry_41 rfl (lv_at hl 1 rfl) ?_
      refine aM (k := 7) (j := d) rfl (by decide) (by exact hd) go hw dX4_retry_42 ?_
      refine toI (show rA (qA (opR x d) 7 (upd (rA (opR x d) 7) d ((rA (opR x d) 7 d) + 1))) 7 d = ((rA (opR x d) 7 d) + 1) from (congrFun rA_eq d).trans pk_us) ?_
      refine ret_i (wf := rw' G h) go hw dX4_retry_43 ?_
      exact ⟨by simp [reR, *], by simp [reR, reY, *]⟩
    · skip
      refine lv_bipush (v := (-4)) hx hb dX4_retry_19 (by decide) ?_
      refine ret_i (wf := rw' G h) go hw dX4_retry_21 ?_
      exact ⟨by simp [reR, *], by simp [reR, reY, *]⟩
  · skip
    have h4 := bI_0 h4
    refine lv_bipush (v := (-2)) hx hb dX4_retry_7 (by decide) ?_
    refine ret_i (wf := rw' G h) go hw dX4_retry_9 ?_
    exact ⟨by simp [reR, *], by simp [reR, reY, *]⟩

set_option maxHeartbeats 4000000 in
set_option maxRecDepth 100000 in
theorem kX4_read (l : Launch) (G : Cx) (h : Nat → Nat) (x : Rg) (a b : Int32) : Ci l G yX4_read cX4_read 4 .int (Rm 2 45) (rw' G h) [.ref (h 0), .int a, .int b] x (fun r u => r = (rdR x a b).1 ∧ u = (rdR x a b).2) := by
  refine Ci.mk (by decide) (Nat.le_of_ble_eq_true rfl) ?_
  intro p e s m below meth c A ls go hw hl
  generalize s.heap = H at hw ⊢
  generalize ([] : List Loc) = locs at hw ⊢
  have hx := go.1
  have hb := go.2.1
  have hl : lv_has ls 4 [(0, .ref (h 0)), (1, .int a), (2, .int b)] := hl
  refine lv_iload_n hx hb dX4_read_0 rfl (lv_at hl 1 rfl) ?_
  refine cal_S (kX4_isDeal l G a) go hw.2.2.1 hw.2.2.2.1 dX4_read_1 (And.intro q777 (And.intro q4 q779)) q778 kyX4_isDeal ⟨rfl, rfl⟩ ⟨Nat.le_of_ble_eq_true rfl, Nat.le_of_ble_eq_true rfl⟩ hl.1 rfl (Nat.le_of_ble_eq_true rfl) ⟨Nat.le_of_ble_eq_true rfl, Nat.le_of_ble_eq_true rfl⟩ ?_
  refine lv_if_eq (tgt := 14) hx hb dX4_read_4 (by decide) (fun h4 => ?_) (fun h4 => ?_)
  · skip
    have h4 := bI_0 h4
    refine lv_bipush (v := (-2)) hx hb dX4_read_14 (by decide) ?_
    refine ret_i (wf := rw' G h) go hw dX4_read_16 ?_
    exact ⟨by simp [rdR, *], by simp [rdR, rdY, *]⟩
  · skip
    have h4 := bI_1 h4
    refine lv_iload_n hx hb dX4_read_7 rfl (lv_at hl 2 rfl) ?_
    refine cal_S (kX4_isItem l G b) go hw.2.2.1 hw.2.2.2.1 dX4_read_8 (And.intro q748 (And.intro q4 q750)) q749 kyX4_isItem ⟨rfl, rfl⟩ ⟨Nat.le_of_ble_eq_true rfl, Nat.le_of_ble_eq_true rfl⟩ hl.1 rfl (Nat.le_of_ble_eq_true rfl) ⟨Nat.le_of_ble_eq_true rfl, Nat.le_of_ble_eq_true rfl⟩ ?_
    refine lv_if_ne (tgt := 17) hx hb dX4_read_11 (by decide) (fun h11 => ?_) (fun h11 => ?_)
    · skip
      have h11 := bI_1 h11
      obtain ⟨d, hd, rfl⟩ := inB_of (n := 6) h4 rfl (by decide)
      have cd : (nI d).toNatClampNeg = d := nI_clamp (by omega)
      obtain ⟨i, hi, rfl⟩ := inB_of (n := 8) h11 rfl (by decide)
      have ci : (nI i).toNatClampNeg = i := nI_clamp (by omega)
      refine lv_aload_n hx hb dX4_read_17 rfl (lv_at hl 0 rfl) ?_
      refine gM (k := 4) (v := .ref (h 5)) rfl (by decide) rfl go hw dX4_read_18 q594 ?_
      refine lv_iload_n hx hb dX4_read_21 rfl (lv_at hl 1 rfl) ?_
      refine aM (k := 4) (j := d) rfl (by decide) (by exact hd) go hw dX4_read_22 ?_
      refine lv_iconst (v := 1) hx hb dX4_read_23 (by decide) ?_
      refine lv_icmp_eq (tgt := 30) hx hb dX4_read_24 (by decide) (fun h24 => ?_) (fun h24 => ?_)
      · skip
        refine lv_bipush (v := 8) hx hb dX4_read_30 (by decide) ?_
        refine lv_iload_n hx hb dX4_read_32 rfl (lv_at hl 1 rfl) ?_
        refine lv_imul hx hb dX4_read_33 ?_
        refine lv_iload_n hx hb dX4_read_34 rfl (lv_at hl 2 rfl) ?_
        refine lv_iadd hx hb dX4_read_35 ?_
        refine toI (show (8 * (nI d)) + (nI i) = nI (8 * d + i) from by rw [show (8 : Int32) = nI 8 from rfl, pk_mul, nI_add]) ?_
        refine lv_istore_n (lv' := [(3, .int (nI (8 * d + i))), (0, .ref (h 0)), (1, .int (nI d)), (2, .int (nI i))]) hx hb dX4_read_36 rfl hl (by decide) rfl (fun ls hl => ?_)
        refine lv_aload_n hx hb dX4_read_37 rfl (lv_at hl 1 rfl) ?_
        refine gM (k := 10) (v := .ref (h 11)) rfl (by decide) rfl go hw dX4_read_38 q600 ?_
        refine lv_iload_n hx hb dX4_read_41 rfl (lv_at hl 2 rfl) ?_
        refine aM (k := 10) (j := d) rfl (by decide) (by exact hd) go hw dX4_read_42 ?_
        refine lv_iload_n hx hb dX4_read_43 rfl (lv_at hl 3 rfl) ?_
        refine cal_S (kX4_has l G (rA x 10 d) i (by omega)) go hw.2.2.1 hw.2.2.2.1 dX4_read_44 (And.intro q761 (And.intro q4 q763)) q762 kyX4_has ⟨rfl, rfl⟩ ⟨Nat.le_of_ble_eq_true rfl, Nat.le_of_ble_eq_true rfl⟩ hl.1 rfl (Nat.le_of_ble_eq_true rfl) ⟨Nat.le_of_ble_eq_true rfl, Nat.le_of_ble_eq_true rfl⟩ ?_
        refine lv_if_eq (tgt := 57) hx hb dX4_read_47 (by decide) (fun h47 => ?_) (fun h47 => ?_)
        · skip
          have h47 := bI_0 h47
          refine lv_aload_n hx hb dX4_read_57 rfl (lv_at hl 1 rfl) ?_
          refine gM (k := 9) (v := .ref (h 10)) rfl (by decide) rfl go hw dX4_read_58 q599 ?_
          refine lv_iload_n hx hb dX4_read_61 rfl (lv_at hl 2 rfl) ?_
          refine aM (k := 9) (j := d) rfl (by decide) (by exact hd) go hw dX4_read_62 ?_
          refine lv_iload_n hx hb dX4_read_63 rfl (lv_at hl 3 rfl) ?_
          refine cal_S (kX4_has l G (rA x 9 d) i (by omega)) go hw.2.2.1 hw.2.2.2.1 dX4_read_64 (And.intro q761 (And.intro q4 q763)) q762 kyX4_has ⟨rfl, rfl⟩ ⟨Nat.le_of_ble_eq_true rfl, Nat.le_of_ble_eq_true rfl⟩ hl.1 rfl (Nat.le_of_ble_eq_true rfl) ⟨Nat.le_of_ble_eq_true rfl, Nat.le_of_ble_eq_true rfl⟩ ?_
          refine lv_if_ne (tgt := 106) hx hb dX4_read_67 (by decide) (fun h67 => ?_) (fun h67 => ?_)
          · skip
            have h67 := bI_1 h67
            refine lv_aload_n hx hb dX4_read_106 rfl (lv_at hl 1 rfl) ?_
            refine gM (k := 11) (v := .ref (h 12)) rfl (by decide) rfl go hw dX4_read_107 q601 ?_
            refine lv_iload_n hx hb dX4_read_110 rfl (lv_at hl 0 rfl) ?_
            refine aM (k := 11) (j := 8 * d + i) rfl (by decide) (by show 8 * d + i < 48; omega) go hw dX4_read_111 ?_
            refine ret_i (wf := rw' G h) go hw dX4_read_112 ?_
            exact ⟨by simp [rdR, *], by simp [rdR, rdY, *]⟩
          · skip
            have h67 := bI_0 h67
            refine lv_aload_n hx hb dX4_read_70 rfl (lv_at hl 1 rfl) ?_
            refine gM (k := 9) (v := .ref (h 10)) rfl (by decide) rfl go hw dX4_read_71 q599 ?_
            refine lv_iload_n hx hb dX4_read_74 rfl (lv_at hl 2 rfl) ?_
            refine lv_dup2_11 hx hb dX4_read_75 rfl rfl ?_
            refine aM (k := 9) (j := d) rfl (by decide) (by exact hd) go hw dX4_read_76 ?_
            refine lv_iconst (v := 1) hx hb dX4_read_77 (by decide) ?_
            refine lv_iload_n hx hb dX4_read_78 rfl (lv_at hl 3 rfl) ?_
            refine lv_ishl hx hb dX4_read_79 ?_
            refine toI (show 1 <<< ((nI i) &&& 31) = bt (nI i) from by rfl) ?_
            refine lv_ior hx hb dX4_read_80 ?_
            refine sM (k := 9) (j := d) rfl (by decide) (by exact hd) go hw dX4_read_81 (fun H locs hw => ?_)
            refine lv_aload_n hx hb dX4_read_82 rfl (lv_at hl 1 rfl) ?_
            refine gM (k := 11) (v := .ref (h 12)) rfl (by decide) rfl go hw dX4_read_83 q601 ?_
            refine lv_iload_n hx hb dX4_read_86 rfl (lv_at hl 0 rfl) ?_
            refine lv_aload_n hx hb dX4_read_87 rfl (lv_at hl 1 rfl) ?_
            refine gM (k := 0) (v := .ref (h 1)) rfl (by decide) rfl go hw dX4_read_88 q590 ?_
            refine lv_iload_n hx hb dX4_read_91 rfl (lv_at hl 3 rfl) ?_
            refine aM (k := 0) (j := i) rfl (by decide) (by exact hi) go hw dX4_read_92 ?_
            refine toI (show rA (qA x 9 (upd (rA x 9) d ((rA x 9 d) ||| (bt (nI i))))) 0 i = rA x 0 i from congrFun ((rA_ne (by decide)).trans rfl) i) ?_
            refine sM (k := 11) (j := 8 * d + i) rfl (by decide) (by show 8 * d + i < 48; omega) go hw dX4_read_93 (fun H locs hw => ?_)
            rw [show rA (qA x 9 (upd (rA x 9) d ((rA x 9 d) ||| (bt (nI i))))) 11 = rA x 11 from ((rA_ne (by decide)).trans rfl)] at hw
            refine lv_aload_n hx hb dX4_read_94 rfl (lv_at hl 1 rfl) ?_
            refine gM (k := 12) (v := .ref (h 13)) rfl (by decide) rfl go hw dX4_read_95 q602 ?_
            refine lv_iload_n hx hb dX4_read_98 rfl (lv_at hl 0 rfl) ?_
            refine lv_aload_n hx hb dX4_read_99 rfl (lv_at hl 1 rfl) ?_
            refine gM (k := 1) (v := .ref (h 2)) rfl (by decide) rfl go hw dX4_read_100 q591 ?_
            refine lv_iload_n hx hb dX4_read_103 rfl (lv_at hl 3 rfl) ?_
            refine aM (k := 1) (j := i) rfl (by decide) (by exact hi) go hw dX4_read_104 ?_
            refine toI (show rA (qA (qA x 9 (upd (rA x 9) d ((rA x 9 d) ||| (bt (nI i))))) 11 (upd (rA x 11) (8 * d + i) (rA x 0 i))) 1 i = rA x 1 i from congrFun ((rA_ne (by decide)).trans ((rA_ne (by decide)).trans rfl)) i) ?_
            refine sM (k := 12) (j := 8 * d + i) rfl (by decide) (by show 8 * d + i < 48; omega) go hw dX4_read_105 (fun H locs hw => ?_)
            rw [show rA (qA (qA x 9 (upd (rA x 9) d ((rA x 9 d) ||| (bt (nI i))))) 11 (upd (rA x 11) (8 * d + i) (rA x 0 i))) 12 = rA x 12 from ((rA_ne (by decide)).trans ((rA_ne (by decide)).trans rfl))] at hw
            refine lv_aload_n hx hb dX4_read_106 rfl (lv_at hl 1 rfl) ?_
            refine gM (k := 11) (v := .ref (h 12)) rfl (by decide) rfl go hw dX4_read_107 q601 ?_
            refine lv_iload_n hx hb dX4_read_110 rfl (lv_at hl 0 rfl) ?_
            refine aM (k := 11) (j := 8 * d + i) rfl (by decide) (by show 8 * d + i < 48; omega) go hw dX4_read_111 ?_
            refine toI (show rA (qA (qA (qA x 9 (upd (rA x 9) d ((rA x 9 d) ||| (bt (nI i))))) 11 (upd (rA x 11) (8 * d + i) (rA x 0 i))) 12 (upd (rA x 12) (8 * d + i) (rA x 1 i))) 11 (8 * d + i) = (rA x 0 i) from (congrFun ((rA_ne (by decide)).trans rA_eq) (8 * d + i)).trans pk_us) ?_
            refine ret_i (wf := rw' G h) go hw dX4_read_112 ?_
            exact ⟨by simp [rdR, *], by simp [rdR, rdY, *]⟩
        · skip
          have h47 := bI_1 h47
          refine lv_aload_n hx hb dX4_read_50 rfl (lv_at hl 1 rfl) ?_
          refine gM (k := 13) (v := .ref (h 14)) rfl (by decide) rfl go hw dX4_read_51 q603 ?_
          refine lv_iload_n hx hb dX4_read_54 rfl (lv_at hl 0 rfl) ?_
          refine aM (k := 13) (j := 8 * d + i) rfl (by decide) (by show 8 * d + i < 48; omega) go hw dX4_read_55 ?_
          refine ret_i (wf := rw' G h) go hw dX4_read_56 ?_
          exact ⟨by simp [rdR, *], by simp [rdR, rdY, *]⟩
      · skip
        refine lv_bipush (v := (-4)) hx hb dX4_read_27 (by decide) ?_
        refine ret_i (wf := rw' G h) go hw dX4_read_29 ?_
        exact ⟨by simp [rdR, *], by simp [rdR, rdY, *]⟩
    · skip
      have h11 := bI_0 h11
      refine lv_bipush (v := (-2)) hx hb dX4_read_14 (by decide) ?_
      refine ret_i (wf := rw' G h) go hw dX4_read_16 ?_
      exact ⟨by simp [rdR, *], by simp [rdR, rdY, *]⟩

set_option maxHeartbeats 4000000 in
set_option maxRecDepth 100000 in
theorem kX4_lay (l : Launch) (G : Cx) (h : Nat → Nat) (x : Rg) (a b v : Int32) : Ci l G yX4_lay cX4_lay 4 .int (Rm 2 45) (rw' G h) [.ref (h 0), .int a, .int b, .int v] x (fun r u => r = (laR x a b v).1 ∧ u = (laR x a b v).2) := by
  refine Ci.mk (by decide) (Nat.le_of_ble_eq_true rfl) ?_
  intro p e s m below meth c A ls go hw hl
  generalize s.heap = H at hw ⊢
  generalize ([] : List Loc) = locs at hw ⊢
  have hx := go.1
  have hb := go.2.1
  have hl : lv_has ls 4 [(0, .ref (h 0)), (1, .int a), (2, .int b), (3, .int v)] := hl
  refine lv_iload_n hx hb dX4_lay_0 rfl (lv_at hl 1 rfl) ?_
  refine cal_S (kX4_isDeal l G a) go hw.2.2.1 hw.2.2.2.1 dX4_lay_1 (And.intro q777 (And.intro q4 q779)) q778 kyX4_isDeal ⟨rfl, rfl⟩ ⟨Nat.le_of_ble_eq_true rfl, Nat.le_of_ble_eq_true rfl⟩ hl.1 rfl (Nat.le_of_ble_eq_true rfl) ⟨Nat.le_of_ble_eq_true rfl, Nat.le_of_ble_eq_true rfl⟩ ?_
  refine lv_if_eq (tgt := 14) hx hb dX4_lay_4 (by decide) (fun h4 => ?_) (fun h4 => ?_)
  · skip
    have h4 := bI_0 h4
    refine lv_bipush (v := (-2)) hx hb dX4_lay_14 (by decide) ?_
    refine ret_i (wf := rw' G h) go hw dX4_lay_16 ?_
    exact ⟨by simp [laR, *], by simp [laR, laY, *]⟩
  · skip
    have h4 := bI_1 h4
    refine lv_iload_n hx hb dX4_lay_7 rfl (lv_at hl 2 rfl) ?_
    refine cal_S (kX4_isItem l G b) go hw.2.2.1 hw.2.2.2.1 dX4_lay_8 (And.intro q748 (And.intro q4 q750)) q749 kyX4_isItem ⟨rfl, rfl⟩ ⟨Nat.le_of_ble_eq_true rfl, Nat.le_of_ble_eq_true rfl⟩ hl.1 rfl (Nat.le_of_ble_eq_true rfl) ⟨Nat.le_of_ble_eq_true rfl, Nat.le_of_ble_eq_true rfl⟩ ?_
    refine lv_if_ne (tgt := 17) hx hb dX4_lay_11 (by decide) (fun h11 => ?_) (fun h11 => ?_)
    · skip
      have h11 := bI_1 h11
      obtain ⟨d, hd, rfl⟩ := inB_of (n := 6) h4 rfl (by decide)
      have cd : (nI d).toNatClampNeg = d := nI_clamp (by omega)
      obtain ⟨i, hi, rfl⟩ := inB_of (n := 8) h11 rfl (by decide)
      have ci : (nI i).toNatClampNeg = i := nI_clamp (by omega)
      refine lv_iload_n hx hb dX4_lay_17 rfl (lv_at hl 3 rfl) ?_
      refine lv_i2l hx hb dX4_lay_18 rfl ?_
      refine lv_lconst (v := 0) hx hb dX4_lay_19 rfl ?_
      refine lv_ldc2 (v := 9999) hx hb go.2.2.2.2.1 (go.2.2.2.2.2.1 _ q752) dX4_lay_20 ?_
      refine cal_S (kX4_in l G v.toInt64 0 9999) go hw.2.2.1 hw.2.2.2.1 dX4_lay_23 (And.intro q687 (And.intro q4 q689)) q688 kyX4_in ⟨rfl, rfl⟩ ⟨Nat.le_of_ble_eq_true rfl, Nat.le_of_ble_eq_true rfl⟩ hl.1 rfl (Nat.le_of_ble_eq_true rfl) ⟨Nat.le_of_ble_eq_true rfl, Nat.le_of_ble_eq_true rfl⟩ ?_
      refine lv_if_ne (tgt := 32) hx hb dX4_lay_26 (by decide) (fun h26 => ?_) (fun h26 => ?_)
      · skip
        have h26 := bI_1 h26
        rw [inL_va] at h26
        refine lv_aload_n hx hb dX4_lay_32 rfl (lv_at hl 0 rfl) ?_
        refine gM (k := 4) (v := .ref (h 5)) rfl (by decide) rfl go hw dX4_lay_33 q594 ?_
        refine lv_iload_n hx hb dX4_lay_36 rfl (lv_at hl 1 rfl) ?_
        refine aM (k := 4) (j := d) rfl (by decide) (by exact hd) go hw dX4_lay_37 ?_
        refine lv_iconst (v := 1) hx hb dX4_lay_38 (by decide) ?_
        refine lv_icmp_eq (tgt := 45) hx hb dX4_lay_39 (by decide) (fun h39 => ?_) (fun h39 => ?_)
        · skip
          refine lv_aload_n hx hb dX4_lay_45 rfl (lv_at hl 0 rfl) ?_
          refine gM (k := 10) (v := .ref (h 11)) rfl (by decide) rfl go hw dX4_lay_46 q600 ?_
          refine lv_iload_n hx hb dX4_lay_49 rfl (lv_at hl 1 rfl) ?_
          refine lv_dup2_11 hx hb dX4_lay_50 rfl rfl ?_
          refine aM (k := 10) (j := d) rfl (by decide) (by exact hd) go hw dX4_lay_51 ?_
          refine lv_iconst (v := 1) hx hb dX4_lay_52 (by decide) ?_
          refine lv_iload_n hx hb dX4_lay_53 rfl (lv_at hl 2 rfl) ?_
          refine lv_ishl hx hb dX4_lay_54 ?_
          refine toI (show 1 <<< ((nI i) &&& 31) = bt (nI i) from by rfl) ?_
          refine lv_ior hx hb dX4_lay_55 ?_
          refine sM (k := 10) (j := d) rfl (by decide) (by exact hd) go hw dX4_lay_56 (fun H locs hw => ?_)
          refine lv_aload_n hx hb dX4_lay_57 rfl (lv_at hl 0 rfl) ?_
          refine gM (k := 13) (v := .ref (h 14)) rfl (by decide) rfl go hw dX4_lay_58 q603 ?_
          refine lv_bipush (v := 8) hx hb dX4_lay_61 (by decide) ?_
          refine lv_iload_n hx hb dX4_lay_63 rfl (lv_at hl 1 rfl) ?_
          refine lv_imul hx hb dX4_lay_64 ?_
          refine lv_iload_n hx hb dX4_lay_65 rfl (lv_at hl 2 rfl) ?_
          refine lv_iadd hx hb dX4_lay_66 ?_
          refine lv_iload_n hx hb dX4_lay_67 rfl (lv_at hl 3 rfl) ?_
          refine toI2 (show ((8 * (nI d)) + (nI i) : Int32) = nI (8 * d + i) from by rw [show (8 : Int32) = nI 8 from rfl, pk_mul, nI_add]) ?_
          refine sM (k := 13) (j := (8 * d + i)) rfl (by decide) (by show 8 * d + i < 48; omega) go hw dX4_lay_68 (fun H locs hw => ?_)
          rw [show rA (qA x 10 (upd (rA x 10) d ((rA x 10 d) ||| (bt (nI i))))) 13 = rA x 13 from ((rA_ne (by decide)).trans rfl)] at hw
          refine lv_aload_n hx hb dX4_lay_69 rfl (lv_at hl 0 rfl) ?_
          refine gM (k := 10) (v := .ref (h 11)) rfl (by decide) rfl go hw dX4_lay_70 q600 ?_
          refine lv_iload_n hx hb dX4_lay_73 rfl (lv_at hl 1 rfl) ?_
          refine aM (k := 10) (j := d) rfl (by decide) (by exact hd) go hw dX4_lay_74 ?_
          refine toI (show rA (qA (qA x 10 (upd (rA x 10) d ((rA x 10 d) ||| (bt (nI i))))) 13 (upd (rA x 13) (8 * d + i) v)) 10 d = ((rA x 10 d) ||| (bt (nI i))) from (congrFun ((rA_ne (by decide)).trans rA_eq) d).trans pk_us) ?_
          refine cal_S (kX4_ones l G ((rA x 10 d) ||| (bt (nI i)))) go hw.2.2.1 hw.2.2.2.1 dX4_lay_75 (And.intro q793 (And.intro q4 q795)) q794 kyX4_ones ⟨rfl, rfl⟩ ⟨Nat.le_of_ble_eq_true rfl, Nat.le_of_ble_eq_true rfl⟩ hl.1 rfl (Nat.le_of_ble_eq_true rfl) ⟨Nat.le_of_ble_eq_true rfl, Nat.le_of_ble_eq_true rfl⟩ ?_
          refine ret_i (wf := rw' G h) go hw dX4_lay_78 ?_
          exact ⟨by simp [laR, *], by simp [laR, laY, *]⟩
        · skip
          refine lv_bipush (v := (-4)) hx hb dX4_lay_42 (by decide) ?_
          refine ret_i (wf := rw' G h) go hw dX4_lay_44 ?_
          exact ⟨by simp [laR, *], by simp [laR, laY, *]⟩
      · skip
        have h26 := bI_0 h26
        rw [inL_va] at h26
        refine lv_bipush (v := (-3)) hx hb dX4_lay_29 (by decide) ?_
        refine ret_i (wf := rw' G h) go hw dX4_lay_31 ?_
        exact ⟨by simp [laR, *], by simp [laR, laY, *]⟩
    · skip
      have h11 := bI_0 h11
      refine lv_bipush (v := (-2)) hx hb dX4_lay_14 (by decide) ?_
      refine ret_i (wf := rw' G h) go hw dX4_lay_16 ?_
      exact ⟨by simp [laR, *], by simp [laR, laY, *]⟩

set_option maxHeartbeats 4000000 in
set_option maxRecDepth 100000 in
theorem kX4_put (l : Launch) (G : Cx) (h : Nat → Nat) (x : Rg) (c0 : Nat) (hc : rI x 2 = nI c0) (hc5 : c0 ≤ 512) (a v : Int32) : Ci l G yX4_put cX4_put 4 .int (Rm 2 45) (rw' G h) [.ref (h 0), .int a, .int v] x (fun r u => r = (ptR x c0 a v).1 ∧ u = (ptR x c0 a v).2) := by
  refine Ci.mk (by decide) (Nat.le_of_ble_eq_true rfl) ?_
  intro p e s m below meth c A ls go hw hl
  generalize s.heap = H at hw ⊢
  generalize ([] : List Loc) = locs at hw ⊢
  have hx := go.1
  have hb := go.2.1
  have hl : lv_has ls 4 [(0, .ref (h 0)), (1, .int a), (2, .int v)] := hl
  refine lv_iload_n hx hb dX4_put_0 rfl (lv_at hl 1 rfl) ?_
  refine cal_S (kX4_isItem l G a) go hw.2.2.1 hw.2.2.2.1 dX4_put_1 (And.intro q748 (And.intro q4 q750)) q749 kyX4_isItem ⟨rfl, rfl⟩ ⟨Nat.le_of_ble_eq_true rfl, Nat.le_of_ble_eq_true rfl⟩ hl.1 rfl (Nat.le_of_ble_eq_true rfl) ⟨Nat.le_of_ble_eq_true rfl, Nat.le_of_ble_eq_true rfl⟩ ?_
  refine lv_if_ne (tgt := 10) hx hb dX4_put_4 (by decide) (fun h4 => ?_) (fun h4 => ?_)
  · skip
    have h4 := bI_1 h4
    refine lv_iload_n hx hb dX4_put_10 rfl (lv_at hl 2 rfl) ?_
    refine lv_i2l hx hb dX4_put_11 rfl ?_
    refine lv_lconst (v := 0) hx hb dX4_put_12 rfl ?_
    refine lv_ldc2 (v := 9999) hx hb go.2.2.2.2.1 (go.2.2.2.2.2.1 _ q752) dX4_put_13 ?_
    refine cal_S (kX4_in l G v.toInt64 0 9999) go hw.2.2.1 hw.2.2.2.1 dX4_put_16 (And.intro q687 (And.intro q4 q689)) q688 kyX4_in ⟨rfl, rfl⟩ ⟨Nat.le_of_ble_eq_true rfl, Nat.le_of_ble_eq_true rfl⟩ hl.1 rfl (Nat.le_of_ble_eq_true rfl) ⟨Nat.le_of_ble_eq_true rfl, Nat.le_of_ble_eq_true rfl⟩ ?_
    refine lv_if_ne (tgt := 25) hx hb dX4_put_19 (by decide) (fun h19 => ?_) (fun h19 => ?_)
    · skip
      have h19 := bI_1 h19
      rw [inL_va] at h19
      obtain ⟨i, hi, rfl⟩ := inB_of (n := 8) h4 rfl (by decide)
      have ci : (nI i).toNatClampNeg = i := nI_clamp (by omega)
      refine lv_aload_n hx hb dX4_put_25 rfl (lv_at hl 0 rfl) ?_
      refine lv_iconst (v := 3) hx hb dX4_put_26 (by decide) ?_
      refine cal_Vi' (kX4_inState l G h x 3) go hw dX4_put_27 (And.intro q753 (And.intro q4 q756)) q755 qs31 kyX4_inState ⟨Nat.le_of_ble_eq_true rfl, Nat.le_of_ble_eq_true rfl⟩ rc_M hl.1 rfl (Nat.le_of_ble_eq_true rfl) ⟨rfl, rfl⟩ ⟨Nat.le_of_ble_eq_true rfl, Nat.le_of_ble_eq_true rfl⟩ (fun H locs hw => ?_)
      refine lv_if_le (tgt := 36) hx hb dX4_put_30 (by decide) (fun h30 => ?_) (fun h30 => ?_)
      · skip
        refine lv_aload_n hx hb dX4_put_36 rfl (lv_at hl 0 rfl) ?_
        refine lv_iconst (v := (-1)) hx hb dX4_put_37 (by decide) ?_
        refine lv_iconst (v := 4) hx hb dX4_put_38 (by decide) ?_
        refine cal_Vi' (kX4_logsN l G h x c0 hc (by omega) 4) go hw dX4_put_39 (And.intro q757 (And.intro q4 q760)) q759 qs32 kyX4_logs ⟨Nat.le_of_ble_eq_true rfl, Nat.le_of_ble_eq_true rfl⟩ rc_M hl.1 rfl (Nat.le_of_ble_eq_true rfl) ⟨rfl, rfl⟩ ⟨Nat.le_of_ble_eq_true rfl, Nat.le_of_ble_eq_true rfl⟩ (fun H locs hw => ?_)
        refine lv_istore_n (lv' := [(3, .int (nI (22 * c0))), (0, .ref (h 0)), (1, .int (nI i)), (2, .int v)]) hx hb dX4_put_42 rfl hl (by decide) rfl (fun ls hl => ?_)
        refine lv_aload_n hx hb dX4_put_43 rfl (lv_at hl 1 rfl) ?_
        refine gM (k := 3) (v := .ref (h 4)) rfl (by decide) rfl go hw dX4_put_44 q593 ?_
        refine lv_iload_n hx hb dX4_put_47 rfl (lv_at hl 0 rfl) ?_
        refine lv_iconst (v := 4) hx hb dX4_put_48 (by decide) ?_
        refine lv_iadd hx hb dX4_put_49 ?_
        refine lv_iconst (v := 1) hx hb dX4_put_50 (by decide) ?_
        refine lv_iload_n hx hb dX4_put_51 rfl (lv_at hl 2 rfl) ?_
        refine lv_ishl hx hb dX4_put_52 ?_
        refine toI (show 1 <<< ((nI i) &&& 31) = bt (nI i) from by rfl) ?_
        refine toI2 (show ((nI (22 * c0)) + 4 : Int32) = nI (22 * c0 + 4) from by rw [show (4 : Int32) = nI 4 from rfl, nI_add]) ?_
        refine sM (k := 3) (j := (22 * c0 + 4)) rfl (by decide) (by show 22 * c0 + 4 < 13200; omega) go hw dX4_put_53 (fun H locs hw => ?_)
        refine lv_aload_n hx hb dX4_put_54 rfl (lv_at hl 1 rfl) ?_
        refine gM (k := 3) (v := .ref (h 4)) rfl (by decide) rfl go hw dX4_put_55 q593 ?_
        refine lv_iload_n hx hb dX4_put_58 rfl (lv_at hl 0 rfl) ?_
        refine lv_bipush (v := 14) hx hb dX4_put_59 (by decide) ?_
        refine lv_iadd hx hb dX4_put_61 ?_
        refine lv_iload_n hx hb dX4_put_62 rfl (lv_at hl 2 rfl) ?_
        refine lv_iadd hx hb dX4_put_63 ?_
        refine lv_iload_n hx hb dX4_put_64 rfl (lv_at hl 3 rfl) ?_
        refine toI2 (show (((nI (22 * c0)) + 14) + (nI i) : Int32) = nI (22 * c0 + 14 + i) from by rw [show (14 : Int32) = nI 14 from rfl, nI_add, nI_add]) ?_
        refine sM (k := 3) (j := (22 * c0 + 14 + i)) rfl (by decide) (by show 22 * c0 + 14 + i < 13200; omega) go hw dX4_put_65 (fun H locs hw => ?_)
        rw [show rA (qA (lgN x c0 4) 3 (upd (rA (lgN x c0 4) 3) (22 * c0 + 4) (bt (nI i)))) 3 = upd (rA (lgN x c0 4) 3) (22 * c0 + 4) (bt (nI i)) from rA_eq] at hw
        refine lv_aload_n hx hb dX4_put_66 rfl (lv_at hl 1 rfl) ?_
        refine lv_iload_n hx hb dX4_put_67 rfl (lv_at hl 2 rfl) ?_
        refine lv_iload_n hx hb dX4_put_68 rfl (lv_at hl 3 rfl) ?_
        refine cal_Vv' (kX4_puts l G h (qA (qA (lgN x c0 4) 3 (upd (rA (lgN x c0 4) 3) (22 * c0 + 4) (bt (nI i)))) 3 (upd (upd (rA (lgN x c0 4) 3) (22 * c0 + 4) (bt (nI i))) (22 * c0 + 14 + i) v)) i (by omega) v) go hw dX4_put_69 (And.intro q764 (And.intro q4 q767)) q766 qs33 kyX4_puts ⟨Nat.le_of_ble_eq_true rfl, Nat.le_of_ble_eq_true rfl⟩ rc_M hl.1 rfl (Nat.le_of_ble_eq_true rfl) ⟨rfl, rfl⟩ ⟨Nat.le_of_ble_eq_true rfl, Nat.le_of_ble_eq_true rfl⟩ (fun H locs hw => ?_)
        refine lv_aload_n hx hb dX4_put_72 rfl (lv_at hl 1 rfl) ?_
        refine gMi (k := 2) (v := rI (puR (qA (qA (lgN x c0 4) 3 (upd (rA (lgN x c0 4) 3) (22 * c0 + 4) (bt (nI i)))) 3 (upd (upd (rA (lgN x c0 4) 3) (22 * c0 + 4) (bt (nI i))) (22 * c0 + 14 + i) v)) i v) 2) (by decide) rfl go hw dX4_put_73 q592 ?_
        refine toI (show rI (puR (qA (qA (lgN x c0 4) 3 (upd (rA (lgN x c0 4) 3) (22 * c0 + 4) (bt (nI i)))) 3 (upd (upd (rA (lgN x c0 4) 3) (22 * c0 + 4) (bt (nI i))) (22 * c0 + 14 + i) v)) i v) 2 = nI (c0 + 1) from by rfl) ?_
        refine ret_i (wf := rw' G h) go hw dX4_put_76 ?_
        exact ⟨by simp [ptR, *], by simp [ptR, ptY, *]⟩
      · skip
        refine lv_bipush (v := (-4)) hx hb dX4_put_33 (by decide) ?_
        refine ret_i (wf := rw' G h) go hw dX4_put_35 ?_
        exact ⟨by simp [ptR, *], by simp [ptR, ptY, *]⟩
    · skip
      have h19 := bI_0 h19
      rw [inL_va] at h19
      refine lv_bipush (v := (-3)) hx hb dX4_put_22 (by decide) ?_
      refine ret_i (wf := rw' G h) go hw dX4_put_24 ?_
      exact ⟨by simp [ptR, *], by simp [ptR, ptY, *]⟩
  · skip
    have h4 := bI_0 h4
    refine lv_bipush (v := (-2)) hx hb dX4_put_7 (by decide) ?_
    refine ret_i (wf := rw' G h) go hw dX4_put_9 ?_
    exact ⟨by simp [ptR, *], by simp [ptR, ptY, *]⟩

set_option maxHeartbeats 4000000 in
set_option maxRecDepth 100000 in
theorem kX4_commit (l : Launch) (G : Cx) (h : Nat → Nat) (x : Rg) (c0 : Nat) (hc : rI x 2 = nI c0) (hc5 : c0 ≤ 512) (hS : ∀ d, d < 6 → rA x 5 d = nI ((rA x 5 d).toNatClampNeg) ∧ (rA x 5 d).toNatClampNeg ≤ c0) (a w : Int32) : Ci l G yX4_commit cX4_commit 7 .int (Rm 3 69) (rw' G h) [.ref (h 0), .int a, .int w] x (fun r u => r = (cmR x c0 a w).1 ∧ u = (cmR x c0 a w).2) := by
  refine Ci.mk (by decide) (Nat.le_of_ble_eq_true rfl) ?_
  intro p e s m below meth c A ls go hw hl
  generalize s.heap = H at hw ⊢
  generalize ([] : List Loc) = locs at hw ⊢
  have hx := go.1
  have hb := go.2.1
  have hl : lv_has ls 7 [(0, .ref (h 0)), (1, .int a), (2, .int w)] := hl
  refine lv_aload_n hx hb dX4_commit_0 rfl (lv_at hl 0 rfl) ?_
  refine lv_iload_n hx hb dX4_commit_1 rfl (lv_at hl 1 rfl) ?_
  refine lv_iload_n hx hb dX4_commit_2 rfl (lv_at hl 2 rfl) ?_
  refine cal_Vi' (kX4_refused l G h x a w) go hw dX4_commit_3 (And.intro q821 (And.intro q4 q824)) q823 qs35 kyX4_refused ⟨Nat.le_of_ble_eq_true rfl, Nat.le_of_ble_eq_true rfl⟩ rc_M hl.1 rfl (Nat.le_of_ble_eq_true rfl) ⟨rfl, rfl⟩ ⟨Nat.le_of_ble_eq_true rfl, Nat.le_of_ble_eq_true rfl⟩ (fun H locs hw => ?_)
  refine lv_istore_n (lv' := [(3, .int (rfR x a w)), (0, .ref (h 0)), (1, .int a), (2, .int w)]) hx hb dX4_commit_6 rfl hl (by decide) rfl (fun ls hl => ?_)
  refine lv_iload_n hx hb dX4_commit_7 rfl (lv_at hl 0 rfl) ?_
  refine lv_if_eq (tgt := 13) hx hb dX4_commit_8 (by decide) (fun h8 => ?_) (fun h8 => ?_)
  · skip
    obtain ⟨d, hd, rfl⟩ := inB_of (n := 6) (rf_deal h8) rfl (by decide)
    have cd : (nI d).toNatClampNeg = d := nI_clamp (by omega)
    refine lv_aload_n hx hb dX4_commit_13 rfl (lv_at hl 1 rfl) ?_
    refine lv_iload_n hx hb dX4_commit_14 rfl (lv_at hl 2 rfl) ?_
    refine lv_iload_n hx hb dX4_commit_15 rfl (lv_at hl 3 rfl) ?_
    refine cal_Vi' (kX4_checks l G h x c0 hc (by omega) d (by omega) (rA x 5 d).toNatClampNeg (hS _ (by omega)).1 (hS _ (by omega)).2 w) go hw dX4_commit_16 (And.intro q826 (And.intro q4 q829)) q828 qs36 kyX4_checks ⟨Nat.le_of_ble_eq_true rfl, Nat.le_of_ble_eq_true rfl⟩ rc_M hl.1 rfl (Nat.le_of_ble_eq_true rfl) ⟨rfl, rfl⟩ ⟨Nat.le_of_ble_eq_true rfl, Nat.le_of_ble_eq_true rfl⟩ (fun H locs hw => ?_)
    refine lv_istore (lv' := [(4, .int (ckF x c0 d w)), (3, .int (rfR x (nI d) w)), (0, .ref (h 0)), (1, .int (nI d)), (2, .int w)]) hx hb dX4_commit_19 hl (by decide) rfl (fun ls hl => ?_)
    refine lv_iload hx hb dX4_commit_21 (lv_at hl 0 rfl) ?_
    refine lv_if_eq (tgt := 36) hx hb dX4_commit_23 (by decide) (fun h23 => ?_) (fun h23 => ?_)
    · skip
      refine lv_iload_n hx hb dX4_commit_36 rfl (lv_at hl 4 rfl) ?_
      refine lv_iconst (v := 2) hx hb dX4_commit_37 (by decide) ?_
      refine lv_icmp_ne (tgt := 49) hx hb dX4_commit_38 (by decide) (fun h38 => ?_) (fun h38 => ?_)
      · skip
        refine lv_iconst (v := 0) hx hb dX4_commit_49 (by decide) ?_
        refine toI (show 0 = (if w = 2 then rvR x d else 0) from by first | exact (if_pos h38).symm | exact (if_neg h38).symm) ?_
        refine lv_istore (lv' := [(5, .int (if w = 2 then rvR x d else 0)), (4, .int (ckF x c0 d w)), (3, .int (rfR x (nI d) w)), (0, .ref (h 0)), (1, .int (nI d)), (2, .int w)]) hx hb dX4_commit_50 hl (by decide) rfl (fun ls hl => ?_)
        refine lv_iconst (v := 0) hx hb dX4_commit_52 (by decide) ?_
        refine lv_istore (lv' := [(6, .int 0), (5, .int (if w = 2 then rvR x d else 0)), (4, .int (ckF x c0 d w)), (3, .int (rfR x (nI d) w)), (0, .ref (h 0)), (1, .int (nI d)), (2, .int w)]) hx hb dX4_commit_53 hl (by decide) rfl (fun ls hl => ?_)
        rw [show x = qA x 4 (cpF (rA x 4) (dmF x (if w = 2 then rvR x d else 0)) 0) from by rw [cpF_0, qA_self]] at hw
        have hl0 : lv_has ls 7 [(0, .ref (h 0)), (1, .int (nI d)), (2, .int w), (5, .int (if w = 2 then rvR x d else 0)), (6, .int (nI 0))] := lv_to (lv_sub (l' := [(0, .ref (h 0)), (1, .int (nI d)), (2, .int w), (5, .int (if w = 2 then rvR x d else 0)), (6, .int 0)]) hl [4, 5, 6, 1, 0] rfl) (lr (lr (lr (lr (lc (show (0 : Int32) = nI 0 from rfl) rfl)))))
        refine loop_up (N := 6) (P := fun i H locs ls => Wd G A s H locs (rw' G h (qA x 4 (cpF (rA x 4) (dmF x (if w = 2 then rvR x d else 0)) i))) ∧ lv_has ls 7 [(0, .ref (h 0)), (1, .int (nI d)), (2, .int w), (5, .int (if w = 2 then rvR x d else 0)), (6, .int (nI i))]) (X := fun H locs ls => W p l e (Rm 3 69) s m ([.ref (h 0), .int (nI d), .int w] : List Value).toArray below meth c H locs 0 0 (MQ below (va_Qi (fun r u => r = (cmR x c0 (nI d) w).1 ∧ u = (cmR x c0 (nI d) w).2) (PostW G (rw' G h) A) A) ([.ref (h 0), .int (nI d), .int w] : List Value).toArray s (Rm 3 69).cells (Rm 3 69).slots A) (F0 m 55 ls [])) ?_ 0 (by omega) H locs ls ⟨hw, hl0⟩
        clear hl0 hl hw
        intro i hi ih H locs ls hP
        obtain ⟨hw, hl⟩ := hP
        refine lv_iload hx hb dX4_commit_55 (lv_at hl 4 rfl) ?_
        refine lv_bipush (v := 6) hx hb dX4_commit_57 (by decide) ?_
        refine lv_icmp_ge (tgt := 96) hx hb dX4_commit_59 (by decide) (fun h59 => ?_) (fun h59 => ?_)
        · skip
          have hE : i = 6 := lp_end h59 rfl rfl hi (by decide)
          subst hE
          refine lv_aload_n hx hb dX4_commit_96 rfl (lv_at hl 0 rfl) ?_
          refine lv_iload_n hx hb dX4_commit_97 rfl (lv_at hl 1 rfl) ?_
          refine lv_iload_n hx hb dX4_commit_98 rfl (lv_at hl 2 rfl) ?_
          refine cal_Vi' (kX4_commits l G h (qA x 4 (cpF (rA x 4) (dmF x (if w = 2 then rvR x d else 0)) 6)) c0 hc (by omega) d (by omega) w) go hw dX4_commit_99 (And.intro q854 (And.intro q4 q857)) q856 qs43 kyX4_commits ⟨Nat.le_of_ble_eq_true rfl, Nat.le_of_ble_eq_true rfl⟩ rc_M hl.1 rfl (Nat.le_of_ble_eq_true rfl) ⟨rfl, rfl⟩ ⟨Nat.le_of_ble_eq_true rfl, Nat.le_of_ble_eq_true rfl⟩ (fun H locs hw => ?_)
          refine ret_i (wf := rw' G h) go hw dX4_commit_102 ?_
          exact ⟨by rw [cmR, if_pos h8, cd, if_pos h23], by rw [cmR, if_pos h8, cd, if_pos h23]; rfl⟩
        · skip
          have hlt : i < 6 := lp_in h59 rfl rfl hi (by decide)
          refine lv_aload_n hx hb dX4_commit_62 rfl (lv_at hl 0 rfl) ?_
          refine gM (k := 4) (v := .ref (h 5)) rfl (by decide) rfl go hw dX4_commit_63 q594 ?_
          refine lv_iload hx hb dX4_commit_66 (lv_at hl 4 rfl) ?_
          refine lv_iload hx hb dX4_commit_68 (lv_at hl 3 rfl) ?_
          refine lv_iload hx hb dX4_commit_70 (lv_at hl 4 rfl) ?_
          refine cal_S (kX4_has l G (if w = 2 then rvR x d else 0) i (by omega)) go hw.2.2.1 hw.2.2.2.1 dX4_commit_72 (And.intro q761 (And.intro q4 q763)) q762 kyX4_has ⟨rfl, rfl⟩ ⟨Nat.le_of_ble_eq_true rfl, Nat.le_of_ble_eq_true rfl⟩ hl.1 rfl (Nat.le_of_ble_eq_true rfl) ⟨Nat.le_of_ble_eq_true rfl, Nat.le_of_ble_eq_true rfl⟩ ?_
          refine lv_if_eq (tgt := 82) hx hb dX4_commit_75 (by decide) (fun h75 => ?_) (fun h75 => ?_)
          · skip
            have h75 := bI_0 h75
            refine lv_aload_n hx hb dX4_commit_82 rfl (lv_at hl 0 rfl) ?_
            refine gM (k := 4) (v := .ref (h 5)) rfl (by decide) rfl go hw dX4_commit_83 q594 ?_
            refine lv_iload hx hb dX4_commit_86 (lv_at hl 4 rfl) ?_
            refine aM (k := 4) (j := i) rfl (by decide) (by exact hlt) go hw dX4_commit_88 ?_
            refine toI (show rA (qA x 4 (cpF (rA x 4) (dmF x (if w = 2 then rvR x d else 0)) i)) 4 i = (cpF (rA x 4) (dmF x (if w = 2 then rvR x d else 0)) i) i from congrFun rA_eq i) ?_
            refine toI (show (cpF (rA x 4) (dmF x (if w = 2 then rvR x d else 0)) i) i = dmF x (if w = 2 then rvR x d else 0) i from by first | exact (if_pos h75).symm | exact (if_neg (Nat.lt_irrefl i)).trans (if_neg (by rw [h75]; decide)).symm) ?_
            refine sM (k := 4) (j := i) rfl (by decide) (by exact hlt) go hw dX4_commit_89 (fun H locs hw => ?_)
            rw [show rA (qA x 4 (cpF (rA x 4) (dmF x (if w = 2 then rvR x d else 0)) i)) 4 = cpF (rA x 4) (dmF x (if w = 2 then rvR x d else 0)) i from rA_eq] at hw
            refine lv_iinc (v := nI (i + 1)) (lv' := [(6, .int (nI (i + 1))), (0, .ref (h 0)), (1, .int (nI d)), (2, .int w), (5, .int (if w = 2 then rvR x d else 0))]) hx hb dX4_commit_90 hl (k := 4) rfl (nI_1 _) (by decide) rfl (fun ls hl => ?_)
            refine lv_goto (tgt := 55) hx hb dX4_commit_93 (by decide) ?_
            have hl9 : lv_has ls 7 [(0, .ref (h 0)), (1, .int (nI d)), (2, .int w), (5, .int (if w = 2 then rvR x d else 0)), (6, .int (nI (i + 1)))] := lv_sub hl [1, 2, 3, 4, 0] rfl
            rw [show qA (qA x 4 (cpF (rA x 4) (dmF x (if w = 2 then rvR x d else 0)) i)) 4 (upd (cpF (rA x 4) (dmF x (if w = 2 then rvR x d else 0)) i) i (dmF x (if w = 2 then rvR x d else 0) i)) = qA x 4 (cpF (rA x 4) (dmF x (if w = 2 then rvR x d else 0)) (i + 1)) from by rw [qA_over, cpF_s]] at hw
            exact ih _ _ _ (by omega) ⟨hw, hl9⟩
          · skip
            have h75 := bI_1 h75
            refine lv_iconst (v := 2) hx hb dX4_commit_78 (by decide) ?_
            refine lv_goto (tgt := 89) hx hb dX4_commit_79 (by decide) ?_
            refine toI (show 2 = dmF x (if w = 2 then rvR x d else 0) i from by first | exact (if_pos h75).symm | exact (if_neg (Nat.lt_irrefl i)).trans (if_neg (by rw [h75]; decide)).symm) ?_
            refine sM (k := 4) (j := i) rfl (by decide) (by exact hlt) go hw dX4_commit_89 (fun H locs hw => ?_)
            rw [show rA (qA x 4 (cpF (rA x 4) (dmF x (if w = 2 then rvR x d else 0)) i)) 4 = cpF (rA x 4) (dmF x (if w = 2 then rvR x d else 0)) i from rA_eq] at hw
            refine lv_iinc (v := nI (i + 1)) (lv' := [(6, .int (nI (i + 1))), (0, .ref (h 0)), (1, .int (nI d)), (2, .int w), (5, .int (if w = 2 then rvR x d else 0))]) hx hb dX4_commit_90 hl (k := 4) rfl (nI_1 _) (by decide) rfl (fun ls hl => ?_)
            refine lv_goto (tgt := 55) hx hb dX4_commit_93 (by decide) ?_
            have hl9 : lv_has ls 7 [(0, .ref (h 0)), (1, .int (nI d)), (2, .int w), (5, .int (if w = 2 then rvR x d else 0)), (6, .int (nI (i + 1)))] := lv_sub hl [1, 2, 3, 4, 0] rfl
            rw [show qA (qA x 4 (cpF (rA x 4) (dmF x (if w = 2 then rvR x d else 0)) i)) 4 (upd (cpF (rA x 4) (dmF x (if w = 2 then rvR x d else 0)) i) i (dmF x (if w = 2 then rvR x d else 0) i)) = qA x 4 (cpF (rA x 4) (dmF x (if w = 2 then rvR x d else 0)) (i + 1)) from by rw [qA_over, cpF_s]] at hw
            exact ih _ _ _ (by omega) ⟨hw, hl9⟩
      · skip
        refine lv_aload_n hx hb dX4_commit_41 rfl (lv_at hl 2 rfl) ?_
        refine lv_iload_n hx hb dX4_commit_42 rfl (lv_at hl 3 rfl) ?_
        refine cal_Vi' (kX4_rivals l G h x d (by omega)) go hw dX4_commit_43 (And.intro q838 (And.intro q4 q841)) q840 qs39 kyX4_rivals ⟨Nat.le_of_ble_eq_true rfl, Nat.le_of_ble_eq_true rfl⟩ rc_M hl.1 rfl (Nat.le_of_ble_eq_true rfl) ⟨rfl, rfl⟩ ⟨Nat.le_of_ble_eq_true rfl, Nat.le_of_ble_eq_true rfl⟩ (fun H locs hw => ?_)
        refine lv_goto (tgt := 50) hx hb dX4_commit_46 (by decide) ?_
        refine toI (show rvR x d = (if w = 2 then rvR x d else 0) from by first | exact (if_pos h38).symm | exact (if_neg h38).symm) ?_
        refine lv_istore (lv' := [(5, .int (if w = 2 then rvR x d else 0)), (4, .int (ckF x c0 d w)), (3, .int (rfR x (nI d) w)), (0, .ref (h 0)), (1, .int (nI d)), (2, .int w)]) hx hb dX4_commit_50 hl (by decide) rfl (fun ls hl => ?_)
        refine lv_iconst (v := 0) hx hb dX4_commit_52 (by decide) ?_
        refine lv_istore (lv' := [(6, .int 0), (5, .int (if w = 2 then rvR x d else 0)), (4, .int (ckF x c0 d w)), (3, .int (rfR x (nI d) w)), (0, .ref (h 0)), (1, .int (nI d)), (2, .int w)]) hx hb dX4_commit_53 hl (by decide) rfl (fun ls hl => ?_)
        rw [show x = qA x 4 (cpF (rA x 4) (dmF x (if w = 2 then rvR x d else 0)) 0) from by rw [cpF_0, qA_self]] at hw
        have hl0 : lv_has ls 7 [(0, .ref (h 0)), (1, .int (nI d)), (2, .int w), (5, .int (if w = 2 then rvR x d else 0)), (6, .int (nI 0))] := lv_to (lv_sub (l' := [(0, .ref (h 0)), (1, .int (nI d)), (2, .int w), (5, .int (if w = 2 then rvR x d else 0)), (6, .int 0)]) hl [4, 5, 6, 1, 0] rfl) (lr (lr (lr (lr (lc (show (0 : Int32) = nI 0 from rfl) rfl)))))
        refine loop_up (N := 6) (P := fun i H locs ls => Wd G A s H locs (rw' G h (qA x 4 (cpF (rA x 4) (dmF x (if w = 2 then rvR x d else 0)) i))) ∧ lv_has ls 7 [(0, .ref (h 0)), (1, .int (nI d)), (2, .int w), (5, .int (if w = 2 then rvR x d else 0)), (6, .int (nI i))]) (X := fun H locs ls => W p l e (Rm 3 69) s m ([.ref (h 0), .int (nI d), .int w] : List Value).toArray below meth c H locs 0 0 (MQ below (va_Qi (fun r u => r = (cmR x c0 (nI d) w).1 ∧ u = (cmR x c0 (nI d) w).2) (PostW G (rw' G h) A) A) ([.ref (h 0), .int (nI d), .int w] : List Value).toArray s (Rm 3 69).cells (Rm 3 69).slots A) (F0 m 55 ls [])) ?_ 0 (by omega) H locs ls ⟨hw, hl0⟩
        clear hl0 hl hw
        intro i hi ih H locs ls hP
        obtain ⟨hw, hl⟩ := hP
        refine lv_iload hx hb dX4_commit_55 (lv_at hl 4 rfl) ?_
        refine lv_bipush (v := 6) hx hb dX4_commit_57 (by decide) ?_
        refine lv_icmp_ge (tgt := 96) hx hb dX4_commit_59 (by decide) (fun h59 => ?_) (fun h59 => ?_)
        · skip
          have hE : i = 6 := lp_end h59 rfl rfl hi (by decide)
          subst hE
          refine lv_aload_n hx hb dX4_commit_96 rfl (lv_at hl 0 rfl) ?_
          refine lv_iload_n hx hb dX4_commit_97 rfl (lv_at hl 1 rfl) ?_
          refine lv_iload_n hx hb dX4_commit_98 rfl (lv_at hl 2 rfl) ?_
          refine cal_Vi' (kX4_commits l G h (qA x 4 (cpF (rA x 4) (dmF x (if w = 2 then rvR x d else 0)) 6)) c0 hc (by omega) d (by omega) w) go hw dX4_commit_99 (And.intro q854 (And.intro q4 q857)) q856 qs43 kyX4_commits ⟨Nat.le_of_ble_eq_true rfl, Nat.le_of_ble_eq_true rfl⟩ rc_M hl.1 rfl (Nat.le_of_ble_eq_true rfl) ⟨rfl, rfl⟩ ⟨Nat.le_of_ble_eq_true rfl, Nat.le_of_ble_eq_true rfl⟩ (fun H locs hw => ?_)
          refine ret_i (wf := rw' G h) go hw dX4_commit_102 ?_
          exact ⟨by rw [cmR, if_pos h8, cd, if_pos h23], by rw [cmR, if_pos h8, cd, if_pos h23]; rfl⟩
        · skip
          have hlt : i < 6 := lp_in h59 rfl rfl hi (by decide)
          refine lv_aload_n hx hb dX4_commit_62 rfl (lv_at hl 0 rfl) ?_
          refine gM (k := 4) (v := .ref (h 5)) rfl (by decide) rfl go hw dX4_commit_63 q594 ?_
          refine lv_iload hx hb dX4_commit_66 (lv_at hl 4 rfl) ?_
          refine lv_iload hx hb dX4_commit_68 (lv_at hl 3 rfl) ?_
          refine lv_iload hx hb dX4_commit_70 (lv_at hl 4 rfl) ?_
          refine cal_S (kX4_has l G (if w = 2 then rvR x d else 0) i (by omega)) go hw.2.2.1 hw.2.2.2.1 dX4_commit_72 (And.intro q761 (And.intro q4 q763)) q762 kyX4_has ⟨rfl, rfl⟩ ⟨Nat.le_of_ble_eq_true rfl, Nat.le_of_ble_eq_true rfl⟩ hl.1 rfl (Nat.le_of_ble_eq_true rfl) ⟨Nat.le_of_ble_eq_true rfl, Nat.le_of_ble_eq_true rfl⟩ ?_
          refine lv_if_eq (tgt := 82) hx hb dX4_commit_75 (by decide) (fun h75 => ?_) (fun h75 => ?_)
          · skip
            have h75 := bI_0 h75
            refine lv_aload_n hx hb dX4_commit_82 rfl (lv_at hl 0 rfl) ?_
            refine gM (k := 4) (v := .ref (h 5)) rfl (by decide) rfl go hw dX4_commit_83 q594 ?_
            refine lv_iload hx hb dX4_commit_86 (lv_at hl 4 rfl) ?_
            refine aM (k := 4) (j := i) rfl (by decide) (by exact hlt) go hw dX4_commit_88 ?_
            refine toI (show rA (qA x 4 (cpF (rA x 4) (dmF x (if w = 2 then rvR x d else 0)) i)) 4 i = (cpF (rA x 4) (dmF x (if w = 2 then rvR x d else 0)) i) i from congrFun rA_eq i) ?_
            refine toI (show (cpF (rA x 4) (dmF x (if w = 2 then rvR x d else 0)) i) i = dmF x (if w = 2 then rvR x d else 0) i from by first | exact (if_pos h75).symm | exact (if_neg (Nat.lt_irrefl i)).trans (if_neg (by rw [h75]; decide)).symm) ?_
            refine sM (k := 4) (j := i) rfl (by decide) (by exact hlt) go hw dX4_commit_89 (fun H locs hw => ?_)
            rw [show rA (qA x 4 (cpF (rA x 4) (dmF x (if w = 2 then rvR x d else 0)) i)) 4 = cpF (rA x 4) (dmF x (if w = 2 then rvR x d else 0)) i from rA_eq] at hw
            refine lv_iinc (v := nI (i + 1)) (lv' := [(6, .int (nI (i + 1))), (0, .ref (h 0)), (1, .int (nI d)), (2, .int w), (5, .int (if w = 2 then rvR x d else 0))]) hx hb dX4_commit_90 hl (k := 4) rfl (nI_1 _) (by decide) rfl (fun ls hl => ?_)
            refine lv_goto (tgt := 55) hx hb dX4_commit_93 (by decide) ?_
            have hl9 : lv_has ls 7 [(0, .ref (h 0)), (1, .int (nI d)), (2, .int w), (5, .int (if w = 2 then rvR x d else 0)), (6, .int (nI (i + 1)))] := lv_sub hl [1, 2, 3, 4, 0] rfl
            rw [show qA (qA x 4 (cpF (rA x 4) (dmF x (if w = 2 then rvR x d else 0)) i)) 4 (upd (cpF (rA x 4) (dmF x (if w = 2 then rvR x d else 0)) i) i (dmF x (if w = 2 then rvR x d else 0) i)) = qA x 4 (cpF (rA x 4) (dmF x (if w = 2 then rvR x d else 0)) (i + 1)) from by rw [qA_over, cpF_s]] at hw
            exact ih _ _ _ (by omega) ⟨hw, hl9⟩
          · skip
            have h75 := bI_1 h75
            refine lv_iconst (v := 2) hx hb dX4_commit_78 (by decide) ?_
            refine lv_goto (tgt := 89) hx hb dX4_commit_79 (by decide) ?_
            refine toI (show 2 = dmF x (if w = 2 then rvR x d else 0) i from by first | exact (if_pos h75).symm | exact (if_neg (Nat.lt_irrefl i)).trans (if_neg (by rw [h75]; decide)).symm) ?_
            refine sM (k := 4) (j := i) rfl (by decide) (by exact hlt) go hw dX4_commit_89 (fun H locs hw => ?_)
            rw [show rA (qA x 4 (cpF (rA x 4) (dmF x (if w = 2 then rvR x d else 0)) i)) 4 = cpF (rA x 4) (dmF x (if w = 2 then rvR x d else 0)) i from rA_eq] at hw
            refine lv_iinc (v := nI (i + 1)) (lv' := [(6, .int (nI (i + 1))), (0, .ref (h 0)), (1, .int (nI d)), (2, .int w), (5, .int (if w = 2 then rvR x d else 0))]) hx hb dX4_commit_90 hl (k := 4) rfl (nI_1 _) (by decide) rfl (fun ls hl => ?_)
            refine lv_goto (tgt := 55) hx hb dX4_commit_93 (by decide) ?_
            have hl9 : lv_has ls 7 [(0, .ref (h 0)), (1, .int (nI d)), (2, .int w), (5, .int (if w = 2 then rvR x d else 0)), (6, .int (nI (i + 1)))] := lv_sub hl [1, 2, 3, 4, 0] rfl
            rw [show qA (qA x 4 (cpF (rA x 4) (dmF x (if w = 2 then rvR x d else 0)) i)) 4 (upd (cpF (rA x 4) (dmF x (if w = 2 then rvR x d else 0)) i) i (dmF x (if w = 2 then rvR x d else 0) i)) = qA x 4 (cpF (rA x 4) (dmF x (if w = 2 then rvR x d else 0)) (i + 1)) from by rw [qA_over, cpF_s]] at hw
            exact ih _ _ _ (by omega) ⟨hw, hl9⟩
    · skip
      refine lv_aload_n hx hb dX4_commit_26 rfl (lv_at hl 2 rfl) ?_
      refine lv_iload_n hx hb dX4_commit_27 rfl (lv_at hl 3 rfl) ?_
      refine lv_iload hx hb dX4_commit_28 (lv_at hl 0 rfl) ?_
      refine cal_Vv' (kX4_fails l G h x d (by omega) (ckF x c0 d w)) go hw dX4_commit_30 (And.intro q850 (And.intro q4 q853)) q852 qs42 kyX4_fails ⟨Nat.le_of_ble_eq_true rfl, Nat.le_of_ble_eq_true rfl⟩ rc_M hl.1 rfl (Nat.le_of_ble_eq_true rfl) ⟨rfl, rfl⟩ ⟨Nat.le_of_ble_eq_true rfl, Nat.le_of_ble_eq_true rfl⟩ (fun H locs hw => ?_)
      refine lv_iload hx hb dX4_commit_33 (lv_at hl 0 rfl) ?_
      refine ret_i (wf := rw' G h) go hw dX4_commit_35 ?_
      exact ⟨by simp [cmR, *, -hS], by simp [cmR, *, -hS]⟩
  · skip
    refine lv_iload_n hx hb dX4_commit_11 rfl (lv_at hl 0 rfl) ?_
    refine ret_i (wf := rw' G h) go hw dX4_commit_12 ?_
    exact ⟨by simp [cmR, *, -hS], by simp [cmR, *, -hS]⟩

set_option maxHeartbeats 4000000 in
set_option maxRecDepth 100000 in
theorem kX4_peek (l : Launch) (G : Cx) (h : Nat → Nat) (x : Rg) (c0 : Nat) (hc : rI x 2 = nI c0) (hc5 : c0 ≤ 512) (hS : ∀ d, d < 6 → rA x 5 d = nI ((rA x 5 d).toNatClampNeg) ∧ (rA x 5 d).toNatClampNeg ≤ c0) (a w : Int32) : Ci l G yX4_peek cX4_peek 5 .int (Rm 3 69) (rw' G h) [.ref (h 0), .int a, .int w] x (fun r u => r = peR x c0 a w ∧ u = x) := by
  refine Ci.mk (by decide) (Nat.le_of_ble_eq_true rfl) ?_
  intro p e s m below meth c A ls go hw hl
  generalize s.heap = H at hw ⊢
  generalize ([] : List Loc) = locs at hw ⊢
  have hx := go.1
  have hb := go.2.1
  have hl : lv_has ls 5 [(0, .ref (h 0)), (1, .int a), (2, .int w)] := hl
  refine lv_aload_n hx hb dX4_peek_0 rfl (lv_at hl 0 rfl) ?_
  refine lv_iload_n hx hb dX4_peek_1 rfl (lv_at hl 1 rfl) ?_
  refine lv_iload_n hx hb dX4_peek_2 rfl (lv_at hl 2 rfl) ?_
  refine cal_Vi' (kX4_refused l G h x a w) go hw dX4_peek_3 (And.intro q821 (And.intro q4 q824)) q823 qs35 kyX4_refused ⟨Nat.le_of_ble_eq_true rfl, Nat.le_of_ble_eq_true rfl⟩ rc_M hl.1 rfl (Nat.le_of_ble_eq_true rfl) ⟨rfl, rfl⟩ ⟨Nat.le_of_ble_eq_true rfl, Nat.le_of_ble_eq_true rfl⟩ (fun H locs hw => ?_)
  refine lv_istore_n (lv' := [(3, .int (rfR x a w)), (0, .ref (h 0)), (1, .int a), (2, .int w)]) hx hb dX4_peek_6 rfl hl (by decide) rfl (fun ls hl => ?_)
  refine lv_iload_n hx hb dX4_peek_7 rfl (lv_at hl 0 rfl) ?_
  refine lv_if_eq (tgt := 13) hx hb dX4_peek_8 (by decide) (fun h8 => ?_) (fun h8 => ?_)
  · skip
    obtain ⟨d, hd, rfl⟩ := inB_of (n := 6) (rf_deal h8) rfl (by decide)
    have cd : (nI d).toNatClampNeg = d := nI_clamp (by omega)
    refine lv_aload_n hx hb dX4_peek_13 rfl (lv_at hl 1 rfl) ?_
    refine lv_iload_n hx hb dX4_peek_14 rfl (lv_at hl 2 rfl) ?_
    refine lv_iload_n hx hb dX4_peek_15 rfl (lv_at hl 3 rfl) ?_
    refine cal_Vi' (kX4_checks l G h x c0 hc (by omega) d (by omega) (rA x 5 d).toNatClampNeg (hS _ (by omega)).1 (hS _ (by omega)).2 w) go hw dX4_peek_16 (And.intro q826 (And.intro q4 q829)) q828 qs36 kyX4_checks ⟨Nat.le_of_ble_eq_true rfl, Nat.le_of_ble_eq_true rfl⟩ rc_M hl.1 rfl (Nat.le_of_ble_eq_true rfl) ⟨rfl, rfl⟩ ⟨Nat.le_of_ble_eq_true rfl, Nat.le_of_ble_eq_true rfl⟩ (fun H locs hw => ?_)
    refine lv_istore (lv' := [(4, .int (ckF x c0 d w)), (3, .int (rfR x (nI d) w)), (0, .ref (h 0)), (1, .int (nI d)), (2, .int w)]) hx hb dX4_peek_19 hl (by decide) rfl (fun ls hl => ?_)
    refine lv_iload hx hb dX4_peek_21 (lv_at hl 0 rfl) ?_
    refine lv_if_eq (tgt := 31) hx hb dX4_peek_23 (by decide) (fun h23 => ?_) (fun h23 => ?_)
    · skip
      refine lv_aload_n hx hb dX4_peek_31 rfl (lv_at hl 2 rfl) ?_
      refine gMi (k := 2) (v := nI c0) (by decide) hc go hw dX4_peek_32 q592 ?_
      refine lv_iconst (v := 1) hx hb dX4_peek_35 (by decide) ?_
      refine lv_iadd hx hb dX4_peek_36 ?_
      refine ret_i (wf := rw' G h) go hw dX4_peek_37 ?_
      exact ⟨by simp [peR, *, -hS], rfl⟩
    · skip
      refine lv_iload hx hb dX4_peek_26 (lv_at hl 0 rfl) ?_
      refine lv_goto (tgt := 37) hx hb dX4_peek_28 (by decide) ?_
      refine ret_i (wf := rw' G h) go hw dX4_peek_37 ?_
      exact ⟨by simp [peR, *, -hS], rfl⟩
  · skip
    refine lv_iload_n hx hb dX4_peek_11 rfl (lv_at hl 0 rfl) ?_
    refine ret_i (wf := rw' G h) go hw dX4_peek_12 ?_
    exact ⟨by simp [peR, *, -hS], rfl⟩

set_option maxHeartbeats 4000000 in
set_option maxRecDepth 100000 in
theorem kX4_abort (l : Launch) (G : Cx) (h : Nat → Nat) (x : Rg) (a : Int32) : Ci l G yX4_abort cX4_abort 2 .int (Rm 2 45) (rw' G h) [.ref (h 0), .int a] x (fun r u => r = (abR x a).1 ∧ u = (abR x a).2) := by
  refine Ci.mk (by decide) (Nat.le_of_ble_eq_true rfl) ?_
  intro p e s m below meth c A ls go hw hl
  generalize s.heap = H at hw ⊢
  generalize ([] : List Loc) = locs at hw ⊢
  have hx := go.1
  have hb := go.2.1
  have hl : lv_has ls 2 [(0, .ref (h 0)), (1, .int a)] := hl
  refine lv_iload_n hx hb dX4_abort_0 rfl (lv_at hl 1 rfl) ?_
  refine cal_S (kX4_isDeal l G a) go hw.2.2.1 hw.2.2.2.1 dX4_abort_1 (And.intro q777 (And.intro q4 q779)) q778 kyX4_isDeal ⟨rfl, rfl⟩ ⟨Nat.le_of_ble_eq_true rfl, Nat.le_of_ble_eq_true rfl⟩ hl.1 rfl (Nat.le_of_ble_eq_true rfl) ⟨Nat.le_of_ble_eq_true rfl, Nat.le_of_ble_eq_true rfl⟩ ?_
  refine lv_if_ne (tgt := 10) hx hb dX4_abort_4 (by decide) (fun h4 => ?_) (fun h4 => ?_)
  · skip
    have h4 := bI_1 h4
    obtain ⟨d, hd, rfl⟩ := inB_of (n := 6) h4 rfl (by decide)
    have cd : (nI d).toNatClampNeg = d := nI_clamp (by omega)
    refine lv_aload_n hx hb dX4_abort_10 rfl (lv_at hl 0 rfl) ?_
    refine gM (k := 4) (v := .ref (h 5)) rfl (by decide) rfl go hw dX4_abort_11 q594 ?_
    refine lv_iload_n hx hb dX4_abort_14 rfl (lv_at hl 1 rfl) ?_
    refine aM (k := 4) (j := d) rfl (by decide) (by exact hd) go hw dX4_abort_15 ?_
    refine lv_iconst (v := 1) hx hb dX4_abort_16 (by decide) ?_
    refine lv_icmp_eq (tgt := 33) hx hb dX4_abort_17 (by decide) (fun h17 => ?_) (fun h17 => ?_)
    · skip
      refine lv_aload_n hx hb dX4_abort_33 rfl (lv_at hl 0 rfl) ?_
      refine lv_iload_n hx hb dX4_abort_34 rfl (lv_at hl 1 rfl) ?_
      refine lv_iconst (v := 0) hx hb dX4_abort_35 (by decide) ?_
      refine cal_Vv' (kX4_fails l G h x d (by omega) 0) go hw dX4_abort_36 (And.intro q850 (And.intro q4 q853)) q852 qs42 kyX4_fails ⟨Nat.le_of_ble_eq_true rfl, Nat.le_of_ble_eq_true rfl⟩ rc_M hl.1 rfl (Nat.le_of_ble_eq_true rfl) ⟨rfl, rfl⟩ ⟨Nat.le_of_ble_eq_true rfl, Nat.le_of_ble_eq_true rfl⟩ (fun H locs hw => ?_)
      refine lv_aload_n hx hb dX4_abort_39 rfl (lv_at hl 0 rfl) ?_
      refine lv_iconst (v := 1) hx hb dX4_abort_40 (by decide) ?_
      refine cal_Vi' (kX4_inState l G h (faR x d 0) 1) go hw dX4_abort_41 (And.intro q753 (And.intro q4 q756)) q755 qs31 kyX4_inState ⟨Nat.le_of_ble_eq_true rfl, Nat.le_of_ble_eq_true rfl⟩ rc_M hl.1 rfl (Nat.le_of_ble_eq_true rfl) ⟨rfl, rfl⟩ ⟨Nat.le_of_ble_eq_true rfl, Nat.le_of_ble_eq_true rfl⟩ (fun H locs hw => ?_)
      refine ret_i (wf := rw' G h) go hw dX4_abort_44 ?_
      exact ⟨by simp [abR, *], by simp [abR, *]⟩
    · skip
      refine lv_aload_n hx hb dX4_abort_20 rfl (lv_at hl 0 rfl) ?_
      refine gM (k := 4) (v := .ref (h 5)) rfl (by decide) rfl go hw dX4_abort_21 q594 ?_
      refine lv_iload_n hx hb dX4_abort_24 rfl (lv_at hl 1 rfl) ?_
      refine aM (k := 4) (j := d) rfl (by decide) (by exact hd) go hw dX4_abort_25 ?_
      refine lv_iconst (v := 2) hx hb dX4_abort_26 (by decide) ?_
      refine lv_icmp_eq (tgt := 33) hx hb dX4_abort_27 (by decide) (fun h27 => ?_) (fun h27 => ?_)
      · skip
        refine lv_aload_n hx hb dX4_abort_33 rfl (lv_at hl 0 rfl) ?_
        refine lv_iload_n hx hb dX4_abort_34 rfl (lv_at hl 1 rfl) ?_
        refine lv_iconst (v := 0) hx hb dX4_abort_35 (by decide) ?_
        refine cal_Vv' (kX4_fails l G h x d (by omega) 0) go hw dX4_abort_36 (And.intro q850 (And.intro q4 q853)) q852 qs42 kyX4_fails ⟨Nat.le_of_ble_eq_true rfl, Nat.le_of_ble_eq_true rfl⟩ rc_M hl.1 rfl (Nat.le_of_ble_eq_true rfl) ⟨rfl, rfl⟩ ⟨Nat.le_of_ble_eq_true rfl, Nat.le_of_ble_eq_true rfl⟩ (fun H locs hw => ?_)
        refine lv_aload_n hx hb dX4_abort_39 rfl (lv_at hl 0 rfl) ?_
        refine lv_iconst (v := 1) hx hb dX4_abort_40 (by decide) ?_
        refine cal_Vi' (kX4_inState l G h (faR x d 0) 1) go hw dX4_abort_41 (And.intro q753 (And.intro q4 q756)) q755 qs31 kyX4_inState ⟨Nat.le_of_ble_eq_true rfl, Nat.le_of_ble_eq_true rfl⟩ rc_M hl.1 rfl (Nat.le_of_ble_eq_true rfl) ⟨rfl, rfl⟩ ⟨Nat.le_of_ble_eq_true rfl, Nat.le_of_ble_eq_true rfl⟩ (fun H locs hw => ?_)
        refine ret_i (wf := rw' G h) go hw dX4_abort_44 ?_
        exact ⟨by simp [abR, *], by simp [abR, *]⟩
      · skip
        refine lv_bipush (v := (-4)) hx hb dX4_abort_30 (by decide) ?_
        refine ret_i (wf := rw' G h) go hw dX4_abort_32 ?_
        exact ⟨by simp [abR, *], by simp [abR, *]⟩
  · skip
    have h4 := bI_0 h4
    refine lv_bipush (v := (-2)) hx hb dX4_abort_7 (by decide) ?_
    refine ret_i (wf := rw' G h) go hw dX4_abort_9 ?_
    exact ⟨by simp [abR, *], by simp [abR, *]⟩

set_option maxHeartbeats 4000000 in
set_option maxRecDepth 100000 in
theorem kX4_sweep (l : Launch) (G : Cx) (h : Nat → Nat) (x : Rg) : Ci l G yX4_sweep cX4_sweep 3 .int (Rm 2 44) (rw' G h) [.ref (h 0)] x (fun r u => r = nI (swR x 6).2 ∧ u = (swR x 6).1) := by
  refine Ci.mk (by decide) (Nat.le_of_ble_eq_true rfl) ?_
  intro p e s m below meth c A ls go hw hl
  generalize s.heap = H at hw ⊢
  generalize ([] : List Loc) = locs at hw ⊢
  have hx := go.1
  have hb := go.2.1
  have hl : lv_has ls 3 [(0, .ref (h 0))] := hl
  refine lv_iconst (v := 0) hx hb dX4_sweep_0 (by decide) ?_
  refine lv_istore_n (lv' := [(1, .int 0), (0, .ref (h 0))]) hx hb dX4_sweep_1 rfl hl (by decide) rfl (fun ls hl => ?_)
  refine lv_iconst (v := 0) hx hb dX4_sweep_2 (by decide) ?_
  refine lv_istore_n (lv' := [(2, .int 0), (1, .int 0), (0, .ref (h 0))]) hx hb dX4_sweep_3 rfl hl (by decide) rfl (fun ls hl => ?_)
  rw [show x = (swR x 0).1 from by rfl] at hw
  have hl0 : lv_has ls 3 [(0, .ref (h 0)), (1, .int (nI (swR x 0).2)), (2, .int (nI 0))] := lv_to (lv_sub (l' := [(0, .ref (h 0)), (1, .int 0), (2, .int 0)]) hl [2, 1, 0] rfl) (lr (lc (show (0 : Int32) = nI (swR x 0).2 from rfl) (lc (show (0 : Int32) = nI 0 from rfl) rfl)))
  refine loop_up (N := 6) (P := fun i H locs ls => Wd G A s H locs (rw' G h ((swR x i).1)) ∧ lv_has ls 3 [(0, .ref (h 0)), (1, .int (nI (swR x i).2)), (2, .int (nI i))]) (X := fun H locs ls => W p l e (Rm 2 44) s m ([.ref (h 0)] : List Value).toArray below meth c H locs 0 0 (MQ below (va_Qi (fun r u => r = nI (swR x 6).2 ∧ u = (swR x 6).1) (PostW G (rw' G h) A) A) ([.ref (h 0)] : List Value).toArray s (Rm 2 44).cells (Rm 2 44).slots A) (F0 m 4 ls [])) ?_ 0 (by omega) H locs ls ⟨hw, hl0⟩
  clear hl0 hl hw
  intro i hi ih H locs ls hP
  obtain ⟨hw, hl⟩ := hP
  refine lv_iload_n hx hb dX4_sweep_4 rfl (lv_at hl 2 rfl) ?_
  refine lv_bipush (v := 6) hx hb dX4_sweep_5 (by decide) ?_
  refine lv_icmp_ge (tgt := 43) hx hb dX4_sweep_7 (by decide) (fun h7 => ?_) (fun h7 => ?_)
  · skip
    have hE : i = 6 := lp_end h7 rfl rfl hi (by decide)
    subst hE
    refine lv_iload_n hx hb dX4_sweep_43 rfl (lv_at hl 1 rfl) ?_
    refine ret_i (wf := rw' G h) go hw dX4_sweep_44 ?_
    exact ⟨rfl, rfl⟩
  · skip
    have hlt : i < 6 := lp_in h7 rfl rfl hi (by decide)
    refine lv_aload_n hx hb dX4_sweep_10 rfl (lv_at hl 0 rfl) ?_
    refine gM (k := 4) (v := .ref (h 5)) rfl (by decide) rfl go hw dX4_sweep_11 q594 ?_
    refine lv_iload_n hx hb dX4_sweep_14 rfl (lv_at hl 2 rfl) ?_
    refine aM (k := 4) (j := i) rfl (by decide) (by exact hlt) go hw dX4_sweep_15 ?_
    refine lv_iconst (v := 1) hx hb dX4_sweep_16 (by decide) ?_
    refine lv_icmp_ne (tgt := 37) hx hb dX4_sweep_17 (by decide) (fun h17 => ?_) (fun h17 => ?_)
    · skip
      refine lv_iinc (v := nI (i + 1)) (lv' := [(2, .int (nI (i + 1))), (0, .ref (h 0)), (1, .int (nI (swR x i).2))]) hx hb dX4_sweep_37 hl (k := 2) rfl (nI_1 _) (by decide) rfl (fun ls hl => ?_)
      refine lv_goto (tgt := 4) hx hb dX4_sweep_40 (by decide) ?_
      have hl9 : lv_has ls 3 [(0, .ref (h 0)), (1, .int (nI (swR x (i + 1)).2)), (2, .int (nI (i + 1)))] := lv_to (lv_sub (l' := [(0, .ref (h 0)), (1, .int (nI (swR x i).2)), (2, .int (nI (i + 1)))]) hl [1, 2, 0] rfl) (lr (lc (show (nI (swR x i).2 : Int32) = nI (swR x (i + 1)).2 from by first | (simp [swR, *]; done) | (rw [nI_1]; simp [swR, *]; done)) (lr rfl)))
      rw [show (swR x i).1 = (swR x (i + 1)).1 from by simp [swR, *]] at hw
      exact ih _ _ _ (by omega) ⟨hw, hl9⟩
    · skip
      refine lv_aload_n hx hb dX4_sweep_20 rfl (lv_at hl 0 rfl) ?_
      refine lv_iload_n hx hb dX4_sweep_21 rfl (lv_at hl 2 rfl) ?_
      refine cal_Vi' (kX4_stale l G h ((swR x i).1) i (by omega)) go hw dX4_sweep_22 (And.intro q830 (And.intro q4 q833)) q832 qs37 kyX4_stale ⟨Nat.le_of_ble_eq_true rfl, Nat.le_of_ble_eq_true rfl⟩ rc_M hl.1 rfl (Nat.le_of_ble_eq_true rfl) ⟨rfl, rfl⟩ ⟨Nat.le_of_ble_eq_true rfl, Nat.le_of_ble_eq_true rfl⟩ (fun H locs hw => ?_)
      refine lv_if_eq (tgt := 37) hx hb dX4_sweep_25 (by decide) (fun h25 => ?_) (fun h25 => ?_)
      · skip
        refine lv_iinc (v := nI (i + 1)) (lv' := [(2, .int (nI (i + 1))), (0, .ref (h 0)), (1, .int (nI (swR x i).2))]) hx hb dX4_sweep_37 hl (k := 2) rfl (nI_1 _) (by decide) rfl (fun ls hl => ?_)
        refine lv_goto (tgt := 4) hx hb dX4_sweep_40 (by decide) ?_
        have hl9 : lv_has ls 3 [(0, .ref (h 0)), (1, .int (nI (swR x (i + 1)).2)), (2, .int (nI (i + 1)))] := lv_to (lv_sub (l' := [(0, .ref (h 0)), (1, .int (nI (swR x i).2)), (2, .int (nI (i + 1)))]) hl [1, 2, 0] rfl) (lr (lc (show (nI (swR x i).2 : Int32) = nI (swR x (i + 1)).2 from by first | (simp [swR, *]; done) | (rw [nI_1]; simp [swR, *]; done)) (lr rfl)))
        rw [show (swR x i).1 = (swR x (i + 1)).1 from by simp [swR, *]] at hw
        exact ih _ _ _ (by omega) ⟨hw, hl9⟩
      · skip
        refine lv_aload_n hx hb dX4_sweep_28 rfl (lv_at hl 0 rfl) ?_
        refine lv_iload_n hx hb dX4_sweep_29 rfl (lv_at hl 2 rfl) ?_
        refine lv_iconst (v := 0) hx hb dX4_sweep_30 (by decide) ?_
        refine cal_Vv' (kX4_fails l G h ((swR x i).1) i (by omega) 0) go hw dX4_sweep_31 (And.intro q850 (And.intro q4 q853)) q852 qs42 kyX4_fails ⟨Nat.le_of_ble_eq_true rfl, Nat.le_of_ble_eq_true rfl⟩ rc_M hl.1 rfl (Nat.le_of_ble_eq_true rfl) ⟨rfl, rfl⟩ ⟨Nat.le_of_ble_eq_true rfl, Nat.le_of_ble_eq_true rfl⟩ (fun H locs hw => ?_)
        refine lv_iinc (v := nI (swR x i).2 + 1) (lv' := [(1, .int (nI (swR x i).2 + 1)), (0, .ref (h 0)), (2, .int (nI i))]) hx hb dX4_sweep_34 hl (k := 1) rfl rfl (by decide) rfl (fun ls hl => ?_)
        refine lv_iinc (v := nI (i + 1)) (lv' := [(2, .int (nI (i + 1))), (1, .int (nI (swR x i).2 + 1)), (0, .ref (h 0))]) hx hb dX4_sweep_37 hl (k := 2) rfl (nI_1 _) (by decide) rfl (fun ls hl => ?_)
        refine lv_goto (tgt := 4) hx hb dX4_sweep_40 (by decide) ?_
        have hl9 : lv_has ls 3 [(0, .ref (h 0)), (1, .int (nI (swR x (i + 1)).2)), (2, .int (nI (i + 1)))] := lv_to (lv_sub (l' := [(0, .ref (h 0)), (1, .int (nI (swR x i).2 + 1)), (2, .int (nI (i + 1)))]) hl [2, 1, 0] rfl) (lr (lc (show (nI (swR x i).2 + 1 : Int32) = nI (swR x (i + 1)).2 from by first | (simp [swR, *]; done) | (rw [nI_1]; simp [swR, *]; done)) (lr rfl)))
        rw [show faR ((swR x i).1) i 0 = (swR x (i + 1)).1 from by simp [swR, *]] at hw
        exact ih _ _ _ (by omega) ⟨hw, hl9⟩

set_option maxHeartbeats 4000000 in
set_option maxRecDepth 100000 in
theorem kX4_send (l : Launch) (G : Cx) (h : Nat → Nat) (x : Rg) (a : Int32) : Ci l G yX4_send cX4_send 2 .int (Rm 2 45) (rw' G h) [.ref (h 0), .int a] x (fun r u => r = (snR x a).1 ∧ u = (snR x a).2) := by
  refine Ci.mk (by decide) (Nat.le_of_ble_eq_true rfl) ?_
  intro p e s m below meth c A ls go hw hl
  generalize s.heap = H at hw ⊢
  generalize ([] : List Loc) = locs at hw ⊢
  have hx := go.1
  have hb := go.2.1
  have hl : lv_has ls 2 [(0, .ref (h 0)), (1, .int a)] := hl
  refine lv_iload_n hx hb dX4_send_0 rfl (lv_at hl 1 rfl) ?_
  refine cal_S (kX4_isDeal l G a) go hw.2.2.1 hw.2.2.2.1 dX4_send_1 (And.intro q777 (And.intro q4 q779)) q778 kyX4_isDeal ⟨rfl, rfl⟩ ⟨Nat.le_of_ble_eq_true rfl, Nat.le_of_ble_eq_true rfl⟩ hl.1 rfl (Nat.le_of_ble_eq_true rfl) ⟨Nat.le_of_ble_eq_true rfl, Nat.le_of_ble_eq_true rfl⟩ ?_
  refine lv_if_ne (tgt := 10) hx hb dX4_send_4 (by decide) (fun h4 => ?_) (fun h4 => ?_)
  · skip
    have h4 := bI_1 h4
    obtain ⟨d, hd, rfl⟩ := inB_of (n := 6) h4 rfl (by decide)
    have cd : (nI d).toNatClampNeg = d := nI_clamp (by omega)
    refine lv_aload_n hx hb dX4_send_10 rfl (lv_at hl 0 rfl) ?_
    refine gM (k := 4) (v := .ref (h 5)) rfl (by decide) rfl go hw dX4_send_11 q594 ?_
    refine lv_iload_n hx hb dX4_send_14 rfl (lv_at hl 1 rfl) ?_
    refine aM (k := 4) (j := d) rfl (by decide) (by exact hd) go hw dX4_send_15 ?_
    refine lv_iconst (v := 1) hx hb dX4_send_16 (by decide) ?_
    refine lv_icmp_eq (tgt := 23) hx hb dX4_send_17 (by decide) (fun h17 => ?_) (fun h17 => ?_)
    · skip
      refine lv_aload_n hx hb dX4_send_23 rfl (lv_at hl 0 rfl) ?_
      refine gM (k := 4) (v := .ref (h 5)) rfl (by decide) rfl go hw dX4_send_24 q594 ?_
      refine lv_iload_n hx hb dX4_send_27 rfl (lv_at hl 1 rfl) ?_
      refine lv_iconst (v := 3) hx hb dX4_send_28 (by decide) ?_
      refine sM (k := 4) (j := d) rfl (by decide) (by exact hd) go hw dX4_send_29 (fun H locs hw => ?_)
      refine lv_aload_n hx hb dX4_send_30 rfl (lv_at hl 0 rfl) ?_
      refine lv_dup hx hb dX4_send_31 rfl ?_
      refine gMi (k := 17) (v := rI x 17) (by decide) ((rI_qA _ _ _ _).trans rfl) go hw dX4_send_32 q607 ?_
      refine lv_iconst (v := 1) hx hb dX4_send_35 (by decide) ?_
      refine lv_iadd hx hb dX4_send_36 ?_
      refine pM (k := 17) rfl go hw dX4_send_37 q607 (fun H locs hw => ?_)
      refine lv_aload_n hx hb dX4_send_40 rfl (lv_at hl 0 rfl) ?_
      refine gM (k := 14) (v := .ref (h 15)) rfl (by decide) rfl go hw dX4_send_41 q604 ?_
      refine lv_iload_n hx hb dX4_send_44 rfl (lv_at hl 1 rfl) ?_
      refine lv_aload_n hx hb dX4_send_45 rfl (lv_at hl 0 rfl) ?_
      refine gMi (k := 17) (v := (rI x 17) + 1) (by decide) rI_eq go hw dX4_send_46 q607 ?_
      refine sM (k := 14) (j := d) rfl (by decide) (by exact hd) go hw dX4_send_49 (fun H locs hw => ?_)
      rw [show rA (qI (qA x 4 (upd (rA x 4) d 3)) 17 ((rI x 17) + 1)) 14 = rA x 14 from ((rA_qI _ _ _ _).trans ((rA_ne (by decide)).trans rfl))] at hw
      refine lv_aload_n hx hb dX4_send_50 rfl (lv_at hl 0 rfl) ?_
      refine gM (k := 15) (v := .ref (h 16)) rfl (by decide) rfl go hw dX4_send_51 q605 ?_
      refine lv_iload_n hx hb dX4_send_54 rfl (lv_at hl 1 rfl) ?_
      refine lv_iconst (v := 0) hx hb dX4_send_55 (by decide) ?_
      refine sM (k := 15) (j := d) rfl (by decide) (by show d < 12; omega) go hw dX4_send_56 (fun H locs hw => ?_)
      rw [show rA (qA (qI (qA x 4 (upd (rA x 4) d 3)) 17 ((rI x 17) + 1)) 14 (upd (rA x 14) d ((rI x 17) + 1))) 15 = rA x 15 from ((rA_ne (by decide)).trans ((rA_qI _ _ _ _).trans ((rA_ne (by decide)).trans rfl)))] at hw
      refine lv_aload_n hx hb dX4_send_57 rfl (lv_at hl 0 rfl) ?_
      refine gM (k := 15) (v := .ref (h 16)) rfl (by decide) rfl go hw dX4_send_58 q605 ?_
      refine lv_bipush (v := 6) hx hb dX4_send_61 (by decide) ?_
      refine lv_iload_n hx hb dX4_send_63 rfl (lv_at hl 1 rfl) ?_
      refine lv_iadd hx hb dX4_send_64 ?_
      refine lv_iconst (v := 0) hx hb dX4_send_65 (by decide) ?_
      refine toI2 (show (6 + (nI d) : Int32) = nI (6 + d) from by rw [show (6 : Int32) = nI 6 from rfl, nI_add]) ?_
      refine sM (k := 15) (j := (6 + d)) rfl (by decide) (by show 6 + d < 12; omega) go hw dX4_send_66 (fun H locs hw => ?_)
      rw [show rA (qA (qA (qI (qA x 4 (upd (rA x 4) d 3)) 17 ((rI x 17) + 1)) 14 (upd (rA x 14) d ((rI x 17) + 1))) 15 (upd (rA x 15) d 0)) 15 = upd (rA x 15) d 0 from rA_eq] at hw
      refine lv_aload_n hx hb dX4_send_67 rfl (lv_at hl 0 rfl) ?_
      refine gMi (k := 17) (v := (rI x 17) + 1) (by decide) ((rI_qA _ _ _ _).trans ((rI_qA _ _ _ _).trans ((rI_qA _ _ _ _).trans rI_eq))) go hw dX4_send_68 q607 ?_
      refine ret_i (wf := rw' G h) go hw dX4_send_71 ?_
      exact ⟨by simp [snR, *], by simp [snR, snY, *]⟩
    · skip
      refine lv_bipush (v := (-4)) hx hb dX4_send_20 (by decide) ?_
      refine ret_i (wf := rw' G h) go hw dX4_send_22 ?_
      exact ⟨by simp [snR, *], by simp [snR, snY, *]⟩
  · skip
    have h4 := bI_0 h4
    refine lv_bipush (v := (-2)) hx hb dX4_send_7 (by decide) ?_
    refine ret_i (wf := rw' G h) go hw dX4_send_9 ?_
    exact ⟨by simp [snR, *], by simp [snR, snY, *]⟩

set_option maxHeartbeats 4000000 in
set_option maxRecDepth 100000 in
theorem kX4_firstSentN (l : Launch) (G : Cx) (h : Nat → Nat) (x : Rg) : Ci l G yX4_firstSent cX4_firstSent 5 .int (Rm 0 0) (rw' G h) [.ref (h 0), .int (-1)] x (fun r u => r = fnR x ∧ u = x) := by
  refine Ci.mk (by decide) (Nat.le_of_ble_eq_true rfl) ?_
  intro p e s m below meth c A ls go hw hl
  generalize s.heap = H at hw ⊢
  generalize ([] : List Loc) = locs at hw ⊢
  have hx := go.1
  have hb := go.2.1
  have hl : lv_has ls 5 [(0, .ref (h 0)), (1, .int (-1))] := hl
  refine lv_iconst (v := (-1)) hx hb dX4_firstSent_0 (by decide) ?_
  refine lv_istore_n (lv' := [(2, .int (-1)), (0, .ref (h 0)), (1, .int (-1))]) hx hb dX4_firstSent_1 rfl hl (by decide) rfl (fun ls hl => ?_)
  refine lv_iconst (v := 0) hx hb dX4_firstSent_2 (by decide) ?_
  refine lv_istore_n (lv' := [(3, .int 0), (2, .int (-1)), (0, .ref (h 0)), (1, .int (-1))]) hx hb dX4_firstSent_3 rfl hl (by decide) rfl (fun ls hl => ?_)
  have hl0 : lv_has ls 5 [(0, .ref (h 0)), (1, .int (-1)), (2, .int (amR x (fun d => decide (rA x 4 d = 3)) 0)), (3, .int (nI 0))] := lv_to (lv_sub (l' := [(0, .ref (h 0)), (1, .int (-1)), (2, .int (-1)), (3, .int 0)]) hl [2, 3, 1, 0] rfl) (lr (lr (lc (show ((-1) : Int32) = amR x (fun d => decide (rA x 4 d = 3)) 0 from rfl) (lc (show (0 : Int32) = nI 0 from rfl) rfl))))
  refine loop_up (N := 6) (P := fun i H locs ls => Wd G A s H locs (rw' G h x) ∧ lv_has ls 5 [(0, .ref (h 0)), (1, .int (-1)), (2, .int (amR x (fun d => decide (rA x 4 d = 3)) i)), (3, .int (nI i))]) (X := fun H locs ls => W p l e (Rm 0 0) s m ([.ref (h 0), .int (-1)] : List Value).toArray below meth c H locs 0 0 (MQ below (va_Qi (fun r u => r = fnR x ∧ u = x) (PostW G (rw' G h) A) A) ([.ref (h 0), .int (-1)] : List Value).toArray s (Rm 0 0).cells (Rm 0 0).slots A) (F0 m 4 ls [])) ?_ 0 (by omega) H locs ls ⟨hw, hl0⟩
  clear hl0 hl hw
  intro i hi ih H locs ls hP
  obtain ⟨hw, hl⟩ := hP
  refine lv_iload_n hx hb dX4_firstSent_4 rfl (lv_at hl 3 rfl) ?_
  refine lv_bipush (v := 6) hx hb dX4_firstSent_5 (by decide) ?_
  refine lv_icmp_ge (tgt := 83) hx hb dX4_firstSent_7 (by decide) (fun h7 => ?_) (fun h7 => ?_)
  · skip
    have hE : i = 6 := lp_end h7 rfl rfl hi (by decide)
    subst hE
    refine lv_iload_n hx hb dX4_firstSent_83 rfl (lv_at hl 2 rfl) ?_
    refine ret_i (wf := rw' G h) go hw dX4_firstSent_84 ?_
    exact ⟨rfl, rfl⟩
  · skip
    have hlt : i < 6 := lp_in h7 rfl rfl hi (by decide)
    refine lv_aload_n hx hb dX4_firstSent_10 rfl (lv_at hl 0 rfl) ?_
    refine gM (k := 4) (v := .ref (h 5)) rfl (by decide) rfl go hw dX4_firstSent_11 q594 ?_
    refine lv_iload_n hx hb dX4_firstSent_14 rfl (lv_at hl 3 rfl) ?_
    refine aM (k := 4) (j := i) rfl (by decide) (by exact hlt) go hw dX4_firstSent_15 ?_
    refine lv_iconst (v := 3) hx hb dX4_firstSent_16 (by decide) ?_
    refine lv_icmp_ne (tgt := 43) hx hb dX4_firstSent_17 (by decide) (fun h17 => ?_) (fun h17 => ?_)
    · skip
      refine lv_iconst (v := 0) hx hb dX4_firstSent_43 (by decide) ?_
      refine toI (show 0 = bI (decide (rA x 4 i = 3)) from by simp [bI, *]) ?_
      refine lv_istore (lv' := [(4, .int (bI (decide (rA x 4 i = 3)))), (0, .ref (h 0)), (1, .int (-1)), (2, .int (amR x (fun d => decide (rA x 4 d = 3)) i)), (3, .int (nI i))]) hx hb dX4_firstSent_44 hl (by decide) rfl (fun ls hl => ?_)
      refine lv_iload hx hb dX4_firstSent_46 (lv_at hl 0 rfl) ?_
      refine lv_if_eq (tgt := 75) hx hb dX4_firstSent_48 (by decide) (fun h48 => ?_) (fun h48 => ?_)
      · skip
        have h48 := bI_0 h48
        refine lv_iload_n hx hb dX4_firstSent_75 rfl (lv_at hl 3 rfl) ?_
        refine lv_istore_n (lv' := [(2, .int (amR x (fun d => decide (rA x 4 d = 3)) i)), (4, .int (bI (decide (rA x 4 i = 3)))), (0, .ref (h 0)), (1, .int (-1)), (3, .int (nI i))]) hx hb dX4_firstSent_76 rfl hl (by decide) rfl (fun ls hl => ?_)
        refine lv_iinc (v := nI (i + 1)) (lv' := [(3, .int (nI (i + 1))), (2, .int (amR x (fun d => decide (rA x 4 d = 3)) i)), (4, .int (bI (decide (rA x 4 i = 3)))), (0, .ref (h 0)), (1, .int (-1))]) hx hb dX4_firstSent_77 hl (k := 4) rfl (nI_1 _) (by decide) rfl (fun ls hl => ?_)
        refine lv_goto (tgt := 4) hx hb dX4_firstSent_80 (by decide) ?_
        have hl9 : lv_has ls 5 [(0, .ref (h 0)), (1, .int (-1)), (2, .int (amR x (fun d => decide (rA x 4 d = 3)) (i + 1))), (3, .int (nI (i + 1)))] := lv_to (lv_sub (l' := [(0, .ref (h 0)), (1, .int (-1)), (2, .int (amR x (fun d => decide (rA x 4 d = 3)) i)), (3, .int (nI (i + 1)))]) hl [3, 4, 1, 0] rfl) (lr (lr (lc (show (amR x (fun d => decide (rA x 4 d = 3)) i : Int32) = amR x (fun d => decide (rA x 4 d = 3)) (i + 1) from by first | exact amR_a h48 h53 | exact amR_b h48 h68 | exact amR_c h53 h68 | exact amR_d h48) (lr rfl))))
        exact ih _ _ _ (by omega) ⟨hw, hl9⟩
      · skip
        have h48 := bI_1 h48
        refine lv_iload_n hx hb dX4_firstSent_51 rfl (lv_at hl 3 rfl) ?_
        refine lv_iconst (v := (-1)) hx hb dX4_firstSent_52 (by decide) ?_
        refine lv_icmp_eq (tgt := 71) hx hb dX4_firstSent_53 (by decide) (fun h53 => ?_) (fun h53 => ?_)
        · skip
          refine lv_iload_n hx hb dX4_firstSent_71 rfl (lv_at hl 4 rfl) ?_
          refine lv_goto (tgt := 76) hx hb dX4_firstSent_72 (by decide) ?_
          refine lv_istore_n (lv' := [(2, .int (nI i)), (4, .int (bI (decide (rA x 4 i = 3)))), (0, .ref (h 0)), (1, .int (-1)), (3, .int (nI i))]) hx hb dX4_firstSent_76 rfl hl (by decide) rfl (fun ls hl => ?_)
          refine lv_iinc (v := nI (i + 1)) (lv' := [(3, .int (nI (i + 1))), (2, .int (nI i)), (4, .int (bI (decide (rA x 4 i = 3)))), (0, .ref (h 0)), (1, .int (-1))]) hx hb dX4_firstSent_77 hl (k := 4) rfl (nI_1 _) (by decide) rfl (fun ls hl => ?_)
          refine lv_goto (tgt := 4) hx hb dX4_firstSent_80 (by decide) ?_
          have hl9 : lv_has ls 5 [(0, .ref (h 0)), (1, .int (-1)), (2, .int (amR x (fun d => decide (rA x 4 d = 3)) (i + 1))), (3, .int (nI (i + 1)))] := lv_to (lv_sub (l' := [(0, .ref (h 0)), (1, .int (-1)), (2, .int (nI i)), (3, .int (nI (i + 1)))]) hl [3, 4, 1, 0] rfl) (lr (lr (lc (show (nI i : Int32) = amR x (fun d => decide (rA x 4 d = 3)) (i + 1) from by first | exact amR_a h48 h53 | exact amR_b h48 h68 | exact amR_c h53 h68 | exact amR_d h48) (lr rfl))))
          exact ih _ _ _ (by omega) ⟨hw, hl9⟩
        · skip
          refine lv_aload_n hx hb dX4_firstSent_56 rfl (lv_at hl 1 rfl) ?_
          refine gM (k := 14) (v := .ref (h 15)) rfl (by decide) rfl go hw dX4_firstSent_57 q604 ?_
          refine lv_iload_n hx hb dX4_firstSent_60 rfl (lv_at hl 4 rfl) ?_
          refine aM (k := 14) (j := i) rfl (by decide) (by exact hlt) go hw dX4_firstSent_61 ?_
          refine lv_aload_n hx hb dX4_firstSent_62 rfl (lv_at hl 1 rfl) ?_
          refine gM (k := 14) (v := .ref (h 15)) rfl (by decide) rfl go hw dX4_firstSent_63 q604 ?_
          refine lv_iload_n hx hb dX4_firstSent_66 rfl (lv_at hl 3 rfl) ?_
          refine toI (show (amR x (fun d => decide (rA x 4 d = 3)) i : Int32) = nI ((amR x (fun d => decide (rA x 4 d = 3)) i).toNatClampNeg) from by exact (amR_cl (by omega) h53).1) ?_
          refine aM (k := 14) (j := ((amR x (fun d => decide (rA x 4 d = 3)) i).toNatClampNeg)) rfl (by decide) (by show (amR x (fun d => decide (rA x 4 d = 3)) i).toNatClampNeg < 6; have := (amR_cl (by omega) h53).2; omega) go hw dX4_firstSent_67 ?_
          refine lv_icmp_ge (tgt := 75) hx hb dX4_firstSent_68 (by decide) (fun h68 => ?_) (fun h68 => ?_)
          · skip
            refine lv_iload_n hx hb dX4_firstSent_75 rfl (lv_at hl 3 rfl) ?_
            refine lv_istore_n (lv' := [(2, .int (amR x (fun d => decide (rA x 4 d = 3)) i)), (4, .int (bI (decide (rA x 4 i = 3)))), (0, .ref (h 0)), (1, .int (-1)), (3, .int (nI i))]) hx hb dX4_firstSent_76 rfl hl (by decide) rfl (fun ls hl => ?_)
            refine lv_iinc (v := nI (i + 1)) (lv' := [(3, .int (nI (i + 1))), (2, .int (amR x (fun d => decide (rA x 4 d = 3)) i)), (4, .int (bI (decide (rA x 4 i = 3)))), (0, .ref (h 0)), (1, .int (-1))]) hx hb dX4_firstSent_77 hl (k := 4) rfl (nI_1 _) (by decide) rfl (fun ls hl => ?_)
            refine lv_goto (tgt := 4) hx hb dX4_firstSent_80 (by decide) ?_
            have hl9 : lv_has ls 5 [(0, .ref (h 0)), (1, .int (-1)), (2, .int (amR x (fun d => decide (rA x 4 d = 3)) (i + 1))), (3, .int (nI (i + 1)))] := lv_to (lv_sub (l' := [(0, .ref (h 0)), (1, .int (-1)), (2, .int (amR x (fun d => decide (rA x 4 d = 3)) i)), (3, .int (nI (i + 1)))]) hl [3, 4, 1, 0] rfl) (lr (lr (lc (show (amR x (fun d => decide (rA x 4 d = 3)) i : Int32) = amR x (fun d => decide (rA x 4 d = 3)) (i + 1) from by first | exact amR_a h48 h53 | exact amR_b h48 h68 | exact amR_c h53 h68 | exact amR_d h48) (lr rfl))))
            exact ih _ _ _ (by omega) ⟨hw, hl9⟩
          · skip
            refine lv_iload_n hx hb dX4_firstSent_71 rfl (lv_at hl 4 rfl) ?_
            refine lv_goto (tgt := 76) hx hb dX4_firstSent_72 (by decide) ?_
            refine lv_istore_n (lv' := [(2, .int (nI i)), (4, .int (bI (decide (rA x 4 i = 3)))), (0, .ref (h 0)), (1, .int (-1)), (3, .int (nI i))]) hx hb dX4_firstSent_76 rfl hl (by decide) rfl (fun ls hl => ?_)
            refine lv_iinc (v := nI (i + 1)) (lv' := [(3, .int (nI (i + 1))), (2, .int (nI i)), (4, .int (bI (decide (rA x 4 i = 3)))), (0, .ref (h 0)), (1, .int (-1))]) hx hb dX4_firstSent_77 hl (k := 4) rfl (nI_1 _) (by decide) rfl (fun ls hl => ?_)
            refine lv_goto (tgt := 4) hx hb dX4_firstSent_80 (by decide) ?_
            have hl9 : lv_has ls 5 [(0, .ref (h 0)), (1, .int (-1)), (2, .int (amR x (fun d => decide (rA x 4 d = 3)) (i + 1))), (3, .int (nI (i + 1)))] := lv_to (lv_sub (l' := [(0, .ref (h 0)), (1, .int (-1)), (2, .int (nI i)), (3, .int (nI (i + 1)))]) hl [3, 4, 1, 0] rfl) (lr (lr (lc (show (nI i : Int32) = amR x (fun d => decide (rA x 4 d = 3)) (i + 1) from by first | exact amR_a h48 h53 | exact amR_b h48 h68 | exact amR_c h53 h68 | exact amR_d h48) (lr rfl))))
            exact ih _ _ _ (by omega) ⟨hw, hl9⟩
    · skip
      refine lv_iload_n hx hb dX4_firstSent_20 rfl (lv_at hl 1 rfl) ?_
      refine lv_iconst (v := (-1)) hx hb dX4_firstSent_21 (by decide) ?_
      refine lv_icmp_eq (tgt := 39) hx hb dX4_firstSent_22 (by decide) (fun _ => ?_) (fun q => absurd q (by decide))
      refine lv_iconst (v := 1) hx hb dX4_firstSent_39 (by decide) ?_
      refine lv_goto (tgt := 44) hx hb dX4_firstSent_40 (by decide) ?_
      refine toI (show 1 = bI (decide (rA x 4 i = 3)) from by simp [bI, *]) ?_
      refine lv_istore (lv' := [(4, .int (bI (decide (rA x 4 i = 3)))), (0, .ref (h 0)), (1, .int (-1)), (2, .int (amR x (fun d => decide (rA x 4 d = 3)) i)), (3, .int (nI i))]) hx hb dX4_firstSent_44 hl (by decide) rfl (fun ls hl => ?_)
      refine lv_iload hx hb dX4_firstSent_46 (lv_at hl 0 rfl) ?_
      refine lv_if_eq (tgt := 75) hx hb dX4_firstSent_48 (by decide) (fun h48 => ?_) (fun h48 => ?_)
      · skip
        have h48 := bI_0 h48
        refine lv_iload_n hx hb dX4_firstSent_75 rfl (lv_at hl 3 rfl) ?_
        refine lv_istore_n (lv' := [(2, .int (amR x (fun d => decide (rA x 4 d = 3)) i)), (4, .int (bI (decide (rA x 4 i = 3)))), (0, .ref (h 0)), (1, .int (-1)), (3, .int (nI i))]) hx hb dX4_firstSent_76 rfl hl (by decide) rfl (fun ls hl => ?_)
        refine lv_iinc (v := nI (i + 1)) (lv' := [(3, .int (nI (i + 1))), (2, .int (amR x (fun d => decide (rA x 4 d = 3)) i)), (4, .int (bI (decide (rA x 4 i = 3)))), (0, .ref (h 0)), (1, .int (-1))]) hx hb dX4_firstSent_77 hl (k := 4) rfl (nI_1 _) (by decide) rfl (fun ls hl => ?_)
        refine lv_goto (tgt := 4) hx hb dX4_firstSent_80 (by decide) ?_
        have hl9 : lv_has ls 5 [(0, .ref (h 0)), (1, .int (-1)), (2, .int (amR x (fun d => decide (rA x 4 d = 3)) (i + 1))), (3, .int (nI (i + 1)))] := lv_to (lv_sub (l' := [(0, .ref (h 0)), (1, .int (-1)), (2, .int (amR x (fun d => decide (rA x 4 d = 3)) i)), (3, .int (nI (i + 1)))]) hl [3, 4, 1, 0] rfl) (lr (lr (lc (show (amR x (fun d => decide (rA x 4 d = 3)) i : Int32) = amR x (fun d => decide (rA x 4 d = 3)) (i + 1) from by first | exact amR_a h48 h53 | exact amR_b h48 h68 | exact amR_c h53 h68 | exact amR_d h48) (lr rfl))))
        exact ih _ _ _ (by omega) ⟨hw, hl9⟩
      · skip
        have h48 := bI_1 h48
        refine lv_iload_n hx hb dX4_firstSent_51 rfl (lv_at hl 3 rfl) ?_
        refine lv_iconst (v := (-1)) hx hb dX4_firstSent_52 (by decide) ?_
        refine lv_icmp_eq (tgt := 71) hx hb dX4_firstSent_53 (by decide) (fun h53 => ?_) (fun h53 => ?_)
        · skip
          refine lv_iload_n hx hb dX4_firstSent_71 rfl (lv_at hl 4 rfl) ?_
          refine lv_goto (tgt := 76) hx hb dX4_firstSent_72 (by decide) ?_
          refine lv_istore_n (lv' := [(2, .int (nI i)), (4, .int (bI (decide (rA x 4 i = 3)))), (0, .ref (h 0)), (1, .int (-1)), (3, .int (nI i))]) hx hb dX4_firstSent_76 rfl hl (by decide) rfl (fun ls hl => ?_)
          refine lv_iinc (v := nI (i + 1)) (lv' := [(3, .int (nI (i + 1))), (2, .int (nI i)), (4, .int (bI (decide (rA x 4 i = 3)))), (0, .ref (h 0)), (1, .int (-1))]) hx hb dX4_firstSent_77 hl (k := 4) rfl (nI_1 _) (by decide) rfl (fun ls hl => ?_)
          refine lv_goto (tgt := 4) hx hb dX4_firstSent_80 (by decide) ?_
          have hl9 : lv_has ls 5 [(0, .ref (h 0)), (1, .int (-1)), (2, .int (amR x (fun d => decide (rA x 4 d = 3)) (i + 1))), (3, .int (nI (i + 1)))] := lv_to (lv_sub (l' := [(0, .ref (h 0)), (1, .int (-1)), (2, .int (nI i)), (3, .int (nI (i + 1)))]) hl [3, 4, 1, 0] rfl) (lr (lr (lc (show (nI i : Int32) = amR x (fun d => decide (rA x 4 d = 3)) (i + 1) from by first | exact amR_a h48 h53 | exact amR_b h48 h68 | exact amR_c h53 h68 | exact amR_d h48) (lr rfl))))
          exact ih _ _ _ (by omega) ⟨hw, hl9⟩
        · skip
          refine lv_aload_n hx hb dX4_firstSent_56 rfl (lv_at hl 1 rfl) ?_
          refine gM (k := 14) (v := .ref (h 15)) rfl (by decide) rfl go hw dX4_firstSent_57 q604 ?_
          refine lv_iload_n hx hb dX4_firstSent_60 rfl (lv_at hl 4 rfl) ?_
          refine aM (k := 14) (j := i) rfl (by decide) (by exact hlt) go hw dX4_firstSent_61 ?_
          refine lv_aload_n hx hb dX4_firstSent_62 rfl (lv_at hl 1 rfl) ?_
          refine gM (k := 14) (v := .ref (h 15)) rfl (by decide) rfl go hw dX4_firstSent_63 q604 ?_
          refine lv_iload_n hx hb dX4_firstSent_66 rfl (lv_at hl 3 rfl) ?_
          refine toI (show (amR x (fun d => decide (rA x 4 d = 3)) i : Int32) = nI ((amR x (fun d => decide (rA x 4 d = 3)) i).toNatClampNeg) from by exact (amR_cl (by omega) h53).1) ?_
          refine aM (k := 14) (j := ((amR x (fun d => decide (rA x 4 d = 3)) i).toNatClampNeg)) rfl (by decide) (by show (amR x (fun d => decide (rA x 4 d = 3)) i).toNatClampNeg < 6; have := (amR_cl (by omega) h53).2; omega) go hw dX4_firstSent_67 ?_
          refine lv_icmp_ge (tgt := 75) hx hb dX4_firstSent_68 (by decide) (fun h68 => ?_) (fun h68 => ?_)
          · skip
            refine lv_iload_n hx hb dX4_firstSent_75 rfl (lv_at hl 3 rfl) ?_
            refine lv_istore_n (lv' := [(2, .int (amR x (fun d => decide (rA x 4 d = 3)) i)), (4, .int (bI (decide (rA x 4 i = 3)))), (0, .ref (h 0)), (1, .int (-1)), (3, .int (nI i))]) hx hb dX4_firstSent_76 rfl hl (by decide) rfl (fun ls hl => ?_)
            refine lv_iinc (v := nI (i + 1)) (lv' := [(3, .int (nI (i + 1))), (2, .int (amR x (fun d => decide (rA x 4 d = 3)) i)), (4, .int (bI (decide (rA x 4 i = 3)))), (0, .ref (h 0)), (1, .int (-1))]) hx hb dX4_firstSent_77 hl (k := 4) rfl (nI_1 _) (by decide) rfl (fun ls hl => ?_)
            refine lv_goto (tgt := 4) hx hb dX4_firstSent_80 (by decide) ?_
            have hl9 : lv_has ls 5 [(0, .ref (h 0)), (1, .int (-1)), (2, .int (amR x (fun d => decide (rA x 4 d = 3)) (i + 1))), (3, .int (nI (i + 1)))] := lv_to (lv_sub (l' := [(0, .ref (h 0)), (1, .int (-1)), (2, .int (amR x (fun d => decide (rA x 4 d = 3)) i)), (3, .int (nI (i + 1)))]) hl [3, 4, 1, 0] rfl) (lr (lr (lc (show (amR x (fun d => decide (rA x 4 d = 3)) i : Int32) = amR x (fun d => decide (rA x 4 d = 3)) (i + 1) from by first | exact amR_a h48 h53 | exact amR_b h48 h68 | exact amR_c h53 h68 | exact amR_d h48) (lr rfl))))
            exact ih _ _ _ (by omega) ⟨hw, hl9⟩
          · skip
            refine lv_iload_n hx hb dX4_firstSent_71 rfl (lv_at hl 4 rfl) ?_
            refine lv_goto (tgt := 76) hx hb dX4_firstSent_72 (by decide) ?_
            refine lv_istore_n (lv' := [(2, .int (nI i)), (4, .int (bI (decide (rA x 4 i = 3)))), (0, .ref (h 0)), (1, .int (-1)), (3, .int (nI i))]) hx hb dX4_firstSent_76 rfl hl (by decide) rfl (fun ls hl => ?_)
            refine lv_iinc (v := nI (i + 1)) (lv' := [(3, .int (nI (i + 1))), (2, .int (nI i)), (4, .int (bI (decide (rA x 4 i = 3)))), (0, .ref (h 0)), (1, .int (-1))]) hx hb dX4_firstSent_77 hl (k := 4) rfl (nI_1 _) (by decide) rfl (fun ls hl => ?_)
            refine lv_goto (tgt := 4) hx hb dX4_firstSent_80 (by decide) ?_
            have hl9 : lv_has ls 5 [(0, .ref (h 0)), (1, .int (-1)), (2, .int (amR x (fun d => decide (rA x 4 d = 3)) (i + 1))), (3, .int (nI (i + 1)))] := lv_to (lv_sub (l' := [(0, .ref (h 0)), (1, .int (-1)), (2, .int (nI i)), (3, .int (nI (i + 1)))]) hl [3, 4, 1, 0] rfl) (lr (lr (lc (show (nI i : Int32) = amR x (fun d => decide (rA x 4 d = 3)) (i + 1) from by first | exact amR_a h48 h53 | exact amR_b h48 h68 | exact amR_c h53 h68 | exact amR_d h48) (lr rfl))))
            exact ih _ _ _ (by omega) ⟨hw, hl9⟩

set_option maxHeartbeats 4000000 in
set_option maxRecDepth 100000 in
theorem kX4_firstSentV (l : Launch) (G : Cx) (h : Nat → Nat) (x : Rg) (k : Nat) (hk : k < 2) : Ci l G yX4_firstSent cX4_firstSent 5 .int (Rm 0 0) (rw' G h) [.ref (h 0), .int (nI k)] x (fun r u => r = fvR x k ∧ u = x) := by
  refine Ci.mk (by decide) (Nat.le_of_ble_eq_true rfl) ?_
  intro p e s m below meth c A ls go hw hl
  generalize s.heap = H at hw ⊢
  generalize ([] : List Loc) = locs at hw ⊢
  have hx := go.1
  have hb := go.2.1
  have hl : lv_has ls 5 [(0, .ref (h 0)), (1, .int (nI k))] := hl
  refine lv_iconst (v := (-1)) hx hb dX4_firstSent_0 (by decide) ?_
  refine lv_istore_n (lv' := [(2, .int (-1)), (0, .ref (h 0)), (1, .int (nI k))]) hx hb dX4_firstSent_1 rfl hl (by decide) rfl (fun ls hl => ?_)
  refine lv_iconst (v := 0) hx hb dX4_firstSent_2 (by decide) ?_
  refine lv_istore_n (lv' := [(3, .int 0), (2, .int (-1)), (0, .ref (h 0)), (1, .int (nI k))]) hx hb dX4_firstSent_3 rfl hl (by decide) rfl (fun ls hl => ?_)
  have hl0 : lv_has ls 5 [(0, .ref (h 0)), (1, .int (nI k)), (2, .int (amR x (fun d => decide (rA x 4 d = 3) && decide (rA x 15 (6 * k + d) = 0)) 0)), (3, .int (nI 0))] := lv_to (lv_sub (l' := [(0, .ref (h 0)), (1, .int (nI k)), (2, .int (-1)), (3, .int 0)]) hl [2, 3, 1, 0] rfl) (lr (lr (lc (show ((-1) : Int32) = amR x (fun d => decide (rA x 4 d = 3) && decide (rA x 15 (6 * k + d) = 0)) 0 from rfl) (lc (show (0 : Int32) = nI 0 from rfl) rfl))))
  refine loop_up (N := 6) (P := fun i H locs ls => Wd G A s H locs (rw' G h x) ∧ lv_has ls 5 [(0, .ref (h 0)), (1, .int (nI k)), (2, .int (amR x (fun d => decide (rA x 4 d = 3) && decide (rA x 15 (6 * k + d) = 0)) i)), (3, .int (nI i))]) (X := fun H locs ls => W p l e (Rm 0 0) s m ([.ref (h 0), .int (nI k)] : List Value).toArray below meth c H locs 0 0 (MQ below (va_Qi (fun r u => r = fvR x k ∧ u = x) (PostW G (rw' G h) A) A) ([.ref (h 0), .int (nI k)] : List Value).toArray s (Rm 0 0).cells (Rm 0 0).slots A) (F0 m 4 ls [])) ?_ 0 (by omega) H locs ls ⟨hw, hl0⟩
  clear hl0 hl hw
  intro i hi ih H locs ls hP
  obtain ⟨hw, hl⟩ := hP
  refine lv_iload_n hx hb dX4_firstSent_4 rfl (lv_at hl 3 rfl) ?_
  refine lv_bipush (v := 6) hx hb dX4_firstSent_5 (by decide) ?_
  refine lv_icmp_ge (tgt := 83) hx hb dX4_firstSent_7 (by decide) (fun h7 => ?_) (fun h7 => ?_)
  · skip
    have hE : i = 6 := lp_end h7 rfl rfl hi (by decide)
    subst hE
    refine lv_iload_n hx hb dX4_firstSent_83 rfl (lv_at hl 2 rfl) ?_
    refine ret_i (wf := rw' G h) go hw dX4_firstSent_84 ?_
    exact ⟨rfl, rfl⟩
  · skip
    have hlt : i < 6 := lp_in h7 rfl rfl hi (by decide)
    refine lv_aload_n hx hb dX4_firstSent_10 rfl (lv_at hl 0 rfl) ?_
    refine gM (k := 4) (v := .ref (h 5)) rfl (by decide) rfl go hw dX4_firstSent_11 q594 ?_
    refine lv_iload_n hx hb dX4_firstSent_14 rfl (lv_at hl 3 rfl) ?_
    refine aM (k := 4) (j := i) rfl (by decide) (by exact hlt) go hw dX4_firstSent_15 ?_
    refine lv_iconst (v := 3) hx hb dX4_firstSent_16 (by decide) ?_
    refine lv_icmp_ne (tgt := 43) hx hb dX4_firstSent_17 (by decide) (fun h17 => ?_) (fun h17 => ?_)
    · skip
      refine lv_iconst (v := 0) hx hb dX4_firstSent_43 (by decide) ?_
      refine toI (show 0 = bI (decide (rA x 4 i = 3) && decide (rA x 15 (6 * k + i) = 0)) from by simp [bI, *]) ?_
      refine lv_istore (lv' := [(4, .int (bI (decide (rA x 4 i = 3) && decide (rA x 15 (6 * k + i) = 0)))), (0, .ref (h 0)), (1, .int (nI k)), (2, .int (amR x (fun d => decide (rA x 4 d = 3) && decide (rA x 15 (6 * k + d) = 0)) i)), (3, .int (nI i))]) hx hb dX4_firstSent_44 hl (by decide) rfl (fun ls hl => ?_)
      refine lv_iload hx hb dX4_firstSent_46 (lv_at hl 0 rfl) ?_
      refine lv_if_eq (tgt := 75) hx hb dX4_firstSent_48 (by decide) (fun h48 => ?_) (fun h48 => ?_)
      · skip
        have h48 := bI_0 h48
        refine lv_iload_n hx hb dX4_firstSent_75 rfl (lv_at hl 3 rfl) ?_
        refine lv_istore_n (lv' := [(2, .int (amR x (fun d => decide (rA x 4 d = 3) && decide (rA x 15 (6 * k + d) = 0)) i)), (4, .int (bI (decide (rA x 4 i = 3) && decide (rA x 15 (6 * k + i) = 0)))), (0, .ref (h 0)), (1, .int (nI k)), (3, .int (nI i))]) hx hb dX4_firstSent_76 rfl hl (by decide) rfl (fun ls hl => ?_)
        refine lv_iinc (v := nI (i + 1)) (lv' := [(3, .int (nI (i + 1))), (2, .int (amR x (fun d => decide (rA x 4 d = 3) && decide (rA x 15 (6 * k + d) = 0)) i)), (4, .int (bI (decide (rA x 4 i = 3) && decide (rA x 15 (6 * k + i) = 0)))), (0, .ref (h 0)), (1, .int (nI k))]) hx hb dX4_firstSent_77 hl (k := 4) rfl (nI_1 _) (by decide) rfl (fun ls hl => ?_)
        refine lv_goto (tgt := 4) hx hb dX4_firstSent_80 (by decide) ?_
        have hl9 : lv_has ls 5 [(0, .ref (h 0)), (1, .int (nI k)), (2, .int (amR x (fun d => decide (rA x 4 d = 3) && decide (rA x 15 (6 * k + d) = 0)) (i + 1))), (3, .int (nI (i + 1)))] := lv_to (lv_sub (l' := [(0, .ref (h 0)), (1, .int (nI k)), (2, .int (amR x (fun d => decide (rA x 4 d = 3) && decide (rA x 15 (6 * k + d) = 0)) i)), (3, .int (nI (i + 1)))]) hl [3, 4, 1, 0] rfl) (lr (lr (lc (show (amR x (fun d => decide (rA x 4 d = 3) && decide (rA x 15 (6 * k + d) = 0)) i : Int32) = amR x (fun d => decide (rA x 4 d = 3) && decide (rA x 15 (6 * k + d) = 0)) (i + 1) from by first | exact amR_a h48 h53 | exact amR_b h48 h68 | exact amR_c h53 h68 | exact amR_d h48) (lr rfl))))
        exact ih _ _ _ (by omega) ⟨hw, hl9⟩
      · skip
        have h48 := bI_1 h48
        refine lv_iload_n hx hb dX4_firstSent_51 rfl (lv_at hl 3 rfl) ?_
        refine lv_iconst (v := (-1)) hx hb dX4_firstSent_52 (by decide) ?_
        refine lv_icmp_eq (tgt := 71) hx hb dX4_firstSent_53 (by decide) (fun h53 => ?_) (fun h53 => ?_)
        · skip
          refine lv_iload_n hx hb dX4_firstSent_71 rfl (lv_at hl 4 rfl) ?_
          refine lv_goto (tgt := 76) hx hb dX4_firstSent_72 (by decide) ?_
          refine lv_istore_n (lv' := [(2, .int (nI i)), (4, .int (bI (decide (rA x 4 i = 3) && decide (rA x 15 (6 * k + i) = 0)))), (0, .ref (h 0)), (1, .int (nI k)), (3, .int (nI i))]) hx hb dX4_firstSent_76 rfl hl (by decide) rfl (fun ls hl => ?_)
          refine lv_iinc (v := nI (i + 1)) (lv' := [(3, .int (nI (i + 1))), (2, .int (nI i)), (4, .int (bI (decide (rA x 4 i = 3) && decide (rA x 15 (6 * k + i) = 0)))), (0, .ref (h 0)), (1, .int (nI k))]) hx hb dX4_firstSent_77 hl (k := 4) rfl (nI_1 _) (by decide) rfl (fun ls hl => ?_)
          refine lv_goto (tgt := 4) hx hb dX4_firstSent_80 (by decide) ?_
          have hl9 : lv_has ls 5 [(0, .ref (h 0)), (1, .int (nI k)), (2, .int (amR x (fun d => decide (rA x 4 d = 3) && decide (rA x 15 (6 * k + d) = 0)) (i + 1))), (3, .int (nI (i + 1)))] := lv_to (lv_sub (l' := [(0, .ref (h 0)), (1, .int (nI k)), (2, .int (nI i)), (3, .int (nI (i + 1)))]) hl [3, 4, 1, 0] rfl) (lr (lr (lc (show (nI i : Int32) = amR x (fun d => decide (rA x 4 d = 3) && decide (rA x 15 (6 * k + d) = 0)) (i + 1) from by first | exact amR_a h48 h53 | exact amR_b h48 h68 | exact amR_c h53 h68 | exact amR_d h48) (lr rfl))))
          exact ih _ _ _ (by omega) ⟨hw, hl9⟩
        · skip
          refine lv_aload_n hx hb dX4_firstSent_56 rfl (lv_at hl 1 rfl) ?_
          refine gM (k := 14) (v := .ref (h 15)) rfl (by decide) rfl go hw dX4_firstSent_57 q604 ?_
          refine lv_iload_n hx hb dX4_firstSent_60 rfl (lv_at hl 4 rfl) ?_
          refine aM (k := 14) (j := i) rfl (by decide) (by exact hlt) go hw dX4_firstSent_61 ?_
          refine lv_aload_n hx hb dX4_firstSent_62 rfl (lv_at hl 1 rfl) ?_
          refine gM (k := 14) (v := .ref (h 15)) rfl (by decide) rfl go hw dX4_firstSent_63 q604 ?_
          refine lv_iload_n hx hb dX4_firstSent_66 rfl (lv_at hl 3 rfl) ?_
          refine toI (show (amR x (fun d => decide (rA x 4 d = 3) && decide (rA x 15 (6 * k + d) = 0)) i : Int32) = nI ((amR x (fun d => decide (rA x 4 d = 3) && decide (rA x 15 (6 * k + d) = 0)) i).toNatClampNeg) from by exact (amR_cl (by omega) h53).1) ?_
          refine aM (k := 14) (j := ((amR x (fun d => decide (rA x 4 d = 3) && decide (rA x 15 (6 * k + d) = 0)) i).toNatClampNeg)) rfl (by decide) (by show (amR x (fun d => decide (rA x 4 d = 3) && decide (rA x 15 (6 * k + d) = 0)) i).toNatClampNeg < 6; have := (amR_cl (by omega) h53).2; omega) go hw dX4_firstSent_67 ?_
          refine lv_icmp_ge (tgt := 75) hx hb dX4_firstSent_68 (by decide) (fun h68 => ?_) (fun h68 => ?_)
          · skip
            refine lv_iload_n hx hb dX4_firstSent_75 rfl (lv_at hl 3 rfl) ?_
            refine lv_istore_n (lv' := [(2, .int (amR x (fun d => decide (rA x 4 d = 3) && decide (rA x 15 (6 * k + d) = 0)) i)), (4, .int (bI (decide (rA x 4 i = 3) && decide (rA x 15 (6 * k + i) = 0)))), (0, .ref (h 0)), (1, .int (nI k)), (3, .int (nI i))]) hx hb dX4_firstSent_76 rfl hl (by decide) rfl (fun ls hl => ?_)
            refine lv_iinc (v := nI (i + 1)) (lv' := [(3, .int (nI (i + 1))), (2, .int (amR x (fun d => decide (rA x 4 d = 3) && decide (rA x 15 (6 * k + d) = 0)) i)), (4, .int (bI (decide (rA x 4 i = 3) && decide (rA x 15 (6 * k + i) = 0)))), (0, .ref (h 0)), (1, .int (nI k))]) hx hb dX4_firstSent_77 hl (k := 4) rfl (nI_1 _) (by decide) rfl (fun ls hl => ?_)
            refine lv_goto (tgt := 4) hx hb dX4_firstSent_80 (by decide) ?_
            have hl9 : lv_has ls 5 [(0, .ref (h 0)), (1, .int (nI k)), (2, .int (amR x (fun d => decide (rA x 4 d = 3) && decide (rA x 15 (6 * k + d) = 0)) (i + 1))), (3, .int (nI (i + 1)))] := lv_to (lv_sub (l' := [(0, .ref (h 0)), (1, .int (nI k)), (2, .int (amR x (fun d => decide (rA x 4 d = 3) && decide (rA x 15 (6 * k + d) = 0)) i)), (3, .int (nI (i + 1)))]) hl [3, 4, 1, 0] rfl) (lr (lr (lc (show (amR x (fun d => decide (rA x 4 d = 3) && decide (rA x 15 (6 * k + d) = 0)) i : Int32) = amR x (fun d => decide (rA x 4 d = 3) && decide (rA x 15 (6 * k + d) = 0)) (i + 1) from by first | exact amR_a h48 h53 | exact amR_b h48 h68 | exact amR_c h53 h68 | exact amR_d h48) (lr rfl))))
            exact ih _ _ _ (by omega) ⟨hw, hl9⟩
          · skip
            refine lv_iload_n hx hb dX4_firstSent_71 rfl (lv_at hl 4 rfl) ?_
            refine lv_goto (tgt := 76) hx hb dX4_firstSent_72 (by decide) ?_
            refine lv_istore_n (lv' := [(2, .int (nI i)), (4, .int (bI (decide (rA x 4 i = 3) && decide (rA x 15 (6 * k + i) = 0)))), (0, .ref (h 0)), (1, .int (nI k)), (3, .int (nI i))]) hx hb dX4_firstSent_76 rfl hl (by decide) rfl (fun ls hl => ?_)
            refine lv_iinc (v := nI (i + 1)) (lv' := [(3, .int (nI (i + 1))), (2, .int (nI i)), (4, .int (bI (decide (rA x 4 i = 3) && decide (rA x 15 (6 * k + i) = 0)))), (0, .ref (h 0)), (1, .int (nI k))]) hx hb dX4_firstSent_77 hl (k := 4) rfl (nI_1 _) (by decide) rfl (fun ls hl => ?_)
            refine lv_goto (tgt := 4) hx hb dX4_firstSent_80 (by decide) ?_
            have hl9 : lv_has ls 5 [(0, .ref (h 0)), (1, .int (nI k)), (2, .int (amR x (fun d => decide (rA x 4 d = 3) && decide (rA x 15 (6 * k + d) = 0)) (i + 1))), (3, .int (nI (i + 1)))] := lv_to (lv_sub (l' := [(0, .ref (h 0)), (1, .int (nI k)), (2, .int (nI i)), (3, .int (nI (i + 1)))]) hl [3, 4, 1, 0] rfl) (lr (lr (lc (show (nI i : Int32) = amR x (fun d => decide (rA x 4 d = 3) && decide (rA x 15 (6 * k + d) = 0)) (i + 1) from by first | exact amR_a h48 h53 | exact amR_b h48 h68 | exact amR_c h53 h68 | exact amR_d h48) (lr rfl))))
            exact ih _ _ _ (by omega) ⟨hw, hl9⟩
    · skip
      refine lv_iload_n hx hb dX4_firstSent_20 rfl (lv_at hl 1 rfl) ?_
      refine lv_iconst (v := (-1)) hx hb dX4_firstSent_21 (by decide) ?_
      refine lv_icmp_eq (tgt := 39) hx hb dX4_firstSent_22 (by decide) (fun h22 => absurd h22 (by exact nI_m1 (by omega))) (fun h22 => ?_)
      refine lv_aload_n hx hb dX4_firstSent_25 rfl (lv_at hl 0 rfl) ?_
      refine gM (k := 15) (v := .ref (h 16)) rfl (by decide) rfl go hw dX4_firstSent_26 q605 ?_
      refine lv_bipush (v := 6) hx hb dX4_firstSent_29 (by decide) ?_
      refine lv_iload_n hx hb dX4_firstSent_31 rfl (lv_at hl 1 rfl) ?_
      refine lv_imul hx hb dX4_firstSent_32 ?_
      refine lv_iload_n hx hb dX4_firstSent_33 rfl (lv_at hl 3 rfl) ?_
      refine lv_iadd hx hb dX4_firstSent_34 ?_
      refine toI (show ((6 * (nI k)) + (nI i) : Int32) = nI (6 * k + i) from by rw [show (6 : Int32) = nI 6 from rfl, pk_mul, nI_add]) ?_
      refine aM (k := 15) (j := (6 * k + i)) rfl (by decide) (by show 6 * k + i < 12; omega) go hw dX4_firstSent_35 ?_
      refine lv_if_ne (tgt := 43) hx hb dX4_firstSent_36 (by decide) (fun h36 => ?_) (fun h36 => ?_)
      · skip
        refine lv_iconst (v := 0) hx hb dX4_firstSent_43 (by decide) ?_
        refine toI (show 0 = bI (decide (rA x 4 i = 3) && decide (rA x 15 (6 * k + i) = 0)) from by simp [bI, *]) ?_
        refine lv_istore (lv' := [(4, .int (bI (decide (rA x 4 i = 3) && decide (rA x 15 (6 * k + i) = 0)))), (0, .ref (h 0)), (1, .int (nI k)), (2, .int (amR x (fun d => decide (rA x 4 d = 3) && decide (rA x 15 (6 * k + d) = 0)) i)), (3, .int (nI i))]) hx hb dX4_firstSent_44 hl (by decide) rfl (fun ls hl => ?_)
        refine lv_iload hx hb dX4_firstSent_46 (lv_at hl 0 rfl) ?_
        refine lv_if_eq (tgt := 75) hx hb dX4_firstSent_48 (by decide) (fun h48 => ?_) (fun h48 => ?_)
        · skip
          have h48 := bI_0 h48
          refine lv_iload_n hx hb dX4_firstSent_75 rfl (lv_at hl 3 rfl) ?_
          refine lv_istore_n (lv' := [(2, .int (amR x (fun d => decide (rA x 4 d = 3) && decide (rA x 15 (6 * k + d) = 0)) i)), (4, .int (bI (decide (rA x 4 i = 3) && decide (rA x 15 (6 * k + i) = 0)))), (0, .ref (h 0)), (1, .int (nI k)), (3, .int (nI i))]) hx hb dX4_firstSent_76 rfl hl (by decide) rfl (fun ls hl => ?_)
          refine lv_iinc (v := nI (i + 1)) (lv' := [(3, .int (nI (i + 1))), (2, .int (amR x (fun d => decide (rA x 4 d = 3) && decide (rA x 15 (6 * k + d) = 0)) i)), (4, .int (bI (decide (rA x 4 i = 3) && decide (rA x 15 (6 * k + i) = 0)))), (0, .ref (h 0)), (1, .int (nI k))]) hx hb dX4_firstSent_77 hl (k := 4) rfl (nI_1 _) (by decide) rfl (fun ls hl => ?_)
          refine lv_goto (tgt := 4) hx hb dX4_firstSent_80 (by decide) ?_
          have hl9 : lv_has ls 5 [(0, .ref (h 0)), (1, .int (nI k)), (2, .int (amR x (fun d => decide (rA x 4 d = 3) && decide (rA x 15 (6 * k + d) = 0)) (i + 1))), (3, .int (nI (i + 1)))] := lv_to (lv_sub (l' := [(0, .ref (h 0)), (1, .int (nI k)), (2, .int (amR x (fun d => decide (rA x 4 d = 3) && decide (rA x 15 (6 * k + d) = 0)) i)), (3, .int (nI (i + 1)))]) hl [3, 4, 1, 0] rfl) (lr (lr (lc (show (amR x (fun d => decide (rA x 4 d = 3) && decide (rA x 15 (6 * k + d) = 0)) i : Int32) = amR x (fun d => decide (rA x 4 d = 3) && decide (rA x 15 (6 * k + d) = 0)) (i + 1) from by first | exact amR_a h48 h53 | exact amR_b h48 h68 | exact amR_c h53 h68 | exact amR_d h48) (lr rfl))))
          exact ih _ _ _ (by omega) ⟨hw, hl9⟩
        · skip
          have h48 := bI_1 h48
          refine lv_iload_n hx hb dX4_firstSent_51 rfl (lv_at hl 3 rfl) ?_
          refine lv_iconst (v := (-1)) hx hb dX4_firstSent_52 (by decide) ?_
          refine lv_icmp_eq (tgt := 71) hx hb dX4_firstSent_53 (by decide) (fun h53 => ?_) (fun h53 => ?_)
          · skip
            refine lv_iload_n hx hb dX4_firstSent_71 rfl (lv_at hl 4 rfl) ?_
            refine lv_goto (tgt := 76) hx hb dX4_firstSent_72 (by decide) ?_
            refine lv_istore_n (lv' := [(2, .int (nI i)), (4, .int (bI (decide (rA x 4 i = 3) && decide (rA x 15 (6 * k + i) = 0)))), (0, .ref (h 0)), (1, .int (nI k)), (3, .int (nI i))]) hx hb dX4_firstSent_76 rfl hl (by decide) rfl (fun ls hl => ?_)
            refine lv_iinc (v := nI (i + 1)) (lv' := [(3, .int (nI (i + 1))), (2, .int (nI i)), (4, .int (bI (decide (rA x 4 i = 3) && decide (rA x 15 (6 * k + i) = 0)))), (0, .ref (h 0)), (1, .int (nI k))]) hx hb dX4_firstSent_77 hl (k := 4) rfl (nI_1 _) (by decide) rfl (fun ls hl => ?_)
            refine lv_goto (tgt := 4) hx hb dX4_firstSent_80 (by decide) ?_
            have hl9 : lv_has ls 5 [(0, .ref (h 0)), (1, .int (nI k)), (2, .int (amR x (fun d => decide (rA x 4 d = 3) && decide (rA x 15 (6 * k + d) = 0)) (i + 1))), (3, .int (nI (i + 1)))] := lv_to (lv_sub (l' := [(0, .ref (h 0)), (1, .int (nI k)), (2, .int (nI i)), (3, .int (nI (i + 1)))]) hl [3, 4, 1, 0] rfl) (lr (lr (lc (show (nI i : Int32) = amR x (fun d => decide (rA x 4 d = 3) && decide (rA x 15 (6 * k + d) = 0)) (i + 1) from by first | exact amR_a h48 h53 | exact amR_b h48 h68 | exact amR_c h53 h68 | exact amR_d h48) (lr rfl))))
            exact ih _ _ _ (by omega) ⟨hw, hl9⟩
          · skip
            refine lv_aload_n hx hb dX4_firstSent_56 rfl (lv_at hl 1 rfl) ?_
            refine gM (k := 14) (v := .ref (h 15)) rfl (by decide) rfl go hw dX4_firstSent_57 q604 ?_
            refine lv_iload_n hx hb dX4_firstSent_60 rfl (lv_at hl 4 rfl) ?_
            refine aM (k := 14) (j := i) rfl (by decide) (by exact hlt) go hw dX4_firstSent_61 ?_
            refine lv_aload_n hx hb dX4_firstSent_62 rfl (lv_at hl 1 rfl) ?_
            refine gM (k := 14) (v := .ref (h 15)) rfl (by decide) rfl go hw dX4_firstSent_63 q604 ?_
            refine lv_iload_n hx hb dX4_firstSent_66 rfl (lv_at hl 3 rfl) ?_
            refine toI (show (amR x (fun d => decide (rA x 4 d = 3) && decide (rA x 15 (6 * k + d) = 0)) i : Int32) = nI ((amR x (fun d => decide (rA x 4 d = 3) && decide (rA x 15 (6 * k + d) = 0)) i).toNatClampNeg) from by exact (amR_cl (by omega) h53).1) ?_
            refine aM (k := 14) (j := ((amR x (fun d => decide (rA x 4 d = 3) && decide (rA x 15 (6 * k + d) = 0)) i).toNatClampNeg)) rfl (by decide) (by show (amR x (fun d => decide (rA x 4 d = 3) && decide (rA x 15 (6 * k + d) = 0)) i).toNatClampNeg < 6; have := (amR_cl (by omega) h53).2; omega) go hw dX4_firstSent_67 ?_
            refine lv_icmp_ge (tgt := 75) hx hb dX4_firstSent_68 (by decide) (fun h68 => ?_) (fun h68 => ?_)
            · skip
              refine lv_iload_n hx hb dX4_firstSent_75 rfl (lv_at hl 3 rfl) ?_
              refine lv_istore_n (lv' := [(2, .int (amR x (fun d => decide (rA x 4 d = 3) && decide (rA x 15 (6 * k + d) = 0)) i)), (4, .int (bI (decide (rA x 4 i = 3) && decide (rA x 15 (6 * k + i) = 0)))), (0, .ref (h 0)), (1, .int (nI k)), (3, .int (nI i))]) hx hb dX4_firstSent_76 rfl hl (by decide) rfl (fun ls hl => ?_)
              refine lv_iinc (v := nI (i + 1)) (lv' := [(3, .int (nI (i + 1))), (2, .int (amR x (fun d => decide (rA x 4 d = 3) && decide (rA x 15 (6 * k + d) = 0)) i)), (4, .int (bI (decide (rA x 4 i = 3) && decide (rA x 15 (6 * k + i) = 0)))), (0, .ref (h 0)), (1, .int (nI k))]) hx hb dX4_firstSent_77 hl (k := 4) rfl (nI_1 _) (by decide) rfl (fun ls hl => ?_)
              refine lv_goto (tgt := 4) hx hb dX4_firstSent_80 (by decide) ?_
              have hl9 : lv_has ls 5 [(0, .ref (h 0)), (1, .int (nI k)), (2, .int (amR x (fun d => decide (rA x 4 d = 3) && decide (rA x 15 (6 * k + d) = 0)) (i + 1))), (3, .int (nI (i + 1)))] := lv_to (lv_sub (l' := [(0, .ref (h 0)), (1, .int (nI k)), (2, .int (amR x (fun d => decide (rA x 4 d = 3) && decide (rA x 15 (6 * k + d) = 0)) i)), (3, .int (nI (i + 1)))]) hl [3, 4, 1, 0] rfl) (lr (lr (lc (show (amR x (fun d => decide (rA x 4 d = 3) && decide (rA x 15 (6 * k + d) = 0)) i : Int32) = amR x (fun d => decide (rA x 4 d = 3) && decide (rA x 15 (6 * k + d) = 0)) (i + 1) from by first | exact amR_a h48 h53 | exact amR_b h48 h68 | exact amR_c h53 h68 | exact amR_d h48) (lr rfl))))
              exact ih _ _ _ (by omega) ⟨hw, hl9⟩
            · skip
              refine lv_iload_n hx hb dX4_firstSent_71 rfl (lv_at hl 4 rfl) ?_
              refine lv_goto (tgt := 76) hx hb dX4_firstSent_72 (by decide) ?_
              refine lv_istore_n (lv' := [(2, .int (nI i)), (4, .int (bI (decide (rA x 4 i = 3) && decide (rA x 15 (6 * k + i) = 0)))), (0, .ref (h 0)), (1, .int (nI k)), (3, .int (nI i))]) hx hb dX4_firstSent_76 rfl hl (by decide) rfl (fun ls hl => ?_)
              refine lv_iinc (v := nI (i + 1)) (lv' := [(3, .int (nI (i + 1))), (2, .int (nI i)), (4, .int (bI (decide (rA x 4 i = 3) && decide (rA x 15 (6 * k + i) = 0)))), (0, .ref (h 0)), (1, .int (nI k))]) hx hb dX4_firstSent_77 hl (k := 4) rfl (nI_1 _) (by decide) rfl (fun ls hl => ?_)
              refine lv_goto (tgt := 4) hx hb dX4_firstSent_80 (by decide) ?_
              have hl9 : lv_has ls 5 [(0, .ref (h 0)), (1, .int (nI k)), (2, .int (amR x (fun d => decide (rA x 4 d = 3) && decide (rA x 15 (6 * k + d) = 0)) (i + 1))), (3, .int (nI (i + 1)))] := lv_to (lv_sub (l' := [(0, .ref (h 0)), (1, .int (nI k)), (2, .int (nI i)), (3, .int (nI (i + 1)))]) hl [3, 4, 1, 0] rfl) (lr (lr (lc (show (nI i : Int32) = amR x (fun d => decide (rA x 4 d = 3) && decide (rA x 15 (6 * k + d) = 0)) (i + 1) from by first | exact amR_a h48 h53 | exact amR_b h48 h68 | exact amR_c h53 h68 | exact amR_d h48) (lr rfl))))
              exact ih _ _ _ (by omega) ⟨hw, hl9⟩
      · skip
        refine lv_iconst (v := 1) hx hb dX4_firstSent_39 (by decide) ?_
        refine lv_goto (tgt := 44) hx hb dX4_firstSent_40 (by decide) ?_
        refine toI (show 1 = bI (decide (rA x 4 i = 3) && decide (rA x 15 (6 * k + i) = 0)) from by simp [bI, *]) ?_
        refine lv_istore (lv' := [(4, .int (bI (decide (rA x 4 i = 3) && decide (rA x 15 (6 * k + i) = 0)))), (0, .ref (h 0)), (1, .int (nI k)), (2, .int (amR x (fun d => decide (rA x 4 d = 3) && decide (rA x 15 (6 * k + d) = 0)) i)), (3, .int (nI i))]) hx hb dX4_firstSent_44 hl (by decide) rfl (fun ls hl => ?_)
        refine lv_iload hx hb dX4_firstSent_46 (lv_at hl 0 rfl) ?_
        refine lv_if_eq (tgt := 75) hx hb dX4_firstSent_48 (by decide) (fun h48 => ?_) (fun h48 => ?_)
        · skip
          have h48 := bI_0 h48
          refine lv_iload_n hx hb dX4_firstSent_75 rfl (lv_at hl 3 rfl) ?_
          refine lv_istore_n (lv' := [(2, .int (amR x (fun d => decide (rA x 4 d = 3) && decide (rA x 15 (6 * k + d) = 0)) i)), (4, .int (bI (decide (rA x 4 i = 3) && decide (rA x 15 (6 * k + i) = 0)))), (0, .ref (h 0)), (1, .int (nI k)), (3, .int (nI i))]) hx hb dX4_firstSent_76 rfl hl (by decide) rfl (fun ls hl => ?_)
          refine lv_iinc (v := nI (i + 1)) (lv' := [(3, .int (nI (i + 1))), (2, .int (amR x (fun d => decide (rA x 4 d = 3) && decide (rA x 15 (6 * k + d) = 0)) i)), (4, .int (bI (decide (rA x 4 i = 3) && decide (rA x 15 (6 * k + i) = 0)))), (0, .ref (h 0)), (1, .int (nI k))]) hx hb dX4_firstSent_77 hl (k := 4) rfl (nI_1 _) (by decide) rfl (fun ls hl => ?_)
          refine lv_goto (tgt := 4) hx hb dX4_firstSent_80 (by decide) ?_
          have hl9 : lv_has ls 5 [(0, .ref (h 0)), (1, .int (nI k)), (2, .int (amR x (fun d => decide (rA x 4 d = 3) && decide (rA x 15 (6 * k + d) = 0)) (i + 1))), (3, .int (nI (i + 1)))] := lv_to (lv_sub (l' := [(0, .ref (h 0)), (1, .int (nI k)), (2, .int (amR x (fun d => decide (rA x 4 d = 3) && decide (rA x 15 (6 * k + d) = 0)) i)), (3, .int (nI (i + 1)))]) hl [3, 4, 1, 0] rfl) (lr (lr (lc (show (amR x (fun d => decide (rA x 4 d = 3) && decide (rA x 15 (6 * k + d) = 0)) i : Int32) = amR x (fun d => decide (rA x 4 d = 3) && decide (rA x 15 (6 * k + d) = 0)) (i + 1) from by first | exact amR_a h48 h53 | exact amR_b h48 h68 | exact amR_c h53 h68 | exact amR_d h48) (lr rfl))))
          exact ih _ _ _ (by omega) ⟨hw, hl9⟩
        · skip
          have h48 := bI_1 h48
          refine lv_iload_n hx hb dX4_firstSent_51 rfl (lv_at hl 3 rfl) ?_
          refine lv_iconst (v := (-1)) hx hb dX4_firstSent_52 (by decide) ?_
          refine lv_icmp_eq (tgt := 71) hx hb dX4_firstSent_53 (by decide) (fun h53 => ?_) (fun h53 => ?_)
          · skip
            refine lv_iload_n hx hb dX4_firstSent_71 rfl (lv_at hl 4 rfl) ?_
            refine lv_goto (tgt := 76) hx hb dX4_firstSent_72 (by decide) ?_
            refine lv_istore_n (lv' := [(2, .int (nI i)), (4, .int (bI (decide (rA x 4 i = 3) && decide (rA x 15 (6 * k + i) = 0)))), (0, .ref (h 0)), (1, .int (nI k)), (3, .int (nI i))]) hx hb dX4_firstSent_76 rfl hl (by decide) rfl (fun ls hl => ?_)
            refine lv_iinc (v := nI (i + 1)) (lv' := [(3, .int (nI (i + 1))), (2, .int (nI i)), (4, .int (bI (decide (rA x 4 i = 3) && decide (rA x 15 (6 * k + i) = 0)))), (0, .ref (h 0)), (1, .int (nI k))]) hx hb dX4_firstSent_77 hl (k := 4) rfl (nI_1 _) (by decide) rfl (fun ls hl => ?_)
            refine lv_goto (tgt := 4) hx hb dX4_firstSent_80 (by decide) ?_
            have hl9 : lv_has ls 5 [(0, .ref (h 0)), (1, .int (nI k)), (2, .int (amR x (fun d => decide (rA x 4 d = 3) && decide (rA x 15 (6 * k + d) = 0)) (i + 1))), (3, .int (nI (i + 1)))] := lv_to (lv_sub (l' := [(0, .ref (h 0)), (1, .int (nI k)), (2, .int (nI i)), (3, .int (nI (i + 1)))]) hl [3, 4, 1, 0] rfl) (lr (lr (lc (show (nI i : Int32) = amR x (fun d => decide (rA x 4 d = 3) && decide (rA x 15 (6 * k + d) = 0)) (i + 1) from by first | exact amR_a h48 h53 | exact amR_b h48 h68 | exact amR_c h53 h68 | exact amR_d h48) (lr rfl))))
            exact ih _ _ _ (by omega) ⟨hw, hl9⟩
          · skip
            refine lv_aload_n hx hb dX4_firstSent_56 rfl (lv_at hl 1 rfl) ?_
            refine gM (k := 14) (v := .ref (h 15)) rfl (by decide) rfl go hw dX4_firstSent_57 q604 ?_
            refine lv_iload_n hx hb dX4_firstSent_60 rfl (lv_at hl 4 rfl) ?_
            refine aM (k := 14) (j := i) rfl (by decide) (by exact hlt) go hw dX4_firstSent_61 ?_
            refine lv_aload_n hx hb dX4_firstSent_62 rfl (lv_at hl 1 rfl) ?_
            refine gM (k := 14) (v := .ref (h 15)) rfl (by decide) rfl go hw dX4_firstSent_63 q604 ?_
            refine lv_iload_n hx hb dX4_firstSent_66 rfl (lv_at hl 3 rfl) ?_
            refine toI (show (amR x (fun d => decide (rA x 4 d = 3) && decide (rA x 15 (6 * k + d) = 0)) i : Int32) = nI ((amR x (fun d => decide (rA x 4 d = 3) && decide (rA x 15 (6 * k + d) = 0)) i).toNatClampNeg) from by exact (amR_cl (by omega) h53).1) ?_
            refine aM (k := 14) (j := ((amR x (fun d => decide (rA x 4 d = 3) && decide (rA x 15 (6 * k + d) = 0)) i).toNatClampNeg)) rfl (by decide) (by show (amR x (fun d => decide (rA x 4 d = 3) && decide (rA x 15 (6 * k + d) = 0)) i).toNatClampNeg < 6; have := (amR_cl (by omega) h53).2; omega) go hw dX4_firstSent_67 ?_
            refine lv_icmp_ge (tgt := 75) hx hb dX4_firstSent_68 (by decide) (fun h68 => ?_) (fun h68 => ?_)
            · skip
              refine lv_iload_n hx hb dX4_firstSent_75 rfl (lv_at hl 3 rfl) ?_
              refine lv_istore_n (lv' := [(2, .int (amR x (fun d => decide (rA x 4 d = 3) && decide (rA x 15 (6 * k + d) = 0)) i)), (4, .int (bI (decide (rA x 4 i = 3) && decide (rA x 15 (6 * k + i) = 0)))), (0, .ref (h 0)), (1, .int (nI k)), (3, .int (nI i))]) hx hb dX4_firstSent_76 rfl hl (by decide) rfl (fun ls hl => ?_)
              refine lv_iinc (v := nI (i + 1)) (lv' := [(3, .int (nI (i + 1))), (2, .int (amR x (fun d => decide (rA x 4 d = 3) && decide (rA x 15 (6 * k + d) = 0)) i)), (4, .int (bI (decide (rA x 4 i = 3) && decide (rA x 15 (6 * k + i) = 0)))), (0, .ref (h 0)), (1, .int (nI k))]) hx hb dX4_firstSent_77 hl (k := 4) rfl (nI_1 _) (by decide) rfl (fun ls hl => ?_)
              refine lv_goto (tgt := 4) hx hb dX4_firstSent_80 (by decide) ?_
              have hl9 : lv_has ls 5 [(0, .ref (h 0)), (1, .int (nI k)), (2, .int (amR x (fun d => decide (rA x 4 d = 3) && decide (rA x 15 (6 * k + d) = 0)) (i + 1))), (3, .int (nI (i + 1)))] := lv_to (lv_sub (l' := [(0, .ref (h 0)), (1, .int (nI k)), (2, .int (amR x (fun d => decide (rA x 4 d = 3) && decide (rA x 15 (6 * k + d) = 0)) i)), (3, .int (nI (i + 1)))]) hl [3, 4, 1, 0] rfl) (lr (lr (lc (show (amR x (fun d => decide (rA x 4 d = 3) && decide (rA x 15 (6 * k + d) = 0)) i : Int32) = amR x (fun d => decide (rA x 4 d = 3) && decide (rA x 15 (6 * k + d) = 0)) (i + 1) from by first | exact amR_a h48 h53 | exact amR_b h48 h68 | exact amR_c h53 h68 | exact amR_d h48) (lr rfl))))
              exact ih _ _ _ (by omega) ⟨hw, hl9⟩
            · skip
              refine lv_iload_n hx hb dX4_firstSent_71 rfl (lv_at hl 4 rfl) ?_
              refine lv_goto (tgt := 76) hx hb dX4_firstSent_72 (by decide) ?_
              refine lv_istore_n (lv' := [(2, .int (nI i)), (4, .int (bI (decide (rA x 4 i = 3) && decide (rA x 15 (6 * k + i) = 0)))), (0, .ref (h 0)), (1, .int (nI k)), (3, .int (nI i))]) hx hb dX4_firstSent_76 rfl hl (by decide) rfl (fun ls hl => ?_)
              refine lv_iinc (v := nI (i + 1)) (lv' := [(3, .int (nI (i + 1))), (2, .int (nI i)), (4, .int (bI (decide (rA x 4 i = 3) && decide (rA x 15 (6 * k + i) = 0)))), (0, .ref (h 0)), (1, .int (nI k))]) hx hb dX4_firstSent_77 hl (k := 4) rfl (nI_1 _) (by decide) rfl (fun ls hl => ?_)
              refine lv_goto (tgt := 4) hx hb dX4_firstSent_80 (by decide) ?_
              have hl9 : lv_has ls 5 [(0, .ref (h 0)), (1, .int (nI k)), (2, .int (amR x (fun d => decide (rA x 4 d = 3) && decide (rA x 15 (6 * k + d) = 0)) (i + 1))), (3, .int (nI (i + 1)))] := lv_to (lv_sub (l' := [(0, .ref (h 0)), (1, .int (nI k)), (2, .int (nI i)), (3, .int (nI (i + 1)))]) hl [3, 4, 1, 0] rfl) (lr (lr (lc (show (nI i : Int32) = amR x (fun d => decide (rA x 4 d = 3) && decide (rA x 15 (6 * k + d) = 0)) (i + 1) from by first | exact amR_a h48 h53 | exact amR_b h48 h68 | exact amR_c h53 h68 | exact amR_d h48) (lr rfl))))
              exact ih _ _ _ (by omega) ⟨hw, hl9⟩

set_option maxHeartbeats 4000000 in
set_option maxRecDepth 100000 in
theorem kX4_vote (l : Launch) (G : Cx) (h : Nat → Nat) (x : Rg) (v : Int32) : Ci l G yX4_vote cX4_vote 6 .int (Rm 2 44) (rw' G h) [.ref (h 0), .int v] x (fun r u => r = (voR x v).1 ∧ u = (voR x v).2) := by
  refine Ci.mk (by decide) (Nat.le_of_ble_eq_true rfl) ?_
  intro p e s m below meth c A ls go hw hl
  generalize s.heap = H at hw ⊢
  generalize ([] : List Loc) = locs at hw ⊢
  have hx := go.1
  have hb := go.2.1
  have hl : lv_has ls 6 [(0, .ref (h 0)), (1, .int v)] := hl
  refine lv_iload_n hx hb dX4_vote_0 rfl (lv_at hl 1 rfl) ?_
  refine lv_i2l hx hb dX4_vote_1 rfl ?_
  refine lv_lconst (v := 0) hx hb dX4_vote_2 rfl ?_
  refine lv_lconst (v := 1) hx hb dX4_vote_3 rfl ?_
  refine cal_S (kX4_in l G v.toInt64 0 1) go hw.2.2.1 hw.2.2.2.1 dX4_vote_4 (And.intro q687 (And.intro q4 q689)) q688 kyX4_in ⟨rfl, rfl⟩ ⟨Nat.le_of_ble_eq_true rfl, Nat.le_of_ble_eq_true rfl⟩ hl.1 rfl (Nat.le_of_ble_eq_true rfl) ⟨Nat.le_of_ble_eq_true rfl, Nat.le_of_ble_eq_true rfl⟩ ?_
  refine lv_if_ne (tgt := 13) hx hb dX4_vote_7 (by decide) (fun h7 => ?_) (fun h7 => ?_)
  · skip
    have h7 := bI_1 h7
    rw [inL_2] at h7
    obtain ⟨k, hk, rfl⟩ := inB_of (n := 2) h7 rfl (by decide)
    have ck : (nI k).toNatClampNeg = k := nI_clamp (by omega)
    refine lv_aload_n hx hb dX4_vote_13 rfl (lv_at hl 0 rfl) ?_
    refine lv_iload_n hx hb dX4_vote_14 rfl (lv_at hl 1 rfl) ?_
    refine cal_Vi' (kX4_firstSentV l G h x k (by omega)) go hw dX4_vote_15 (And.intro q875 (And.intro q4 q878)) q877 qs44 kyX4_firstSent ⟨Nat.le_of_ble_eq_true rfl, Nat.le_of_ble_eq_true rfl⟩ rc_M hl.1 rfl (Nat.le_of_ble_eq_true rfl) ⟨rfl, rfl⟩ ⟨Nat.le_of_ble_eq_true rfl, Nat.le_of_ble_eq_true rfl⟩ (fun H locs hw => ?_)
    by_cases hF : fvR x k = -1
    · skip
      refine toI hF ?_
      refine lv_istore_n (lv' := [(2, .int (-1)), (0, .ref (h 0)), (1, .int (nI k))]) hx hb dX4_vote_18 rfl hl (by decide) rfl (fun ls hl => ?_)
      refine lv_iload_n hx hb dX4_vote_19 rfl (lv_at hl 0 rfl) ?_
      refine lv_iconst (v := (-1)) hx hb dX4_vote_20 (by decide) ?_
      refine lv_icmp_ne (tgt := 27) hx hb dX4_vote_21 (by decide) (fun q => absurd q (by decide)) (fun _ => ?_)
      refine lv_bipush (v := (-4)) hx hb dX4_vote_24 (by decide) ?_
      refine ret_i (wf := rw' G h) go hw dX4_vote_26 ?_
      exact ⟨by simp [voR, *], by simp [voR, *]⟩
    · skip
      have hF1 := fv_cl hF
      refine toI hF1.1 ?_
      have hF2 := hF1.2
      clear hF1
      refine lv_istore_n (lv' := [(2, .int (nI ((fvR x k).toNatClampNeg))), (0, .ref (h 0)), (1, .int (nI k))]) hx hb dX4_vote_18 rfl hl (by decide) rfl (fun ls hl => ?_)
      refine lv_iload_n hx hb dX4_vote_19 rfl (lv_at hl 0 rfl) ?_
      refine lv_iconst (v := (-1)) hx hb dX4_vote_20 (by decide) ?_
      refine lv_icmp_ne (tgt := 27) hx hb dX4_vote_21 (by decide) (fun h21 => ?_) (fun h21 => absurd h21 (by exact nI_m1 (by omega)))
      refine lv_iconst (v := 0) hx hb dX4_vote_27 (by decide) ?_
      refine lv_istore_n (lv' := [(3, .int 0), (2, .int (nI ((fvR x k).toNatClampNeg))), (0, .ref (h 0)), (1, .int (nI k))]) hx hb dX4_vote_28 rfl hl (by decide) rfl (fun ls hl => ?_)
      refine lv_iconst (v := 0) hx hb dX4_vote_29 (by decide) ?_
      refine lv_istore (lv' := [(4, .int 0), (3, .int 0), (2, .int (nI ((fvR x k).toNatClampNeg))), (0, .ref (h 0)), (1, .int (nI k))]) hx hb dX4_vote_30 hl (by decide) rfl (fun ls hl => ?_)
      have hl0 : lv_has ls 6 [(0, .ref (h 0)), (1, .int (nI k)), (2, .int (nI ((fvR x k).toNatClampNeg))), (3, .int (foI (fun e a => a ||| (if rA x 4 e = 3 ∧ ¬ rA x 14 ((fvR x k).toNatClampNeg) ≤ rA x 14 e ∧ rA x 15 (6 * k + e) = 2 then rA x 10 e else 0)) 0 0)), (4, .int (nI 0))] := lv_to (lv_sub (l' := [(0, .ref (h 0)), (1, .int (nI k)), (2, .int (nI ((fvR x k).toNatClampNeg))), (3, .int 0), (4, .int 0)]) hl [3, 4, 2, 1, 0] rfl) (lr (lr (lr (lc (show (0 : Int32) = foI (fun e a => a ||| (if rA x 4 e = 3 ∧ ¬ rA x 14 ((fvR x k).toNatClampNeg) ≤ rA x 14 e ∧ rA x 15 (6 * k + e) = 2 then rA x 10 e else 0)) 0 0 from rfl) (lc (show (0 : Int32) = nI 0 from rfl) rfl)))))
      refine loop_up (N := 6) (P := fun i H locs ls => Wd G A s H locs (rw' G h x) ∧ lv_has ls 6 [(0, .ref (h 0)), (1, .int (nI k)), (2, .int (nI ((fvR x k).toNatClampNeg))), (3, .int (foI (fun e a => a ||| (if rA x 4 e = 3 ∧ ¬ rA x 14 ((fvR x k).toNatClampNeg) ≤ rA x 14 e ∧ rA x 15 (6 * k + e) = 2 then rA x 10 e else 0)) 0 i)), (4, .int (nI i))]) (X := fun H locs ls => W p l e (Rm 2 44) s m ([.ref (h 0), .int (nI k)] : List Value).toArray below meth c H locs 0 0 (MQ below (va_Qi (fun r u => r = (voR x (nI k)).1 ∧ u = (voR x (nI k)).2) (PostW G (rw' G h) A) A) ([.ref (h 0), .int (nI k)] : List Value).toArray s (Rm 2 44).cells (Rm 2 44).slots A) (F0 m 32 ls [])) ?_ 0 (by omega) H locs ls ⟨hw, hl0⟩
      clear hl0 hl hw
      intro i hi ih H locs ls hP
      obtain ⟨hw, hl⟩ := hP
      refine lv_iload hx hb dX4_vote_32 (lv_at hl 4 rfl) ?_
      refine lv_bipush (v := 6) hx hb dX4_vote_34 (by decide) ?_
      refine lv_icmp_ge (tgt := 102) hx hb dX4_vote_36 (by decide) (fun h36 => ?_) (fun h36 => ?_)
      · skip
        have hE : i = 6 := lp_end h36 rfl rfl hi (by decide)
        subst hE
        refine lv_bipush (v := 15) hx hb dX4_vote_102 (by decide) ?_
        refine lv_iconst (v := 4) hx hb dX4_vote_104 (by decide) ?_
        refine lv_iload_n hx hb dX4_vote_105 rfl (lv_at hl 1 rfl) ?_
        refine lv_imul hx hb dX4_vote_106 ?_
        refine lv_ishl hx hb dX4_vote_107 ?_
        refine lv_istore (lv' := [(4, .int (15 <<< ((4 * (nI k)) &&& 31))), (0, .ref (h 0)), (1, .int (nI k)), (2, .int (nI ((fvR x k).toNatClampNeg))), (3, .int (foI (fun e a => a ||| (if rA x 4 e = 3 ∧ ¬ rA x 14 ((fvR x k).toNatClampNeg) ≤ rA x 14 e ∧ rA x 15 (6 * k + e) = 2 then rA x 10 e else 0)) 0 6))]) hx hb dX4_vote_108 hl (by decide) rfl (fun ls hl => ?_)
        refine lv_iload hx hb dX4_vote_110 (lv_at hl 0 rfl) ?_
        refine lv_aload_n hx hb dX4_vote_112 rfl (lv_at hl 1 rfl) ?_
        refine lv_iload_n hx hb dX4_vote_113 rfl (lv_at hl 3 rfl) ?_
        refine cal_Vi' (kX4_stale l G h x ((fvR x k).toNatClampNeg) (by omega)) go hw dX4_vote_114 (And.intro q830 (And.intro q4 q833)) q832 qs37 kyX4_stale ⟨Nat.le_of_ble_eq_true rfl, Nat.le_of_ble_eq_true rfl⟩ rc_M hl.1 rfl (Nat.le_of_ble_eq_true rfl) ⟨rfl, rfl⟩ ⟨Nat.le_of_ble_eq_true rfl, Nat.le_of_ble_eq_true rfl⟩ (fun H locs hw => ?_)
        refine lv_aload_n hx hb dX4_vote_117 rfl (lv_at hl 1 rfl) ?_
        refine gM (k := 9) (v := .ref (h 10)) rfl (by decide) rfl go hw dX4_vote_118 q599 ?_
        refine lv_iload_n hx hb dX4_vote_121 rfl (lv_at hl 3 rfl) ?_
        refine aM (k := 9) (j := (fvR x k).toNatClampNeg) rfl (by decide) (by exact hF2) go hw dX4_vote_122 ?_
        refine lv_iload_n hx hb dX4_vote_123 rfl (lv_at hl 4 rfl) ?_
        refine lv_iand hx hb dX4_vote_124 ?_
        refine lv_ior hx hb dX4_vote_125 ?_
        refine lv_iand hx hb dX4_vote_126 ?_
        refine lv_if_ne (tgt := 134) hx hb dX4_vote_127 (by decide) (fun h127 => ?_) (fun h127 => ?_)
        · skip
          refine lv_iconst (v := 0) hx hb dX4_vote_134 (by decide) ?_
          refine toI (show 0 = bI (vyR x k ((fvR x k).toNatClampNeg)) from by first | (rw [vyR, bfR, decide_eq_true h127]; rfl) | (rw [vyR, bfR, decide_eq_false h127]; rfl)) ?_
          refine lv_istore (lv' := [(5, .int (bI (vyR x k ((fvR x k).toNatClampNeg)))), (4, .int (15 <<< ((4 * (nI k)) &&& 31))), (0, .ref (h 0)), (1, .int (nI k)), (2, .int (nI ((fvR x k).toNatClampNeg))), (3, .int (foI (fun e a => a ||| (if rA x 4 e = 3 ∧ ¬ rA x 14 ((fvR x k).toNatClampNeg) ≤ rA x 14 e ∧ rA x 15 (6 * k + e) = 2 then rA x 10 e else 0)) 0 6))]) hx hb dX4_vote_135 hl (by decide) rfl (fun ls hl => ?_)
          refine lv_aload_n hx hb dX4_vote_137 rfl (lv_at hl 2 rfl) ?_
          refine gM (k := 15) (v := .ref (h 16)) rfl (by decide) rfl go hw dX4_vote_138 q605 ?_
          refine lv_bipush (v := 6) hx hb dX4_vote_141 (by decide) ?_
          refine lv_iload_n hx hb dX4_vote_143 rfl (lv_at hl 3 rfl) ?_
          refine lv_imul hx hb dX4_vote_144 ?_
          refine lv_iload_n hx hb dX4_vote_145 rfl (lv_at hl 4 rfl) ?_
          refine lv_iadd hx hb dX4_vote_146 ?_
          refine lv_iload hx hb dX4_vote_147 (lv_at hl 0 rfl) ?_
          refine lv_if_eq (tgt := 156) hx hb dX4_vote_149 (by decide) (fun h149 => ?_) (fun h149 => ?_)
          · skip
            have h149 := bI_0 h149
            refine lv_iconst (v := 1) hx hb dX4_vote_156 (by decide) ?_
            refine toI (show 1 = (if vyR x k ((fvR x k).toNatClampNeg) = true then 2 else 1) from by first | exact (if_pos h149).symm | exact (if_neg (by rw [h149]; decide)).symm) ?_
            refine toI2 (show ((6 * (nI k)) + (nI ((fvR x k).toNatClampNeg)) : Int32) = nI (6 * k + (fvR x k).toNatClampNeg) from by rw [show (6 : Int32) = nI 6 from rfl, pk_mul, nI_add]) ?_
            refine sM (k := 15) (j := (6 * k + (fvR x k).toNatClampNeg)) rfl (by decide) (by show 6 * k + (fvR x k).toNatClampNeg < 12; omega) go hw dX4_vote_157 (fun H locs hw => ?_)
            refine lv_iload hx hb dX4_vote_158 (lv_at hl 0 rfl) ?_
            refine lv_if_eq (tgt := 167) hx hb dX4_vote_160 (by decide) (fun h160 => ?_) (fun h160 => ?_)
            · skip
              have h160 := bI_0 h160
              refine lv_iconst (v := 0) hx hb dX4_vote_167 (by decide) ?_
              refine toI (show 0 = bI (vyR x k ((fvR x k).toNatClampNeg)) from by rw [h160]; rfl) ?_
              refine ret_i (wf := rw' G h) go hw dX4_vote_168 ?_
              exact ⟨by rw [voR, if_pos h7, ck, if_neg hF], by rw [voR, if_pos h7, ck, if_neg hF]⟩
            · skip
              have h160 := bI_1 h160
              refine lv_iconst (v := 1) hx hb dX4_vote_163 (by decide) ?_
              refine lv_goto (tgt := 168) hx hb dX4_vote_164 (by decide) ?_
              refine toI (show 1 = bI (vyR x k ((fvR x k).toNatClampNeg)) from by rw [h160]; rfl) ?_
              refine ret_i (wf := rw' G h) go hw dX4_vote_168 ?_
              exact ⟨by rw [voR, if_pos h7, ck, if_neg hF], by rw [voR, if_pos h7, ck, if_neg hF]⟩
          · skip
            have h149 := bI_1 h149
            refine lv_iconst (v := 2) hx hb dX4_vote_152 (by decide) ?_
            refine lv_goto (tgt := 157) hx hb dX4_vote_153 (by decide) ?_
            refine toI (show 2 = (if vyR x k ((fvR x k).toNatClampNeg) = true then 2 else 1) from by first | exact (if_pos h149).symm | exact (if_neg (by rw [h149]; decide)).symm) ?_
            refine toI2 (show ((6 * (nI k)) + (nI ((fvR x k).toNatClampNeg)) : Int32) = nI (6 * k + (fvR x k).toNatClampNeg) from by rw [show (6 : Int32) = nI 6 from rfl, pk_mul, nI_add]) ?_
            refine sM (k := 15) (j := (6 * k + (fvR x k).toNatClampNeg)) rfl (by decide) (by show 6 * k + (fvR x k).toNatClampNeg < 12; omega) go hw dX4_vote_157 (fun H locs hw => ?_)
            refine lv_iload hx hb dX4_vote_158 (lv_at hl 0 rfl) ?_
            refine lv_if_eq (tgt := 167) hx hb dX4_vote_160 (by decide) (fun h160 => ?_) (fun h160 => ?_)
            · skip
              have h160 := bI_0 h160
              refine lv_iconst (v := 0) hx hb dX4_vote_167 (by decide) ?_
              refine toI (show 0 = bI (vyR x k ((fvR x k).toNatClampNeg)) from by rw [h160]; rfl) ?_
              refine ret_i (wf := rw' G h) go hw dX4_vote_168 ?_
              exact ⟨by rw [voR, if_pos h7, ck, if_neg hF], by rw [voR, if_pos h7, ck, if_neg hF]⟩
            · skip
              have h160 := bI_1 h160
              refine lv_iconst (v := 1) hx hb dX4_vote_163 (by decide) ?_
              refine lv_goto (tgt := 168) hx hb dX4_vote_164 (by decide) ?_
              refine toI (show 1 = bI (vyR x k ((fvR x k).toNatClampNeg)) from by rw [h160]; rfl) ?_
              refine ret_i (wf := rw' G h) go hw dX4_vote_168 ?_
              exact ⟨by rw [voR, if_pos h7, ck, if_neg hF], by rw [voR, if_pos h7, ck, if_neg hF]⟩
        · skip
          refine lv_iconst (v := 1) hx hb dX4_vote_130 (by decide) ?_
          refine lv_goto (tgt := 135) hx hb dX4_vote_131 (by decide) ?_
          refine toI (show 1 = bI (vyR x k ((fvR x k).toNatClampNeg)) from by first | (rw [vyR, bfR, decide_eq_true h127]; rfl) | (rw [vyR, bfR, decide_eq_false h127]; rfl)) ?_
          refine lv_istore (lv' := [(5, .int (bI (vyR x k ((fvR x k).toNatClampNeg)))), (4, .int (15 <<< ((4 * (nI k)) &&& 31))), (0, .ref (h 0)), (1, .int (nI k)), (2, .int (nI ((fvR x k).toNatClampNeg))), (3, .int (foI (fun e a => a ||| (if rA x 4 e = 3 ∧ ¬ rA x 14 ((fvR x k).toNatClampNeg) ≤ rA x 14 e ∧ rA x 15 (6 * k + e) = 2 then rA x 10 e else 0)) 0 6))]) hx hb dX4_vote_135 hl (by decide) rfl (fun ls hl => ?_)
          refine lv_aload_n hx hb dX4_vote_137 rfl (lv_at hl 2 rfl) ?_
          refine gM (k := 15) (v := .ref (h 16)) rfl (by decide) rfl go hw dX4_vote_138 q605 ?_
          refine lv_bipush (v := 6) hx hb dX4_vote_141 (by decide) ?_
          refine lv_iload_n hx hb dX4_vote_143 rfl (lv_at hl 3 rfl) ?_
          refine lv_imul hx hb dX4_vote_144 ?_
          refine lv_iload_n hx hb dX4_vote_145 rfl (lv_at hl 4 rfl) ?_
          refine lv_iadd hx hb dX4_vote_146 ?_
          refine lv_iload hx hb dX4_vote_147 (lv_at hl 0 rfl) ?_
          refine lv_if_eq (tgt := 156) hx hb dX4_vote_149 (by decide) (fun h149 => ?_) (fun h149 => ?_)
          · skip
            have h149 := bI_0 h149
            refine lv_iconst (v := 1) hx hb dX4_vote_156 (by decide) ?_
            refine toI (show 1 = (if vyR x k ((fvR x k).toNatClampNeg) = true then 2 else 1) from by first | exact (if_pos h149).symm | exact (if_neg (by rw [h149]; decide)).symm) ?_
            refine toI2 (show ((6 * (nI k)) + (nI ((fvR x k).toNatClampNeg)) : Int32) = nI (6 * k + (fvR x k).toNatClampNeg) from by rw [show (6 : Int32) = nI 6 from rfl, pk_mul, nI_add]) ?_
            refine sM (k := 15) (j := (6 * k + (fvR x k).toNatClampNeg)) rfl (by decide) (by show 6 * k + (fvR x k).toNatClampNeg < 12; omega) go hw dX4_vote_157 (fun H locs hw => ?_)
            refine lv_iload hx hb dX4_vote_158 (lv_at hl 0 rfl) ?_
            refine lv_if_eq (tgt := 167) hx hb dX4_vote_160 (by decide) (fun h160 => ?_) (fun h160 => ?_)
            · skip
              have h160 := bI_0 h160
              refine lv_iconst (v := 0) hx hb dX4_vote_167 (by decide) ?_
              refine toI (show 0 = bI (vyR x k ((fvR x k).toNatClampNeg)) from by rw [h160]; rfl) ?_
              refine ret_i (wf := rw' G h) go hw dX4_vote_168 ?_
              exact ⟨by rw [voR, if_pos h7, ck, if_neg hF], by rw [voR, if_pos h7, ck, if_neg hF]⟩
            · skip
              have h160 := bI_1 h160
              refine lv_iconst (v := 1) hx hb dX4_vote_163 (by decide) ?_
              refine lv_goto (tgt := 168) hx hb dX4_vote_164 (by decide) ?_
              refine toI (show 1 = bI (vyR x k ((fvR x k).toNatClampNeg)) from by rw [h160]; rfl) ?_
              refine ret_i (wf := rw' G h) go hw dX4_vote_168 ?_
              exact ⟨by rw [voR, if_pos h7, ck, if_neg hF], by rw [voR, if_pos h7, ck, if_neg hF]⟩
          · skip
            have h149 := bI_1 h149
            refine lv_iconst (v := 2) hx hb dX4_vote_152 (by decide) ?_
            refine lv_goto (tgt := 157) hx hb dX4_vote_153 (by decide) ?_
            refine toI (show 2 = (if vyR x k ((fvR x k).toNatClampNeg) = true then 2 else 1) from by first | exact (if_pos h149).symm | exact (if_neg (by rw [h149]; decide)).symm) ?_
            refine toI2 (show ((6 * (nI k)) + (nI ((fvR x k).toNatClampNeg)) : Int32) = nI (6 * k + (fvR x k).toNatClampNeg) from by rw [show (6 : Int32) = nI 6 from rfl, pk_mul, nI_add]) ?_
            refine sM (k := 15) (j := (6 * k + (fvR x k).toNatClampNeg)) rfl (by decide) (by show 6 * k + (fvR x k).toNatClampNeg < 12; omega) go hw dX4_vote_157 (fun H locs hw => ?_)
            refine lv_iload hx hb dX4_vote_158 (lv_at hl 0 rfl) ?_
            refine lv_if_eq (tgt := 167) hx hb dX4_vote_160 (by decide) (fun h160 => ?_) (fun h160 => ?_)
            · skip
              have h160 := bI_0 h160
              refine lv_iconst (v := 0) hx hb dX4_vote_167 (by decide) ?_
              refine toI (show 0 = bI (vyR x k ((fvR x k).toNatClampNeg)) from by rw [h160]; rfl) ?_
              refine ret_i (wf := rw' G h) go hw dX4_vote_168 ?_
              exact ⟨by rw [voR, if_pos h7, ck, if_neg hF], by rw [voR, if_pos h7, ck, if_neg hF]⟩
            · skip
              have h160 := bI_1 h160
              refine lv_iconst (v := 1) hx hb dX4_vote_163 (by decide) ?_
              refine lv_goto (tgt := 168) hx hb dX4_vote_164 (by decide) ?_
              refine toI (show 1 = bI (vyR x k ((fvR x k).toNatClampNeg)) from by rw [h160]; rfl) ?_
              refine ret_i (wf := rw' G h) go hw dX4_vote_168 ?_
              exact ⟨by rw [voR, if_pos h7, ck, if_neg hF], by rw [voR, if_pos h7, ck, if_neg hF]⟩
      · skip
        have hlt : i < 6 := lp_in h36 rfl rfl hi (by decide)
        refine lv_iload_n hx hb dX4_vote_39 rfl (lv_at hl 3 rfl) ?_
        refine lv_aload_n hx hb dX4_vote_40 rfl (lv_at hl 0 rfl) ?_
        refine gM (k := 4) (v := .ref (h 5)) rfl (by decide) rfl go hw dX4_vote_41 q594 ?_
        refine lv_iload hx hb dX4_vote_44 (lv_at hl 4 rfl) ?_
        refine aM (k := 4) (j := i) rfl (by decide) (by exact hlt) go hw dX4_vote_46 ?_
        refine lv_iconst (v := 3) hx hb dX4_vote_47 (by decide) ?_
        refine lv_icmp_ne (tgt := 93) hx hb dX4_vote_48 (by decide) (fun h48 => ?_) (fun h48 => ?_)
        · skip
          refine lv_iconst (v := 0) hx hb dX4_vote_93 (by decide) ?_
          refine toI (show 0 = (if rA x 4 i = 3 ∧ ¬ rA x 14 ((fvR x k).toNatClampNeg) ≤ rA x 14 i ∧ rA x 15 (6 * k + i) = 2 then rA x 10 i else 0) from by simp [*]) ?_
          refine lv_ior hx hb dX4_vote_94 ?_
          refine lv_istore_n (lv' := [(3, .int ((foI (fun e a => a ||| (if rA x 4 e = 3 ∧ ¬ rA x 14 ((fvR x k).toNatClampNeg) ≤ rA x 14 e ∧ rA x 15 (6 * k + e) = 2 then rA x 10 e else 0)) 0 i) ||| (if rA x 4 i = 3 ∧ ¬ rA x 14 ((fvR x k).toNatClampNeg) ≤ rA x 14 i ∧ rA x 15 (6 * k + i) = 2 then rA x 10 i else 0))), (0, .ref (h 0)), (1, .int (nI k)), (2, .int (nI ((fvR x k).toNatClampNeg))), (4, .int (nI i))]) hx hb dX4_vote_95 rfl hl (by decide) rfl (fun ls hl => ?_)
          refine lv_iinc (v := nI (i + 1)) (lv' := [(4, .int (nI (i + 1))), (3, .int ((foI (fun e a => a ||| (if rA x 4 e = 3 ∧ ¬ rA x 14 ((fvR x k).toNatClampNeg) ≤ rA x 14 e ∧ rA x 15 (6 * k + e) = 2 then rA x 10 e else 0)) 0 i) ||| (if rA x 4 i = 3 ∧ ¬ rA x 14 ((fvR x k).toNatClampNeg) ≤ rA x 14 i ∧ rA x 15 (6 * k + i) = 2 then rA x 10 i else 0))), (0, .ref (h 0)), (1, .int (nI k)), (2, .int (nI ((fvR x k).toNatClampNeg)))]) hx hb dX4_vote_96 hl (k := 4) rfl (nI_1 _) (by decide) rfl (fun ls hl => ?_)
          refine lv_goto (tgt := 32) hx hb dX4_vote_99 (by decide) ?_
          have hl9 : lv_has ls 6 [(0, .ref (h 0)), (1, .int (nI k)), (2, .int (nI ((fvR x k).toNatClampNeg))), (3, .int (foI (fun e a => a ||| (if rA x 4 e = 3 ∧ ¬ rA x 14 ((fvR x k).toNatClampNeg) ≤ rA x 14 e ∧ rA x 15 (6 * k + e) = 2 then rA x 10 e else 0)) 0 (i + 1))), (4, .int (nI (i + 1)))] := lv_to (lv_sub (l' := [(0, .ref (h 0)), (1, .int (nI k)), (2, .int (nI ((fvR x k).toNatClampNeg))), (3, .int ((foI (fun e a => a ||| (if rA x 4 e = 3 ∧ ¬ rA x 14 ((fvR x k).toNatClampNeg) ≤ rA x 14 e ∧ rA x 15 (6 * k + e) = 2 then rA x 10 e else 0)) 0 i) ||| (if rA x 4 i = 3 ∧ ¬ rA x 14 ((fvR x k).toNatClampNeg) ≤ rA x 14 i ∧ rA x 15 (6 * k + i) = 2 then rA x 10 i else 0))), (4, .int (nI (i + 1)))]) hl [2, 3, 4, 1, 0] rfl) (lr (lr (lr (lc (show ((foI (fun e a => a ||| (if rA x 4 e = 3 ∧ ¬ rA x 14 ((fvR x k).toNatClampNeg) ≤ rA x 14 e ∧ rA x 15 (6 * k + e) = 2 then rA x 10 e else 0)) 0 i) ||| (if rA x 4 i = 3 ∧ ¬ rA x 14 ((fvR x k).toNatClampNeg) ≤ rA x 14 i ∧ rA x 15 (6 * k + i) = 2 then rA x 10 i else 0) : Int32) = foI (fun e a => a ||| (if rA x 4 e = 3 ∧ ¬ rA x 14 ((fvR x k).toNatClampNeg) ≤ rA x 14 e ∧ rA x 15 (6 * k + e) = 2 then rA x 10 e else 0)) 0 (i + 1) from rfl) (lr rfl)))))
          exact ih _ _ _ (by omega) ⟨hw, hl9⟩
        · skip
          refine lv_aload_n hx hb dX4_vote_51 rfl (lv_at hl 0 rfl) ?_
          refine gM (k := 14) (v := .ref (h 15)) rfl (by decide) rfl go hw dX4_vote_52 q604 ?_
          refine lv_iload hx hb dX4_vote_55 (lv_at hl 4 rfl) ?_
          refine aM (k := 14) (j := i) rfl (by decide) (by exact hlt) go hw dX4_vote_57 ?_
          refine lv_aload_n hx hb dX4_vote_58 rfl (lv_at hl 0 rfl) ?_
          refine gM (k := 14) (v := .ref (h 15)) rfl (by decide) rfl go hw dX4_vote_59 q604 ?_
          refine lv_iload_n hx hb dX4_vote_62 rfl (lv_at hl 2 rfl) ?_
          refine aM (k := 14) (j := (fvR x k).toNatClampNeg) rfl (by decide) (by exact hF2) go hw dX4_vote_63 ?_
          refine lv_icmp_ge (tgt := 93) hx hb dX4_vote_64 (by decide) (fun h64 => ?_) (fun h64 => ?_)
          · skip
            refine lv_iconst (v := 0) hx hb dX4_vote_93 (by decide) ?_
            refine toI (show 0 = (if rA x 4 i = 3 ∧ ¬ rA x 14 ((fvR x k).toNatClampNeg) ≤ rA x 14 i ∧ rA x 15 (6 * k + i) = 2 then rA x 10 i else 0) from by simp [*]) ?_
            refine lv_ior hx hb dX4_vote_94 ?_
            refine lv_istore_n (lv' := [(3, .int ((foI (fun e a => a ||| (if rA x 4 e = 3 ∧ ¬ rA x 14 ((fvR x k).toNatClampNeg) ≤ rA x 14 e ∧ rA x 15 (6 * k + e) = 2 then rA x 10 e else 0)) 0 i) ||| (if rA x 4 i = 3 ∧ ¬ rA x 14 ((fvR x k).toNatClampNeg) ≤ rA x 14 i ∧ rA x 15 (6 * k + i) = 2 then rA x 10 i else 0))), (0, .ref (h 0)), (1, .int (nI k)), (2, .int (nI ((fvR x k).toNatClampNeg))), (4, .int (nI i))]) hx hb dX4_vote_95 rfl hl (by decide) rfl (fun ls hl => ?_)
            refine lv_iinc (v := nI (i + 1)) (lv' := [(4, .int (nI (i + 1))), (3, .int ((foI (fun e a => a ||| (if rA x 4 e = 3 ∧ ¬ rA x 14 ((fvR x k).toNatClampNeg) ≤ rA x 14 e ∧ rA x 15 (6 * k + e) = 2 then rA x 10 e else 0)) 0 i) ||| (if rA x 4 i = 3 ∧ ¬ rA x 14 ((fvR x k).toNatClampNeg) ≤ rA x 14 i ∧ rA x 15 (6 * k + i) = 2 then rA x 10 i else 0))), (0, .ref (h 0)), (1, .int (nI k)), (2, .int (nI ((fvR x k).toNatClampNeg)))]) hx hb dX4_vote_96 hl (k := 4) rfl (nI_1 _) (by decide) rfl (fun ls hl => ?_)
            refine lv_goto (tgt := 32) hx hb dX4_vote_99 (by decide) ?_
            have hl9 : lv_has ls 6 [(0, .ref (h 0)), (1, .int (nI k)), (2, .int (nI ((fvR x k).toNatClampNeg))), (3, .int (foI (fun e a => a ||| (if rA x 4 e = 3 ∧ ¬ rA x 14 ((fvR x k).toNatClampNeg) ≤ rA x 14 e ∧ rA x 15 (6 * k + e) = 2 then rA x 10 e else 0)) 0 (i + 1))), (4, .int (nI (i + 1)))] := lv_to (lv_sub (l' := [(0, .ref (h 0)), (1, .int (nI k)), (2, .int (nI ((fvR x k).toNatClampNeg))), (3, .int ((foI (fun e a => a ||| (if rA x 4 e = 3 ∧ ¬ rA x 14 ((fvR x k).toNatClampNeg) ≤ rA x 14 e ∧ rA x 15 (6 * k + e) = 2 then rA x 10 e else 0)) 0 i) ||| (if rA x 4 i = 3 ∧ ¬ rA x 14 ((fvR x k).toNatClampNeg) ≤ rA x 14 i ∧ rA x 15 (6 * k + i) = 2 then rA x 10 i else 0))), (4, .int (nI (i + 1)))]) hl [2, 3, 4, 1, 0] rfl) (lr (lr (lr (lc (show ((foI (fun e a => a ||| (if rA x 4 e = 3 ∧ ¬ rA x 14 ((fvR x k).toNatClampNeg) ≤ rA x 14 e ∧ rA x 15 (6 * k + e) = 2 then rA x 10 e else 0)) 0 i) ||| (if rA x 4 i = 3 ∧ ¬ rA x 14 ((fvR x k).toNatClampNeg) ≤ rA x 14 i ∧ rA x 15 (6 * k + i) = 2 then rA x 10 i else 0) : Int32) = foI (fun e a => a ||| (if rA x 4 e = 3 ∧ ¬ rA x 14 ((fvR x k).toNatClampNeg) ≤ rA x 14 e ∧ rA x 15 (6 * k + e) = 2 then rA x 10 e else 0)) 0 (i + 1) from rfl) (lr rfl)))))
            exact ih _ _ _ (by omega) ⟨hw, hl9⟩
          · skip
            refine lv_aload_n hx hb dX4_vote_67 rfl (lv_at hl 0 rfl) ?_
            refine gM (k := 15) (v := .ref (h 16)) rfl (by decide) rfl go hw dX4_vote_68 q605 ?_
            refine lv_bipush (v := 6) hx hb dX4_vote_71 (by decide) ?_
            refine lv_iload_n hx hb dX4_vote_73 rfl (lv_at hl 1 rfl) ?_
            refine lv_imul hx hb dX4_vote_74 ?_
            refine lv_iload hx hb dX4_vote_75 (lv_at hl 4 rfl) ?_
            refine lv_iadd hx hb dX4_vote_77 ?_
            refine toI (show ((6 * (nI k)) + (nI i) : Int32) = nI (6 * k + i) from by rw [show (6 : Int32) = nI 6 from rfl, pk_mul, nI_add]) ?_
            refine aM (k := 15) (j := (6 * k + i)) rfl (by decide) (by show 6 * k + i < 12; omega) go hw dX4_vote_78 ?_
            refine lv_iconst (v := 2) hx hb dX4_vote_79 (by decide) ?_
            refine lv_icmp_ne (tgt := 93) hx hb dX4_vote_80 (by decide) (fun h80 => ?_) (fun h80 => ?_)
            · skip
              refine lv_iconst (v := 0) hx hb dX4_vote_93 (by decide) ?_
              refine toI (show 0 = (if rA x 4 i = 3 ∧ ¬ rA x 14 ((fvR x k).toNatClampNeg) ≤ rA x 14 i ∧ rA x 15 (6 * k + i) = 2 then rA x 10 i else 0) from by simp [*]) ?_
              refine lv_ior hx hb dX4_vote_94 ?_
              refine lv_istore_n (lv' := [(3, .int ((foI (fun e a => a ||| (if rA x 4 e = 3 ∧ ¬ rA x 14 ((fvR x k).toNatClampNeg) ≤ rA x 14 e ∧ rA x 15 (6 * k + e) = 2 then rA x 10 e else 0)) 0 i) ||| (if rA x 4 i = 3 ∧ ¬ rA x 14 ((fvR x k).toNatClampNeg) ≤ rA x 14 i ∧ rA x 15 (6 * k + i) = 2 then rA x 10 i else 0))), (0, .ref (h 0)), (1, .int (nI k)), (2, .int (nI ((fvR x k).toNatClampNeg))), (4, .int (nI i))]) hx hb dX4_vote_95 rfl hl (by decide) rfl (fun ls hl => ?_)
              refine lv_iinc (v := nI (i + 1)) (lv' := [(4, .int (nI (i + 1))), (3, .int ((foI (fun e a => a ||| (if rA x 4 e = 3 ∧ ¬ rA x 14 ((fvR x k).toNatClampNeg) ≤ rA x 14 e ∧ rA x 15 (6 * k + e) = 2 then rA x 10 e else 0)) 0 i) ||| (if rA x 4 i = 3 ∧ ¬ rA x 14 ((fvR x k).toNatClampNeg) ≤ rA x 14 i ∧ rA x 15 (6 * k + i) = 2 then rA x 10 i else 0))), (0, .ref (h 0)), (1, .int (nI k)), (2, .int (nI ((fvR x k).toNatClampNeg)))]) hx hb dX4_vote_96 hl (k := 4) rfl (nI_1 _) (by decide) rfl (fun ls hl => ?_)
              refine lv_goto (tgt := 32) hx hb dX4_vote_99 (by decide) ?_
              have hl9 : lv_has ls 6 [(0, .ref (h 0)), (1, .int (nI k)), (2, .int (nI ((fvR x k).toNatClampNeg))), (3, .int (foI (fun e a => a ||| (if rA x 4 e = 3 ∧ ¬ rA x 14 ((fvR x k).toNatClampNeg) ≤ rA x 14 e ∧ rA x 15 (6 * k + e) = 2 then rA x 10 e else 0)) 0 (i + 1))), (4, .int (nI (i + 1)))] := lv_to (lv_sub (l' := [(0, .ref (h 0)), (1, .int (nI k)), (2, .int (nI ((fvR x k).toNatClampNeg))), (3, .int ((foI (fun e a => a ||| (if rA x 4 e = 3 ∧ ¬ rA x 14 ((fvR x k).toNatClampNeg) ≤ rA x 14 e ∧ rA x 15 (6 * k + e) = 2 then rA x 10 e else 0)) 0 i) ||| (if rA x 4 i = 3 ∧ ¬ rA x 14 ((fvR x k).toNatClampNeg) ≤ rA x 14 i ∧ rA x 15 (6 * k + i) = 2 then rA x 10 i else 0))), (4, .int (nI (i + 1)))]) hl [2, 3, 4, 1, 0] rfl) (lr (lr (lr (lc (show ((foI (fun e a => a ||| (if rA x 4 e = 3 ∧ ¬ rA x 14 ((fvR x k).toNatClampNeg) ≤ rA x 14 e ∧ rA x 15 (6 * k + e) = 2 then rA x 10 e else 0)) 0 i) ||| (if rA x 4 i = 3 ∧ ¬ rA x 14 ((fvR x k).toNatClampNeg) ≤ rA x 14 i ∧ rA x 15 (6 * k + i) = 2 then rA x 10 i else 0) : Int32) = foI (fun e a => a ||| (if rA x 4 e = 3 ∧ ¬ rA x 14 ((fvR x k).toNatClampNeg) ≤ rA x 14 e ∧ rA x 15 (6 * k + e) = 2 then rA x 10 e else 0)) 0 (i + 1) from rfl) (lr rfl)))))
              exact ih _ _ _ (by omega) ⟨hw, hl9⟩
            · skip
              refine lv_aload_n hx hb dX4_vote_83 rfl (lv_at hl 0 rfl) ?_
              refine gM (k := 10) (v := .ref (h 11)) rfl (by decide) rfl go hw dX4_vote_84 q600 ?_
              refine lv_iload hx hb dX4_vote_87 (lv_at hl 4 rfl) ?_
              refine aM (k := 10) (j := i) rfl (by decide) (by exact hlt) go hw dX4_vote_89 ?_
              refine lv_goto (tgt := 94) hx hb dX4_vote_90 (by decide) ?_
              refine toI (show rA x 10 i = (if rA x 4 i = 3 ∧ ¬ rA x 14 ((fvR x k).toNatClampNeg) ≤ rA x 14 i ∧ rA x 15 (6 * k + i) = 2 then rA x 10 i else 0) from by simp [*]) ?_
              refine lv_ior hx hb dX4_vote_94 ?_
              refine lv_istore_n (lv' := [(3, .int ((foI (fun e a => a ||| (if rA x 4 e = 3 ∧ ¬ rA x 14 ((fvR x k).toNatClampNeg) ≤ rA x 14 e ∧ rA x 15 (6 * k + e) = 2 then rA x 10 e else 0)) 0 i) ||| (if rA x 4 i = 3 ∧ ¬ rA x 14 ((fvR x k).toNatClampNeg) ≤ rA x 14 i ∧ rA x 15 (6 * k + i) = 2 then rA x 10 i else 0))), (0, .ref (h 0)), (1, .int (nI k)), (2, .int (nI ((fvR x k).toNatClampNeg))), (4, .int (nI i))]) hx hb dX4_vote_95 rfl hl (by decide) rfl (fun ls hl => ?_)
              refine lv_iinc (v := nI (i + 1)) (lv' := [(4, .int (nI (i + 1))), (3, .int ((foI (fun e a => a ||| (if rA x 4 e = 3 ∧ ¬ rA x 14 ((fvR x k).toNatClampNeg) ≤ rA x 14 e ∧ rA x 15 (6 * k + e) = 2 then rA x 10 e else 0)) 0 i) ||| (if rA x 4 i = 3 ∧ ¬ rA x 14 ((fvR x k).toNatClampNeg) ≤ rA x 14 i ∧ rA x 15 (6 * k + i) = 2 then rA x 10 i else 0))), (0, .ref (h 0)), (1, .int (nI k)), (2, .int (nI ((fvR x k).toNatClampNeg)))]) hx hb dX4_vote_96 hl (k := 4) rfl (nI_1 _) (by decide) rfl (fun ls hl => ?_)
              refine lv_goto (tgt := 32) hx hb dX4_vote_99 (by decide) ?_
              have hl9 : lv_has ls 6 [(0, .ref (h 0)), (1, .int (nI k)), (2, .int (nI ((fvR x k).toNatClampNeg))), (3, .int (foI (fun e a => a ||| (if rA x 4 e = 3 ∧ ¬ rA x 14 ((fvR x k).toNatClampNeg) ≤ rA x 14 e ∧ rA x 15 (6 * k + e) = 2 then rA x 10 e else 0)) 0 (i + 1))), (4, .int (nI (i + 1)))] := lv_to (lv_sub (l' := [(0, .ref (h 0)), (1, .int (nI k)), (2, .int (nI ((fvR x k).toNatClampNeg))), (3, .int ((foI (fun e a => a ||| (if rA x 4 e = 3 ∧ ¬ rA x 14 ((fvR x k).toNatClampNeg) ≤ rA x 14 e ∧ rA x 15 (6 * k + e) = 2 then rA x 10 e else 0)) 0 i) ||| (if rA x 4 i = 3 ∧ ¬ rA x 14 ((fvR x k).toNatClampNeg) ≤ rA x 14 i ∧ rA x 15 (6 * k + i) = 2 then rA x 10 i else 0))), (4, .int (nI (i + 1)))]) hl [2, 3, 4, 1, 0] rfl) (lr (lr (lr (lc (show ((foI (fun e a => a ||| (if rA x 4 e = 3 ∧ ¬ rA x 14 ((fvR x k).toNatClampNeg) ≤ rA x 14 e ∧ rA x 15 (6 * k + e) = 2 then rA x 10 e else 0)) 0 i) ||| (if rA x 4 i = 3 ∧ ¬ rA x 14 ((fvR x k).toNatClampNeg) ≤ rA x 14 i ∧ rA x 15 (6 * k + i) = 2 then rA x 10 i else 0) : Int32) = foI (fun e a => a ||| (if rA x 4 e = 3 ∧ ¬ rA x 14 ((fvR x k).toNatClampNeg) ≤ rA x 14 e ∧ rA x 15 (6 * k + e) = 2 then rA x 10 e else 0)) 0 (i + 1) from rfl) (lr rfl)))))
              exact ih _ _ _ (by omega) ⟨hw, hl9⟩
  · skip
    have h7 := bI_0 h7
    rw [inL_2] at h7
    refine lv_bipush (v := (-2)) hx hb dX4_vote_10 (by decide) ?_
    refine ret_i (wf := rw' G h) go hw dX4_vote_12 ?_
    exact ⟨by simp [voR, *], by simp [voR, *]⟩

set_option maxHeartbeats 4000000 in
set_option maxRecDepth 100000 in
theorem kX4_settle (l : Launch) (G : Cx) (h : Nat → Nat) (x : Rg) (c0 : Nat) (hc : rI x 2 = nI c0) (hc5 : c0 ≤ 512) : Ci l G yX4_settle cX4_settle 3 .int (Rm 3 68) (rw' G h) [.ref (h 0)] x (fun r u => r = (zeR x c0).1 ∧ u = (zeR x c0).2) := by
  refine Ci.mk (by decide) (Nat.le_of_ble_eq_true rfl) ?_
  intro p e s m below meth c A ls go hw hl
  generalize s.heap = H at hw ⊢
  generalize ([] : List Loc) = locs at hw ⊢
  have hx := go.1
  have hb := go.2.1
  have hl : lv_has ls 3 [(0, .ref (h 0))] := hl
  refine lv_aload_n hx hb dX4_settle_0 rfl (lv_at hl 0 rfl) ?_
  refine lv_iconst (v := (-1)) hx hb dX4_settle_1 (by decide) ?_
  refine cal_Vi' (kX4_firstSentN l G h x) go hw dX4_settle_2 (And.intro q875 (And.intro q4 q878)) q877 qs44 kyX4_firstSent ⟨Nat.le_of_ble_eq_true rfl, Nat.le_of_ble_eq_true rfl⟩ rc_M hl.1 rfl (Nat.le_of_ble_eq_true rfl) ⟨rfl, rfl⟩ ⟨Nat.le_of_ble_eq_true rfl, Nat.le_of_ble_eq_true rfl⟩ (fun H locs hw => ?_)
  by_cases hF : fnR x = -1
  · skip
    refine toI hF ?_
    refine lv_istore_n (lv' := [(1, .int (-1)), (0, .ref (h 0))]) hx hb dX4_settle_5 rfl hl (by decide) rfl (fun ls hl => ?_)
    refine lv_iload_n hx hb dX4_settle_6 rfl (lv_at hl 0 rfl) ?_
    refine lv_iconst (v := (-1)) hx hb dX4_settle_7 (by decide) ?_
    refine lv_icmp_eq (tgt := 32) hx hb dX4_settle_8 (by decide) (fun _ => ?_) (fun q => absurd q (by decide))
    refine lv_bipush (v := (-4)) hx hb dX4_settle_32 (by decide) ?_
    refine ret_i (wf := rw' G h) go hw dX4_settle_34 ?_
    exact ⟨by simp [zeR, *], by simp [zeR, *]⟩
  · skip
    have hF1 := fn_cl hF
    refine toI hF1.1 ?_
    have hF2 := hF1.2
    clear hF1
    refine lv_istore_n (lv' := [(1, .int (nI ((fnR x).toNatClampNeg))), (0, .ref (h 0))]) hx hb dX4_settle_5 rfl hl (by decide) rfl (fun ls hl => ?_)
    refine lv_iload_n hx hb dX4_settle_6 rfl (lv_at hl 0 rfl) ?_
    refine lv_iconst (v := (-1)) hx hb dX4_settle_7 (by decide) ?_
    refine lv_icmp_eq (tgt := 32) hx hb dX4_settle_8 (by decide) (fun h8 => absurd h8 (by exact nI_m1 (by omega))) (fun h8 => ?_)
    refine lv_aload_n hx hb dX4_settle_11 rfl (lv_at hl 1 rfl) ?_
    refine gM (k := 15) (v := .ref (h 16)) rfl (by decide) rfl go hw dX4_settle_12 q605 ?_
    refine lv_iload_n hx hb dX4_settle_15 rfl (lv_at hl 0 rfl) ?_
    refine aM (k := 15) (j := (fnR x).toNatClampNeg) rfl (by decide) (by show (fnR x).toNatClampNeg < 12; omega) go hw dX4_settle_16 ?_
    refine lv_if_eq (tgt := 32) hx hb dX4_settle_17 (by decide) (fun h17 => ?_) (fun h17 => ?_)
    · skip
      refine lv_bipush (v := (-4)) hx hb dX4_settle_32 (by decide) ?_
      refine ret_i (wf := rw' G h) go hw dX4_settle_34 ?_
      exact ⟨by simp [zeR, *], by simp [zeR, *]⟩
    · skip
      refine lv_aload_n hx hb dX4_settle_20 rfl (lv_at hl 1 rfl) ?_
      refine gM (k := 15) (v := .ref (h 16)) rfl (by decide) rfl go hw dX4_settle_21 q605 ?_
      refine lv_bipush (v := 6) hx hb dX4_settle_24 (by decide) ?_
      refine lv_iload_n hx hb dX4_settle_26 rfl (lv_at hl 0 rfl) ?_
      refine lv_iadd hx hb dX4_settle_27 ?_
      refine toI (show (6 + (nI ((fnR x).toNatClampNeg)) : Int32) = nI (6 + (fnR x).toNatClampNeg) from by rw [show (6 : Int32) = nI 6 from rfl, nI_add]) ?_
      refine aM (k := 15) (j := (6 + (fnR x).toNatClampNeg)) rfl (by decide) (by show 6 + (fnR x).toNatClampNeg < 12; omega) go hw dX4_settle_28 ?_
      refine lv_if_ne (tgt := 35) hx hb dX4_settle_29 (by decide) (fun h29 => ?_) (fun h29 => ?_)
      · skip
        refine lv_aload_n hx hb dX4_settle_35 rfl (lv_at hl 1 rfl) ?_
        refine gM (k := 15) (v := .ref (h 16)) rfl (by decide) rfl go hw dX4_settle_36 q605 ?_
        refine lv_iload_n hx hb dX4_settle_39 rfl (lv_at hl 0 rfl) ?_
        refine aM (k := 15) (j := (fnR x).toNatClampNeg) rfl (by decide) (by show (fnR x).toNatClampNeg < 12; omega) go hw dX4_settle_40 ?_
        refine lv_iconst (v := 2) hx hb dX4_settle_41 (by decide) ?_
        refine lv_icmp_ne (tgt := 65) hx hb dX4_settle_42 (by decide) (fun h42 => ?_) (fun h42 => ?_)
        · skip
          refine lv_aload_n hx hb dX4_settle_65 rfl (lv_at hl 1 rfl) ?_
          refine lv_iload_n hx hb dX4_settle_66 rfl (lv_at hl 0 rfl) ?_
          refine cal_Vi' (kX4_stale l G h x ((fnR x).toNatClampNeg) (by omega)) go hw dX4_settle_67 (And.intro q830 (And.intro q4 q833)) q832 qs37 kyX4_stale ⟨Nat.le_of_ble_eq_true rfl, Nat.le_of_ble_eq_true rfl⟩ rc_M hl.1 rfl (Nat.le_of_ble_eq_true rfl) ⟨rfl, rfl⟩ ⟨Nat.le_of_ble_eq_true rfl, Nat.le_of_ble_eq_true rfl⟩ (fun H locs hw => ?_)
          refine lv_if_ne (tgt := 78) hx hb dX4_settle_70 (by decide) (fun h70 => ?_) (fun h70 => ?_)
          · skip
            refine lv_bipush (v := (-11)) hx hb dX4_settle_78 (by decide) ?_
            refine lv_istore_n (lv' := [(2, .int (-11)), (1, .int (nI ((fnR x).toNatClampNeg))), (0, .ref (h 0))]) hx hb dX4_settle_80 rfl hl (by decide) rfl (fun ls hl => ?_)
            refine lv_aload_n hx hb dX4_settle_81 rfl (lv_at hl 2 rfl) ?_
            refine lv_iload_n hx hb dX4_settle_82 rfl (lv_at hl 1 rfl) ?_
            refine lv_iload_n hx hb dX4_settle_83 rfl (lv_at hl 0 rfl) ?_
            refine cal_Vv' (kX4_fails l G h x ((fnR x).toNatClampNeg) (by omega) (-11)) go hw dX4_settle_84 (And.intro q850 (And.intro q4 q853)) q852 qs42 kyX4_fails ⟨Nat.le_of_ble_eq_true rfl, Nat.le_of_ble_eq_true rfl⟩ rc_M hl.1 rfl (Nat.le_of_ble_eq_true rfl) ⟨rfl, rfl⟩ ⟨Nat.le_of_ble_eq_true rfl, Nat.le_of_ble_eq_true rfl⟩ (fun H locs hw => ?_)
            refine lv_iload_n hx hb dX4_settle_87 rfl (lv_at hl 0 rfl) ?_
            refine ret_i (wf := rw' G h) go hw dX4_settle_88 ?_
            exact ⟨by simp [zeR, *], by simp [zeR, *]⟩
          · skip
            refine lv_bipush (v := (-12)) hx hb dX4_settle_73 (by decide) ?_
            refine lv_goto (tgt := 80) hx hb dX4_settle_75 (by decide) ?_
            refine lv_istore_n (lv' := [(2, .int (-12)), (1, .int (nI ((fnR x).toNatClampNeg))), (0, .ref (h 0))]) hx hb dX4_settle_80 rfl hl (by decide) rfl (fun ls hl => ?_)
            refine lv_aload_n hx hb dX4_settle_81 rfl (lv_at hl 2 rfl) ?_
            refine lv_iload_n hx hb dX4_settle_82 rfl (lv_at hl 1 rfl) ?_
            refine lv_iload_n hx hb dX4_settle_83 rfl (lv_at hl 0 rfl) ?_
            refine cal_Vv' (kX4_fails l G h x ((fnR x).toNatClampNeg) (by omega) (-12)) go hw dX4_settle_84 (And.intro q850 (And.intro q4 q853)) q852 qs42 kyX4_fails ⟨Nat.le_of_ble_eq_true rfl, Nat.le_of_ble_eq_true rfl⟩ rc_M hl.1 rfl (Nat.le_of_ble_eq_true rfl) ⟨rfl, rfl⟩ ⟨Nat.le_of_ble_eq_true rfl, Nat.le_of_ble_eq_true rfl⟩ (fun H locs hw => ?_)
            refine lv_iload_n hx hb dX4_settle_87 rfl (lv_at hl 0 rfl) ?_
            refine ret_i (wf := rw' G h) go hw dX4_settle_88 ?_
            exact ⟨by simp [zeR, *], by simp [zeR, *]⟩
        · skip
          refine lv_aload_n hx hb dX4_settle_45 rfl (lv_at hl 1 rfl) ?_
          refine gM (k := 15) (v := .ref (h 16)) rfl (by decide) rfl go hw dX4_settle_46 q605 ?_
          refine lv_bipush (v := 6) hx hb dX4_settle_49 (by decide) ?_
          refine lv_iload_n hx hb dX4_settle_51 rfl (lv_at hl 0 rfl) ?_
          refine lv_iadd hx hb dX4_settle_52 ?_
          refine toI (show (6 + (nI ((fnR x).toNatClampNeg)) : Int32) = nI (6 + (fnR x).toNatClampNeg) from by rw [show (6 : Int32) = nI 6 from rfl, nI_add]) ?_
          refine aM (k := 15) (j := (6 + (fnR x).toNatClampNeg)) rfl (by decide) (by show 6 + (fnR x).toNatClampNeg < 12; omega) go hw dX4_settle_53 ?_
          refine lv_iconst (v := 2) hx hb dX4_settle_54 (by decide) ?_
          refine lv_icmp_ne (tgt := 65) hx hb dX4_settle_55 (by decide) (fun h55 => ?_) (fun h55 => ?_)
          · skip
            refine lv_aload_n hx hb dX4_settle_65 rfl (lv_at hl 1 rfl) ?_
            refine lv_iload_n hx hb dX4_settle_66 rfl (lv_at hl 0 rfl) ?_
            refine cal_Vi' (kX4_stale l G h x ((fnR x).toNatClampNeg) (by omega)) go hw dX4_settle_67 (And.intro q830 (And.intro q4 q833)) q832 qs37 kyX4_stale ⟨Nat.le_of_ble_eq_true rfl, Nat.le_of_ble_eq_true rfl⟩ rc_M hl.1 rfl (Nat.le_of_ble_eq_true rfl) ⟨rfl, rfl⟩ ⟨Nat.le_of_ble_eq_true rfl, Nat.le_of_ble_eq_true rfl⟩ (fun H locs hw => ?_)
            refine lv_if_ne (tgt := 78) hx hb dX4_settle_70 (by decide) (fun h70 => ?_) (fun h70 => ?_)
            · skip
              refine lv_bipush (v := (-11)) hx hb dX4_settle_78 (by decide) ?_
              refine lv_istore_n (lv' := [(2, .int (-11)), (1, .int (nI ((fnR x).toNatClampNeg))), (0, .ref (h 0))]) hx hb dX4_settle_80 rfl hl (by decide) rfl (fun ls hl => ?_)
              refine lv_aload_n hx hb dX4_settle_81 rfl (lv_at hl 2 rfl) ?_
              refine lv_iload_n hx hb dX4_settle_82 rfl (lv_at hl 1 rfl) ?_
              refine lv_iload_n hx hb dX4_settle_83 rfl (lv_at hl 0 rfl) ?_
              refine cal_Vv' (kX4_fails l G h x ((fnR x).toNatClampNeg) (by omega) (-11)) go hw dX4_settle_84 (And.intro q850 (And.intro q4 q853)) q852 qs42 kyX4_fails ⟨Nat.le_of_ble_eq_true rfl, Nat.le_of_ble_eq_true rfl⟩ rc_M hl.1 rfl (Nat.le_of_ble_eq_true rfl) ⟨rfl, rfl⟩ ⟨Nat.le_of_ble_eq_true rfl, Nat.le_of_ble_eq_true rfl⟩ (fun H locs hw => ?_)
              refine lv_iload_n hx hb dX4_settle_87 rfl (lv_at hl 0 rfl) ?_
              refine ret_i (wf := rw' G h) go hw dX4_settle_88 ?_
              exact ⟨by simp [zeR, *], by simp [zeR, *]⟩
            · skip
              refine lv_bipush (v := (-12)) hx hb dX4_settle_73 (by decide) ?_
              refine lv_goto (tgt := 80) hx hb dX4_settle_75 (by decide) ?_
              refine lv_istore_n (lv' := [(2, .int (-12)), (1, .int (nI ((fnR x).toNatClampNeg))), (0, .ref (h 0))]) hx hb dX4_settle_80 rfl hl (by decide) rfl (fun ls hl => ?_)
              refine lv_aload_n hx hb dX4_settle_81 rfl (lv_at hl 2 rfl) ?_
              refine lv_iload_n hx hb dX4_settle_82 rfl (lv_at hl 1 rfl) ?_
              refine lv_iload_n hx hb dX4_settle_83 rfl (lv_at hl 0 rfl) ?_
              refine cal_Vv' (kX4_fails l G h x ((fnR x).toNatClampNeg) (by omega) (-12)) go hw dX4_settle_84 (And.intro q850 (And.intro q4 q853)) q852 qs42 kyX4_fails ⟨Nat.le_of_ble_eq_true rfl, Nat.le_of_ble_eq_true rfl⟩ rc_M hl.1 rfl (Nat.le_of_ble_eq_true rfl) ⟨rfl, rfl⟩ ⟨Nat.le_of_ble_eq_true rfl, Nat.le_of_ble_eq_true rfl⟩ (fun H locs hw => ?_)
              refine lv_iload_n hx hb dX4_settle_87 rfl (lv_at hl 0 rfl) ?_
              refine ret_i (wf := rw' G h) go hw dX4_settle_88 ?_
              exact ⟨by simp [zeR, *], by simp [zeR, *]⟩
          · skip
            refine lv_aload_n hx hb dX4_settle_58 rfl (lv_at hl 1 rfl) ?_
            refine lv_iload_n hx hb dX4_settle_59 rfl (lv_at hl 0 rfl) ?_
            refine lv_iconst (v := 3) hx hb dX4_settle_60 (by decide) ?_
            refine cal_Vi' (kX4_commits l G h x c0 hc (by omega) ((fnR x).toNatClampNeg) (by omega) 3) go hw dX4_settle_61 (And.intro q854 (And.intro q4 q857)) q856 qs43 kyX4_commits ⟨Nat.le_of_ble_eq_true rfl, Nat.le_of_ble_eq_true rfl⟩ rc_M hl.1 rfl (Nat.le_of_ble_eq_true rfl) ⟨rfl, rfl⟩ ⟨Nat.le_of_ble_eq_true rfl, Nat.le_of_ble_eq_true rfl⟩ (fun H locs hw => ?_)
            refine ret_i (wf := rw' G h) go hw dX4_settle_64 ?_
            exact ⟨by simp [zeR, *], by simp [zeR, *]⟩
      · skip
        refine lv_bipush (v := (-4)) hx hb dX4_settle_32 (by decide) ?_
        refine ret_i (wf := rw' G h) go hw dX4_settle_34 ?_
        exact ⟨by simp [zeR, *], by simp [zeR, *]⟩

set_option maxHeartbeats 4000000 in
set_option maxRecDepth 100000 in
theorem kX4_deal (l : Launch) (G : Cx) (h : Nat → Nat) (x : Rg) (c0 : Nat) (hc : rI x 2 = nI c0) (hc5 : c0 ≤ 512) (hS : ∀ d, d < 6 → rA x 5 d = nI ((rA x 5 d).toNatClampNeg) ∧ (rA x 5 d).toNatClampNeg ≤ c0) (a w : Int32) : Ci l G yX4_deal cX4_deal 3 .int (Rm 2 45) (rw' G h) [.ref (h 0), .int a, .int w] x (fun r u => r = deR x c0 a w ∧ u = x) := by
  refine Ci.mk (by decide) (Nat.le_of_ble_eq_true rfl) ?_
  intro p e s m below meth c A ls go hw hl
  generalize s.heap = H at hw ⊢
  generalize ([] : List Loc) = locs at hw ⊢
  have hx := go.1
  have hb := go.2.1
  have hl : lv_has ls 3 [(0, .ref (h 0)), (1, .int a), (2, .int w)] := hl
  refine lv_iload_n hx hb dX4_deal_0 rfl (lv_at hl 1 rfl) ?_
  refine cal_S (kX4_isDeal l G a) go hw.2.2.1 hw.2.2.2.1 dX4_deal_1 (And.intro q777 (And.intro q4 q779)) q778 kyX4_isDeal ⟨rfl, rfl⟩ ⟨Nat.le_of_ble_eq_true rfl, Nat.le_of_ble_eq_true rfl⟩ hl.1 rfl (Nat.le_of_ble_eq_true rfl) ⟨Nat.le_of_ble_eq_true rfl, Nat.le_of_ble_eq_true rfl⟩ ?_
  refine lv_if_ne (tgt := 10) hx hb dX4_deal_4 (by decide) (fun h4 => ?_) (fun h4 => ?_)
  · skip
    have h4 := bI_1 h4
    obtain ⟨d, hd, rfl⟩ := inB_of (n := 6) h4 rfl (by decide)
    have cd : (nI d).toNatClampNeg = d := nI_clamp (by omega)
    refine lv_iload_n hx hb dX4_deal_10 rfl (lv_at hl 2 rfl) ?_
    by_cases w11_0 : w = 0
    · refine toI w11_0 ?_
      refine lv_tableIn (off := 61) (tgt := 72) hx hb dX4_deal_11 (by decide) (by decide) (by decide) (by decide) ?_
      refine lv_aload_n hx hb dX4_deal_72 rfl (lv_at hl 0 rfl) ?_
      refine gM (k := 4) (v := .ref (h 5)) rfl (by decide) rfl go hw dX4_deal_73 q594 ?_
      refine lv_iload_n hx hb dX4_deal_76 rfl (lv_at hl 1 rfl) ?_
      refine aM (k := 4) (j := d) rfl (by decide) (by exact hd) go hw dX4_deal_77 ?_
      refine ret_i (wf := rw' G h) go hw dX4_deal_78 ?_
      exact ⟨by simp [deR, dlR, bI, *, -hS], rfl⟩
    by_cases w11_1 : w = 1
    · refine toI w11_1 ?_
      refine lv_tableIn (off := 68) (tgt := 79) hx hb dX4_deal_11 (by decide) (by decide) (by decide) (by decide) ?_
      refine lv_aload_n hx hb dX4_deal_79 rfl (lv_at hl 0 rfl) ?_
      refine gM (k := 5) (v := .ref (h 6)) rfl (by decide) rfl go hw dX4_deal_80 q595 ?_
      refine lv_iload_n hx hb dX4_deal_83 rfl (lv_at hl 1 rfl) ?_
      refine aM (k := 5) (j := d) rfl (by decide) (by exact hd) go hw dX4_deal_84 ?_
      refine ret_i (wf := rw' G h) go hw dX4_deal_85 ?_
      exact ⟨by simp [deR, dlR, bI, *, -hS], rfl⟩
    by_cases w11_2 : w = 2
    · refine toI w11_2 ?_
      refine lv_tableIn (off := 75) (tgt := 86) hx hb dX4_deal_11 (by decide) (by decide) (by decide) (by decide) ?_
      refine lv_aload_n hx hb dX4_deal_86 rfl (lv_at hl 0 rfl) ?_
      refine gM (k := 6) (v := .ref (h 7)) rfl (by decide) rfl go hw dX4_deal_87 q596 ?_
      refine lv_iload_n hx hb dX4_deal_90 rfl (lv_at hl 1 rfl) ?_
      refine aM (k := 6) (j := d) rfl (by decide) (by exact hd) go hw dX4_deal_91 ?_
      refine ret_i (wf := rw' G h) go hw dX4_deal_92 ?_
      exact ⟨by simp [deR, dlR, bI, *, -hS], rfl⟩
    by_cases w11_3 : w = 3
    · refine toI w11_3 ?_
      refine lv_tableIn (off := 82) (tgt := 93) hx hb dX4_deal_11 (by decide) (by decide) (by decide) (by decide) ?_
      refine lv_aload_n hx hb dX4_deal_93 rfl (lv_at hl 0 rfl) ?_
      refine gM (k := 7) (v := .ref (h 8)) rfl (by decide) rfl go hw dX4_deal_94 q597 ?_
      refine lv_iload_n hx hb dX4_deal_97 rfl (lv_at hl 1 rfl) ?_
      refine aM (k := 7) (j := d) rfl (by decide) (by exact hd) go hw dX4_deal_98 ?_
      refine ret_i (wf := rw' G h) go hw dX4_deal_99 ?_
      exact ⟨by simp [deR, dlR, bI, *, -hS], rfl⟩
    by_cases w11_4 : w = 4
    · refine toI w11_4 ?_
      refine lv_tableIn (off := 89) (tgt := 100) hx hb dX4_deal_11 (by decide) (by decide) (by decide) (by decide) ?_
      refine lv_aload_n hx hb dX4_deal_100 rfl (lv_at hl 0 rfl) ?_
      refine gM (k := 9) (v := .ref (h 10)) rfl (by decide) rfl go hw dX4_deal_101 q599 ?_
      refine lv_iload_n hx hb dX4_deal_104 rfl (lv_at hl 1 rfl) ?_
      refine aM (k := 9) (j := d) rfl (by decide) (by exact hd) go hw dX4_deal_105 ?_
      refine ret_i (wf := rw' G h) go hw dX4_deal_106 ?_
      exact ⟨by simp [deR, dlR, bI, *, -hS], rfl⟩
    by_cases w11_5 : w = 5
    · refine toI w11_5 ?_
      refine lv_tableIn (off := 96) (tgt := 107) hx hb dX4_deal_11 (by decide) (by decide) (by decide) (by decide) ?_
      refine lv_aload_n hx hb dX4_deal_107 rfl (lv_at hl 0 rfl) ?_
      refine gM (k := 10) (v := .ref (h 11)) rfl (by decide) rfl go hw dX4_deal_108 q600 ?_
      refine lv_iload_n hx hb dX4_deal_111 rfl (lv_at hl 1 rfl) ?_
      refine aM (k := 10) (j := d) rfl (by decide) (by exact hd) go hw dX4_deal_112 ?_
      refine ret_i (wf := rw' G h) go hw dX4_deal_113 ?_
      exact ⟨by simp [deR, dlR, bI, *, -hS], rfl⟩
    by_cases w11_6 : w = 6
    · refine toI w11_6 ?_
      refine lv_tableIn (off := 103) (tgt := 114) hx hb dX4_deal_11 (by decide) (by decide) (by decide) (by decide) ?_
      refine lv_aload_n hx hb dX4_deal_114 rfl (lv_at hl 0 rfl) ?_
      refine gM (k := 8) (v := .ref (h 9)) rfl (by decide) rfl go hw dX4_deal_115 q598 ?_
      refine lv_iload_n hx hb dX4_deal_118 rfl (lv_at hl 1 rfl) ?_
      refine aMz (j := d) (by exact hd) go hw dX4_deal_119 ?_
      refine lv_if_eq (tgt := 127) hx hb dX4_deal_120 (by decide) (fun h120 => ?_) (fun h120 => ?_)
      · skip
        refine lv_iconst (v := 0) hx hb dX4_deal_127 (by decide) ?_
        refine ret_i (wf := rw' G h) go hw dX4_deal_128 ?_
        exact ⟨by simp [deR, dlR, bI, *, -hS], rfl⟩
      · skip
        refine lv_iconst (v := 1) hx hb dX4_deal_123 (by decide) ?_
        refine lv_goto (tgt := 128) hx hb dX4_deal_124 (by decide) ?_
        refine ret_i (wf := rw' G h) go hw dX4_deal_128 ?_
        exact ⟨by simp [deR, dlR, bI, *, -hS], rfl⟩
    by_cases w11_7 : w = 7
    · refine toI w11_7 ?_
      refine lv_tableIn (off := 118) (tgt := 129) hx hb dX4_deal_11 (by decide) (by decide) (by decide) (by decide) ?_
      refine lv_aload_n hx hb dX4_deal_129 rfl (lv_at hl 0 rfl) ?_
      refine lv_iload_n hx hb dX4_deal_130 rfl (lv_at hl 1 rfl) ?_
      refine cal_Vi' (kX4_isStubborn l G h x d (by omega)) go hw dX4_deal_131 (And.intro q846 (And.intro q4 q849)) q848 qs41 kyX4_isStubborn ⟨Nat.le_of_ble_eq_true rfl, Nat.le_of_ble_eq_true rfl⟩ rc_M hl.1 rfl (Nat.le_of_ble_eq_true rfl) ⟨rfl, rfl⟩ ⟨Nat.le_of_ble_eq_true rfl, Nat.le_of_ble_eq_true rfl⟩ (fun H locs hw => ?_)
      refine lv_if_eq (tgt := 141) hx hb dX4_deal_134 (by decide) (fun h134 => ?_) (fun h134 => ?_)
      · skip
        have h134 := bI_0 h134
        refine lv_iconst (v := 0) hx hb dX4_deal_141 (by decide) ?_
        refine ret_i (wf := rw' G h) go hw dX4_deal_142 ?_
        exact ⟨by simp [deR, dlR, bI, *, -hS], rfl⟩
      · skip
        have h134 := bI_1 h134
        refine lv_iconst (v := 1) hx hb dX4_deal_137 (by decide) ?_
        refine lv_goto (tgt := 142) hx hb dX4_deal_138 (by decide) ?_
        refine ret_i (wf := rw' G h) go hw dX4_deal_142 ?_
        exact ⟨by simp [deR, dlR, bI, *, -hS], rfl⟩
    by_cases w11_8 : w = 8
    · refine toI w11_8 ?_
      refine lv_tableIn (off := 132) (tgt := 143) hx hb dX4_deal_11 (by decide) (by decide) (by decide) (by decide) ?_
      refine lv_aload_n hx hb dX4_deal_143 rfl (lv_at hl 0 rfl) ?_
      refine lv_iload_n hx hb dX4_deal_144 rfl (lv_at hl 1 rfl) ?_
      refine cal_Vi' (kX4_stale l G h x d (by omega)) go hw dX4_deal_145 (And.intro q830 (And.intro q4 q833)) q832 qs37 kyX4_stale ⟨Nat.le_of_ble_eq_true rfl, Nat.le_of_ble_eq_true rfl⟩ rc_M hl.1 rfl (Nat.le_of_ble_eq_true rfl) ⟨rfl, rfl⟩ ⟨Nat.le_of_ble_eq_true rfl, Nat.le_of_ble_eq_true rfl⟩ (fun H locs hw => ?_)
      refine ret_i (wf := rw' G h) go hw dX4_deal_148 ?_
      exact ⟨by simp [deR, dlR, bI, *, -hS], rfl⟩
    by_cases w11_9 : w = 9
    · refine toI w11_9 ?_
      refine lv_tableIn (off := 138) (tgt := 149) hx hb dX4_deal_11 (by decide) (by decide) (by decide) (by decide) ?_
      refine lv_aload_n hx hb dX4_deal_149 rfl (lv_at hl 0 rfl) ?_
      refine lv_iload_n hx hb dX4_deal_150 rfl (lv_at hl 1 rfl) ?_
      refine cal_Vi' (kX4_crossed l G h x c0 hc (by omega) d (by omega) (rA x 5 d).toNatClampNeg (hS _ (by omega)).1 (hS _ (by omega)).2) go hw dX4_deal_151 (And.intro q834 (And.intro q4 q837)) q836 qs38 kyX4_crossed ⟨Nat.le_of_ble_eq_true rfl, Nat.le_of_ble_eq_true rfl⟩ rc_M hl.1 rfl (Nat.le_of_ble_eq_true rfl) ⟨rfl, rfl⟩ ⟨Nat.le_of_ble_eq_true rfl, Nat.le_of_ble_eq_true rfl⟩ (fun H locs hw => ?_)
      refine ret_i (wf := rw' G h) go hw dX4_deal_154 ?_
      exact ⟨by simp [deR, dlR, bI, *, -hS], rfl⟩
    by_cases w11_10 : w = 10
    · refine toI w11_10 ?_
      refine lv_tableIn (off := 144) (tgt := 155) hx hb dX4_deal_11 (by decide) (by decide) (by decide) (by decide) ?_
      refine lv_aload_n hx hb dX4_deal_155 rfl (lv_at hl 0 rfl) ?_
      refine lv_iload_n hx hb dX4_deal_156 rfl (lv_at hl 1 rfl) ?_
      refine cal_Vi' (kX4_rivals l G h x d (by omega)) go hw dX4_deal_157 (And.intro q838 (And.intro q4 q841)) q840 qs39 kyX4_rivals ⟨Nat.le_of_ble_eq_true rfl, Nat.le_of_ble_eq_true rfl⟩ rc_M hl.1 rfl (Nat.le_of_ble_eq_true rfl) ⟨rfl, rfl⟩ ⟨Nat.le_of_ble_eq_true rfl, Nat.le_of_ble_eq_true rfl⟩ (fun H locs hw => ?_)
      refine ret_i (wf := rw' G h) go hw dX4_deal_160 ?_
      exact ⟨by simp [deR, dlR, bI, *, -hS], rfl⟩
    by_cases w11_11 : w = 11
    · refine toI w11_11 ?_
      refine lv_tableIn (off := 150) (tgt := 161) hx hb dX4_deal_11 (by decide) (by decide) (by decide) (by decide) ?_
      refine lv_aload_n hx hb dX4_deal_161 rfl (lv_at hl 0 rfl) ?_
      refine gM (k := 4) (v := .ref (h 5)) rfl (by decide) rfl go hw dX4_deal_162 q594 ?_
      refine lv_iload_n hx hb dX4_deal_165 rfl (lv_at hl 1 rfl) ?_
      refine aM (k := 4) (j := d) rfl (by decide) (by exact hd) go hw dX4_deal_166 ?_
      refine lv_iconst (v := 3) hx hb dX4_deal_167 (by decide) ?_
      refine lv_icmp_ne (tgt := 180) hx hb dX4_deal_168 (by decide) (fun h168 => ?_) (fun h168 => ?_)
      · skip
        refine lv_iconst (v := (-1)) hx hb dX4_deal_180 (by decide) ?_
        refine ret_i (wf := rw' G h) go hw dX4_deal_181 ?_
        exact ⟨by simp [deR, dlR, bI, *, -hS], rfl⟩
      · skip
        refine lv_aload_n hx hb dX4_deal_171 rfl (lv_at hl 0 rfl) ?_
        refine gM (k := 14) (v := .ref (h 15)) rfl (by decide) rfl go hw dX4_deal_172 q604 ?_
        refine lv_iload_n hx hb dX4_deal_175 rfl (lv_at hl 1 rfl) ?_
        refine aM (k := 14) (j := d) rfl (by decide) (by exact hd) go hw dX4_deal_176 ?_
        refine lv_goto (tgt := 181) hx hb dX4_deal_177 (by decide) ?_
        refine ret_i (wf := rw' G h) go hw dX4_deal_181 ?_
        exact ⟨by simp [deR, dlR, bI, *, -hS], rfl⟩
    refine lv_tableOut (tgt := 182) hx hb dX4_deal_11 (by have z0 := lv_neT (a := 0) w11_0 rfl; have z1 := lv_neT (a := 1) w11_1 rfl; have z2 := lv_neT (a := 2) w11_2 rfl; have z3 := lv_neT (a := 3) w11_3 rfl; have z4 := lv_neT (a := 4) w11_4 rfl; have z5 := lv_neT (a := 5) w11_5 rfl; have z6 := lv_neT (a := 6) w11_6 rfl; have z7 := lv_neT (a := 7) w11_7 rfl; have z8 := lv_neT (a := 8) w11_8 rfl; have z9 := lv_neT (a := 9) w11_9 rfl; have z10 := lv_neT (a := 10) w11_10 rfl; have z11 := lv_neT (a := 11) w11_11 rfl; omega) (by decide) ?_
    refine lv_bipush (v := (-3)) hx hb dX4_deal_182 (by decide) ?_
    refine ret_i (wf := rw' G h) go hw dX4_deal_184 ?_
    exact ⟨by simp [deR, dlR, bI, *, -hS], rfl⟩
  · skip
    have h4 := bI_0 h4
    refine lv_bipush (v := (-2)) hx hb dX4_deal_7 (by decide) ?_
    refine ret_i (wf := rw' G h) go hw dX4_deal_9 ?_
    exact ⟨by simp [deR, dlR, bI, *, -hS], rfl⟩

set_option maxHeartbeats 4000000 in
set_option maxRecDepth 100000 in
theorem kX4_noted (l : Launch) (G : Cx) (h : Nat → Nat) (x : Rg) (a b w : Int32) : Ci l G yX4_noted cX4_noted 5 .int (Rm 2 45) (rw' G h) [.ref (h 0), .int a, .int b, .int w] x (fun r u => r = ntR x a b w ∧ u = x) := by
  refine Ci.mk (by decide) (Nat.le_of_ble_eq_true rfl) ?_
  intro p e s m below meth c A ls go hw hl
  generalize s.heap = H at hw ⊢
  generalize ([] : List Loc) = locs at hw ⊢
  have hx := go.1
  have hb := go.2.1
  have hl : lv_has ls 5 [(0, .ref (h 0)), (1, .int a), (2, .int b), (3, .int w)] := hl
  refine lv_iload_n hx hb dX4_noted_0 rfl (lv_at hl 1 rfl) ?_
  refine cal_S (kX4_isDeal l G a) go hw.2.2.1 hw.2.2.2.1 dX4_noted_1 (And.intro q777 (And.intro q4 q779)) q778 kyX4_isDeal ⟨rfl, rfl⟩ ⟨Nat.le_of_ble_eq_true rfl, Nat.le_of_ble_eq_true rfl⟩ hl.1 rfl (Nat.le_of_ble_eq_true rfl) ⟨Nat.le_of_ble_eq_true rfl, Nat.le_of_ble_eq_true rfl⟩ ?_
  refine lv_if_eq (tgt := 14) hx hb dX4_noted_4 (by decide) (fun h4 => ?_) (fun h4 => ?_)
  · skip
    have h4 := bI_0 h4
    refine lv_bipush (v := (-2)) hx hb dX4_noted_14 (by decide) ?_
    refine ret_i (wf := rw' G h) go hw dX4_noted_16 ?_
    exact ⟨by simp [ntR, *], rfl⟩
  · skip
    have h4 := bI_1 h4
    refine lv_iload_n hx hb dX4_noted_7 rfl (lv_at hl 2 rfl) ?_
    refine cal_S (kX4_isItem l G b) go hw.2.2.1 hw.2.2.2.1 dX4_noted_8 (And.intro q748 (And.intro q4 q750)) q749 kyX4_isItem ⟨rfl, rfl⟩ ⟨Nat.le_of_ble_eq_true rfl, Nat.le_of_ble_eq_true rfl⟩ hl.1 rfl (Nat.le_of_ble_eq_true rfl) ⟨Nat.le_of_ble_eq_true rfl, Nat.le_of_ble_eq_true rfl⟩ ?_
    refine lv_if_ne (tgt := 17) hx hb dX4_noted_11 (by decide) (fun h11 => ?_) (fun h11 => ?_)
    · skip
      have h11 := bI_1 h11
      obtain ⟨d, hd, rfl⟩ := inB_of (n := 6) h4 rfl (by decide)
      have cd : (nI d).toNatClampNeg = d := nI_clamp (by omega)
      obtain ⟨i, hi, rfl⟩ := inB_of (n := 8) h11 rfl (by decide)
      have ci : (nI i).toNatClampNeg = i := nI_clamp (by omega)
      refine lv_bipush (v := 8) hx hb dX4_noted_17 (by decide) ?_
      refine lv_iload_n hx hb dX4_noted_19 rfl (lv_at hl 1 rfl) ?_
      refine lv_imul hx hb dX4_noted_20 ?_
      refine lv_iload_n hx hb dX4_noted_21 rfl (lv_at hl 2 rfl) ?_
      refine lv_iadd hx hb dX4_noted_22 ?_
      refine toI (show (8 * (nI d)) + (nI i) = nI (8 * d + i) from by rw [show (8 : Int32) = nI 8 from rfl, pk_mul, nI_add]) ?_
      refine lv_istore (lv' := [(4, .int (nI (8 * d + i))), (0, .ref (h 0)), (1, .int (nI d)), (2, .int (nI i)), (3, .int w)]) hx hb dX4_noted_23 hl (by decide) rfl (fun ls hl => ?_)
      refine lv_iload_n hx hb dX4_noted_25 rfl (lv_at hl 4 rfl) ?_
      by_cases w26_0 : w = 0
      · refine toI w26_0 ?_
        refine lv_tableIn (off := 26) (tgt := 52) hx hb dX4_noted_26 (by decide) (by decide) (by decide) (by decide) ?_
        refine lv_aload_n hx hb dX4_noted_52 rfl (lv_at hl 1 rfl) ?_
        refine gM (k := 9) (v := .ref (h 10)) rfl (by decide) rfl go hw dX4_noted_53 q599 ?_
        refine lv_iload_n hx hb dX4_noted_56 rfl (lv_at hl 2 rfl) ?_
        refine aM (k := 9) (j := d) rfl (by decide) (by exact hd) go hw dX4_noted_57 ?_
        refine lv_iload_n hx hb dX4_noted_58 rfl (lv_at hl 3 rfl) ?_
        refine cal_S (kX4_has l G (rA x 9 d) i (by omega)) go hw.2.2.1 hw.2.2.2.1 dX4_noted_59 (And.intro q761 (And.intro q4 q763)) q762 kyX4_has ⟨rfl, rfl⟩ ⟨Nat.le_of_ble_eq_true rfl, Nat.le_of_ble_eq_true rfl⟩ hl.1 rfl (Nat.le_of_ble_eq_true rfl) ⟨Nat.le_of_ble_eq_true rfl, Nat.le_of_ble_eq_true rfl⟩ ?_
        refine lv_if_eq (tgt := 75) hx hb dX4_noted_62 (by decide) (fun h62 => ?_) (fun h62 => ?_)
        · skip
          have h62 := bI_0 h62
          refine lv_iconst (v := (-1)) hx hb dX4_noted_75 (by decide) ?_
          refine ret_i (wf := rw' G h) go hw dX4_noted_76 ?_
          exact ⟨by simp [ntR, *], rfl⟩
        · skip
          have h62 := bI_1 h62
          refine lv_aload_n hx hb dX4_noted_65 rfl (lv_at hl 1 rfl) ?_
          refine gM (k := 11) (v := .ref (h 12)) rfl (by decide) rfl go hw dX4_noted_66 q601 ?_
          refine lv_iload hx hb dX4_noted_69 (lv_at hl 0 rfl) ?_
          refine aM (k := 11) (j := 8 * d + i) rfl (by decide) (by show 8 * d + i < 48; omega) go hw dX4_noted_71 ?_
          refine lv_goto (tgt := 76) hx hb dX4_noted_72 (by decide) ?_
          refine ret_i (wf := rw' G h) go hw dX4_noted_76 ?_
          exact ⟨by simp [ntR, *], rfl⟩
      by_cases w26_1 : w = 1
      · refine toI w26_1 ?_
        refine lv_tableIn (off := 51) (tgt := 77) hx hb dX4_noted_26 (by decide) (by decide) (by decide) (by decide) ?_
        refine lv_aload_n hx hb dX4_noted_77 rfl (lv_at hl 1 rfl) ?_
        refine gM (k := 9) (v := .ref (h 10)) rfl (by decide) rfl go hw dX4_noted_78 q599 ?_
        refine lv_iload_n hx hb dX4_noted_81 rfl (lv_at hl 2 rfl) ?_
        refine aM (k := 9) (j := d) rfl (by decide) (by exact hd) go hw dX4_noted_82 ?_
        refine lv_iload_n hx hb dX4_noted_83 rfl (lv_at hl 3 rfl) ?_
        refine cal_S (kX4_has l G (rA x 9 d) i (by omega)) go hw.2.2.1 hw.2.2.2.1 dX4_noted_84 (And.intro q761 (And.intro q4 q763)) q762 kyX4_has ⟨rfl, rfl⟩ ⟨Nat.le_of_ble_eq_true rfl, Nat.le_of_ble_eq_true rfl⟩ hl.1 rfl (Nat.le_of_ble_eq_true rfl) ⟨Nat.le_of_ble_eq_true rfl, Nat.le_of_ble_eq_true rfl⟩ ?_
        refine lv_if_eq (tgt := 100) hx hb dX4_noted_87 (by decide) (fun h87 => ?_) (fun h87 => ?_)
        · skip
          have h87 := bI_0 h87
          refine lv_iconst (v := (-1)) hx hb dX4_noted_100 (by decide) ?_
          refine ret_i (wf := rw' G h) go hw dX4_noted_101 ?_
          exact ⟨by simp [ntR, *], rfl⟩
        · skip
          have h87 := bI_1 h87
          refine lv_aload_n hx hb dX4_noted_90 rfl (lv_at hl 1 rfl) ?_
          refine gM (k := 12) (v := .ref (h 13)) rfl (by decide) rfl go hw dX4_noted_91 q602 ?_
          refine lv_iload hx hb dX4_noted_94 (lv_at hl 0 rfl) ?_
          refine aM (k := 12) (j := 8 * d + i) rfl (by decide) (by show 8 * d + i < 48; omega) go hw dX4_noted_96 ?_
          refine lv_goto (tgt := 101) hx hb dX4_noted_97 (by decide) ?_
          refine ret_i (wf := rw' G h) go hw dX4_noted_101 ?_
          exact ⟨by simp [ntR, *], rfl⟩
      by_cases w26_2 : w = 2
      · refine toI w26_2 ?_
        refine lv_tableIn (off := 76) (tgt := 102) hx hb dX4_noted_26 (by decide) (by decide) (by decide) (by decide) ?_
        refine lv_aload_n hx hb dX4_noted_102 rfl (lv_at hl 1 rfl) ?_
        refine gM (k := 10) (v := .ref (h 11)) rfl (by decide) rfl go hw dX4_noted_103 q600 ?_
        refine lv_iload_n hx hb dX4_noted_106 rfl (lv_at hl 2 rfl) ?_
        refine aM (k := 10) (j := d) rfl (by decide) (by exact hd) go hw dX4_noted_107 ?_
        refine lv_iload_n hx hb dX4_noted_108 rfl (lv_at hl 3 rfl) ?_
        refine cal_S (kX4_has l G (rA x 10 d) i (by omega)) go hw.2.2.1 hw.2.2.2.1 dX4_noted_109 (And.intro q761 (And.intro q4 q763)) q762 kyX4_has ⟨rfl, rfl⟩ ⟨Nat.le_of_ble_eq_true rfl, Nat.le_of_ble_eq_true rfl⟩ hl.1 rfl (Nat.le_of_ble_eq_true rfl) ⟨Nat.le_of_ble_eq_true rfl, Nat.le_of_ble_eq_true rfl⟩ ?_
        refine lv_if_eq (tgt := 125) hx hb dX4_noted_112 (by decide) (fun h112 => ?_) (fun h112 => ?_)
        · skip
          have h112 := bI_0 h112
          refine lv_iconst (v := (-1)) hx hb dX4_noted_125 (by decide) ?_
          refine ret_i (wf := rw' G h) go hw dX4_noted_126 ?_
          exact ⟨by simp [ntR, *], rfl⟩
        · skip
          have h112 := bI_1 h112
          refine lv_aload_n hx hb dX4_noted_115 rfl (lv_at hl 1 rfl) ?_
          refine gM (k := 13) (v := .ref (h 14)) rfl (by decide) rfl go hw dX4_noted_116 q603 ?_
          refine lv_iload hx hb dX4_noted_119 (lv_at hl 0 rfl) ?_
          refine aM (k := 13) (j := 8 * d + i) rfl (by decide) (by show 8 * d + i < 48; omega) go hw dX4_noted_121 ?_
          refine lv_goto (tgt := 126) hx hb dX4_noted_122 (by decide) ?_
          refine ret_i (wf := rw' G h) go hw dX4_noted_126 ?_
          exact ⟨by simp [ntR, *], rfl⟩
      refine lv_tableOut (tgt := 127) hx hb dX4_noted_26 (by have z0 := lv_neT (a := 0) w26_0 rfl; have z1 := lv_neT (a := 1) w26_1 rfl; have z2 := lv_neT (a := 2) w26_2 rfl; omega) (by decide) ?_
      refine lv_bipush (v := (-3)) hx hb dX4_noted_127 (by decide) ?_
      refine ret_i (wf := rw' G h) go hw dX4_noted_129 ?_
      exact ⟨by simp [ntR, *], rfl⟩
    · skip
      have h11 := bI_0 h11
      refine lv_bipush (v := (-2)) hx hb dX4_noted_14 (by decide) ?_
      refine ret_i (wf := rw' G h) go hw dX4_noted_16 ?_
      exact ⟨by simp [ntR, *], rfl⟩

set_option maxHeartbeats 4000000 in
set_option maxRecDepth 100000 in
theorem kX4_sent (l : Launch) (G : Cx) (h : Nat → Nat) (x : Rg) (k : Int32) : Ci l G yX4_sent cX4_sent 5 .int (Rm 0 0) (rw' G h) [.ref (h 0), .int k] x (fun r u => r = seR x k ∧ u = x) := by
  refine Ci.mk (by decide) (Nat.le_of_ble_eq_true rfl) ?_
  intro p e s m below meth c A ls go hw hl
  generalize s.heap = H at hw ⊢
  generalize ([] : List Loc) = locs at hw ⊢
  have hx := go.1
  have hb := go.2.1
  have hl : lv_has ls 5 [(0, .ref (h 0)), (1, .int k)] := hl
  refine lv_iconst (v := 0) hx hb dX4_sent_0 (by decide) ?_
  refine lv_istore_n (lv' := [(2, .int 0), (0, .ref (h 0)), (1, .int k)]) hx hb dX4_sent_1 rfl hl (by decide) rfl (fun ls hl => ?_)
  have hl0 : lv_has ls 5 [(0, .ref (h 0)), (1, .int k), (2, .int (nI 0))] := lv_to (lv_sub (l' := [(0, .ref (h 0)), (1, .int k), (2, .int 0)]) hl [1, 2, 0] rfl) (lr (lr (lc (show (0 : Int32) = nI 0 from rfl) rfl)))
  refine loop_up (N := 6) (P := fun i H locs ls => Wd G A s H locs (rw' G h x) ∧ lv_has ls 5 [(0, .ref (h 0)), (1, .int k), (2, .int (nI i))] ∧ (∀ j, j < i → seP x k j = false)) (X := fun H locs ls => W p l e (Rm 0 0) s m ([.ref (h 0), .int k] : List Value).toArray below meth c H locs 0 0 (MQ below (va_Qi (fun r u => r = seR x k ∧ u = x) (PostW G (rw' G h) A) A) ([.ref (h 0), .int k] : List Value).toArray s (Rm 0 0).cells (Rm 0 0).slots A) (F0 m 2 ls [])) ?_ 0 (by omega) H locs ls ⟨hw, hl0, (fun j hj => absurd hj (by omega))⟩
  clear hl0 hl hw
  intro i hi ih0 H locs ls hP
  obtain ⟨hw, hl, hE0⟩ := hP
  refine lv_iload_n hx hb dX4_sent_2 rfl (lv_at hl 2 rfl) ?_
  refine lv_bipush (v := 6) hx hb dX4_sent_3 (by decide) ?_
  refine lv_icmp_ge (tgt := 84) hx hb dX4_sent_5 (by decide) (fun h5 => ?_) (fun h5 => ?_)
  · skip
    have hE : i = 6 := lp_end h5 rfl rfl hi (by decide)
    subst hE
    refine lv_bipush (v := (-2)) hx hb dX4_sent_84 (by decide) ?_
    refine ret_i (wf := rw' G h) go hw dX4_sent_86 ?_
    exact ⟨by rw [seR, fstN_no hE0, if_neg (by omega)], rfl⟩
  · skip
    have hlt : i < 6 := lp_in h5 rfl rfl hi (by decide)
    refine lv_iconst (v := 0) hx hb dX4_sent_8 (by decide) ?_
    refine lv_istore_n (lv' := [(3, .int 0), (0, .ref (h 0)), (1, .int k), (2, .int (nI i))]) hx hb dX4_sent_9 rfl hl (by decide) rfl (fun ls hl => ?_)
    refine lv_iconst (v := 0) hx hb dX4_sent_10 (by decide) ?_
    refine lv_istore (lv' := [(4, .int 0), (3, .int 0), (0, .ref (h 0)), (1, .int k), (2, .int (nI i))]) hx hb dX4_sent_11 hl (by decide) rfl (fun ls hl => ?_)
    have hl0 : lv_has ls 5 [(0, .ref (h 0)), (1, .int k), (2, .int (nI i)), (3, .int (nI (cntB (fun j => decide (rA x 4 j = 3) && !decide (rA x 14 i ≤ rA x 14 j)) 0))), (4, .int (nI 0))] := lv_to (lv_sub (l' := [(0, .ref (h 0)), (1, .int k), (2, .int (nI i)), (3, .int 0), (4, .int 0)]) hl [2, 3, 4, 1, 0] rfl) (lr (lr (lr (lc (show (0 : Int32) = nI (cntB (fun j => decide (rA x 4 j = 3) && !decide (rA x 14 i ≤ rA x 14 j)) 0) from rfl) (lc (show (0 : Int32) = nI 0 from rfl) rfl)))))
    refine loop_up (N := 6) (P := fun jj H locs ls => Wd G A s H locs (rw' G h x) ∧ lv_has ls 5 [(0, .ref (h 0)), (1, .int k), (2, .int (nI i)), (3, .int (nI (cntB (fun j => decide (rA x 4 j = 3) && !decide (rA x 14 i ≤ rA x 14 j)) jj))), (4, .int (nI jj))]) (X := fun H locs ls => W p l e (Rm 0 0) s m ([.ref (h 0), .int k] : List Value).toArray below meth c H locs 0 0 (MQ below (va_Qi (fun r u => r = seR x k ∧ u = x) (PostW G (rw' G h) A) A) ([.ref (h 0), .int k] : List Value).toArray s (Rm 0 0).cells (Rm 0 0).slots A) (F0 m 13 ls [])) ?_ 0 (by omega) H locs ls ⟨hw, hl0⟩
    clear hl0 hl hw
    intro jj hi ih H locs ls hP
    obtain ⟨hw, hl⟩ := hP
    refine lv_iload hx hb dX4_sent_13 (lv_at hl 4 rfl) ?_
    refine lv_bipush (v := 6) hx hb dX4_sent_15 (by decide) ?_
    refine lv_icmp_ge (tgt := 61) hx hb dX4_sent_17 (by decide) (fun h17 => ?_) (fun h17 => ?_)
    · skip
      have hE : jj = 6 := lp_end h17 rfl rfl hi (by decide)
      subst hE
      refine lv_aload_n hx hb dX4_sent_61 rfl (lv_at hl 0 rfl) ?_
      refine gM (k := 4) (v := .ref (h 5)) rfl (by decide) rfl go hw dX4_sent_62 q594 ?_
      refine lv_iload_n hx hb dX4_sent_65 rfl (lv_at hl 2 rfl) ?_
      refine aM (k := 4) (j := i) rfl (by decide) (by show i < 6; omega) go hw dX4_sent_66 ?_
      refine lv_iconst (v := 3) hx hb dX4_sent_67 (by decide) ?_
      refine lv_icmp_ne (tgt := 78) hx hb dX4_sent_68 (by decide) (fun h68 => ?_) (fun h68 => ?_)
      · skip
        refine lv_iinc (v := nI (i + 1)) (lv' := [(2, .int (nI (i + 1))), (0, .ref (h 0)), (1, .int k), (3, .int (nI (cntB (fun j => decide (rA x 4 j = 3) && !decide (rA x 14 i ≤ rA x 14 j)) 6))), (4, .int (nI 6))]) hx hb dX4_sent_78 hl (k := 2) rfl (nI_1 _) (by decide) rfl (fun ls hl => ?_)
        refine lv_goto (tgt := 2) hx hb dX4_sent_81 (by decide) ?_
        have hl9 : lv_has ls 5 [(0, .ref (h 0)), (1, .int k), (2, .int (nI (i + 1)))] := lv_sub hl [1, 2, 0] rfl
        exact ih0 _ _ _ (by omega) ⟨hw, hl9, (lt_s hE0 (by simp [seP, abN, *]))⟩
      · skip
        refine lv_iload_n hx hb dX4_sent_71 rfl (lv_at hl 3 rfl) ?_
        refine lv_iload_n hx hb dX4_sent_72 rfl (lv_at hl 1 rfl) ?_
        refine lv_icmp_ne (tgt := 78) hx hb dX4_sent_73 (by decide) (fun h73 => ?_) (fun h73 => ?_)
        · skip
          refine lv_iinc (v := nI (i + 1)) (lv' := [(2, .int (nI (i + 1))), (0, .ref (h 0)), (1, .int k), (3, .int (nI (cntB (fun j => decide (rA x 4 j = 3) && !decide (rA x 14 i ≤ rA x 14 j)) 6))), (4, .int (nI 6))]) hx hb dX4_sent_78 hl (k := 2) rfl (nI_1 _) (by decide) rfl (fun ls hl => ?_)
          refine lv_goto (tgt := 2) hx hb dX4_sent_81 (by decide) ?_
          have hl9 : lv_has ls 5 [(0, .ref (h 0)), (1, .int k), (2, .int (nI (i + 1)))] := lv_sub hl [1, 2, 0] rfl
          exact ih0 _ _ _ (by omega) ⟨hw, hl9, (lt_s hE0 (by simp [seP, abN, *]))⟩
        · skip
          refine lv_iload_n hx hb dX4_sent_76 rfl (lv_at hl 2 rfl) ?_
          refine ret_i (wf := rw' G h) go hw dX4_sent_77 ?_
          exact ⟨by rw [seR, fstN_at (p := seP x k) (i := i) (by simp [seP, abN, *]) hE0 (by omega), if_pos (by omega)], rfl⟩
    · skip
      have hlt : jj < 6 := lp_in h17 rfl rfl hi (by decide)
      refine lv_iload_n hx hb dX4_sent_20 rfl (lv_at hl 3 rfl) ?_
      refine lv_aload_n hx hb dX4_sent_21 rfl (lv_at hl 0 rfl) ?_
      refine gM (k := 4) (v := .ref (h 5)) rfl (by decide) rfl go hw dX4_sent_22 q594 ?_
      refine lv_iload hx hb dX4_sent_25 (lv_at hl 4 rfl) ?_
      refine aM (k := 4) (j := jj) rfl (by decide) (by exact hlt) go hw dX4_sent_27 ?_
      refine lv_iconst (v := 3) hx hb dX4_sent_28 (by decide) ?_
      refine lv_icmp_ne (tgt := 52) hx hb dX4_sent_29 (by decide) (fun h29 => ?_) (fun h29 => ?_)
      · skip
        refine lv_iconst (v := 0) hx hb dX4_sent_52 (by decide) ?_
        refine lv_iadd hx hb dX4_sent_53 ?_
        refine lv_istore_n (lv' := [(3, .int ((nI (cntB (fun j => decide (rA x 4 j = 3) && !decide (rA x 14 i ≤ rA x 14 j)) jj)) + 0)), (0, .ref (h 0)), (1, .int k), (2, .int (nI i)), (4, .int (nI jj))]) hx hb dX4_sent_54 rfl hl (by decide) rfl (fun ls hl => ?_)
        refine lv_iinc (v := nI (jj + 1)) (lv' := [(4, .int (nI (jj + 1))), (3, .int ((nI (cntB (fun j => decide (rA x 4 j = 3) && !decide (rA x 14 i ≤ rA x 14 j)) jj)) + 0)), (0, .ref (h 0)), (1, .int k), (2, .int (nI i))]) hx hb dX4_sent_55 hl (k := 4) rfl (nI_1 _) (by decide) rfl (fun ls hl => ?_)
        refine lv_goto (tgt := 13) hx hb dX4_sent_58 (by decide) ?_
        have hl9 : lv_has ls 5 [(0, .ref (h 0)), (1, .int k), (2, .int (nI i)), (3, .int (nI (cntB (fun j => decide (rA x 4 j = 3) && !decide (rA x 14 i ≤ rA x 14 j)) (jj + 1)))), (4, .int (nI (jj + 1)))] := lv_to (lv_sub (l' := [(0, .ref (h 0)), (1, .int k), (2, .int (nI i)), (3, .int ((nI (cntB (fun j => decide (rA x 4 j = 3) && !decide (rA x 14 i ≤ rA x 14 j)) jj)) + 0)), (4, .int (nI (jj + 1)))]) hl [2, 3, 4, 1, 0] rfl) (lr (lr (lr (lc (show ((nI (cntB (fun j => decide (rA x 4 j = 3) && !decide (rA x 14 i ≤ rA x 14 j)) jj)) + 0 : Int32) = nI (cntB (fun j => decide (rA x 4 j = 3) && !decide (rA x 14 i ≤ rA x 14 j)) (jj + 1)) from by first | exact cntB_t (by simp [*]) | (rw [add0]; exact cntB_f (by simp [*]))) (lr rfl)))))
        exact ih _ _ _ (by omega) ⟨hw, hl9⟩
      · skip
        refine lv_aload_n hx hb dX4_sent_32 rfl (lv_at hl 0 rfl) ?_
        refine gM (k := 14) (v := .ref (h 15)) rfl (by decide) rfl go hw dX4_sent_33 q604 ?_
        refine lv_iload hx hb dX4_sent_36 (lv_at hl 4 rfl) ?_
        refine aM (k := 14) (j := jj) rfl (by decide) (by exact hlt) go hw dX4_sent_38 ?_
        refine lv_aload_n hx hb dX4_sent_39 rfl (lv_at hl 0 rfl) ?_
        refine gM (k := 14) (v := .ref (h 15)) rfl (by decide) rfl go hw dX4_sent_40 q604 ?_
        refine lv_iload_n hx hb dX4_sent_43 rfl (lv_at hl 2 rfl) ?_
        refine aM (k := 14) (j := i) rfl (by decide) (by show i < 6; omega) go hw dX4_sent_44 ?_
        refine lv_icmp_ge (tgt := 52) hx hb dX4_sent_45 (by decide) (fun h45 => ?_) (fun h45 => ?_)
        · skip
          refine lv_iconst (v := 0) hx hb dX4_sent_52 (by decide) ?_
          refine lv_iadd hx hb dX4_sent_53 ?_
          refine lv_istore_n (lv' := [(3, .int ((nI (cntB (fun j => decide (rA x 4 j = 3) && !decide (rA x 14 i ≤ rA x 14 j)) jj)) + 0)), (0, .ref (h 0)), (1, .int k), (2, .int (nI i)), (4, .int (nI jj))]) hx hb dX4_sent_54 rfl hl (by decide) rfl (fun ls hl => ?_)
          refine lv_iinc (v := nI (jj + 1)) (lv' := [(4, .int (nI (jj + 1))), (3, .int ((nI (cntB (fun j => decide (rA x 4 j = 3) && !decide (rA x 14 i ≤ rA x 14 j)) jj)) + 0)), (0, .ref (h 0)), (1, .int k), (2, .int (nI i))]) hx hb dX4_sent_55 hl (k := 4) rfl (nI_1 _) (by decide) rfl (fun ls hl => ?_)
          refine lv_goto (tgt := 13) hx hb dX4_sent_58 (by decide) ?_
          have hl9 : lv_has ls 5 [(0, .ref (h 0)), (1, .int k), (2, .int (nI i)), (3, .int (nI (cntB (fun j => decide (rA x 4 j = 3) && !decide (rA x 14 i ≤ rA x 14 j)) (jj + 1)))), (4, .int (nI (jj + 1)))] := lv_to (lv_sub (l' := [(0, .ref (h 0)), (1, .int k), (2, .int (nI i)), (3, .int ((nI (cntB (fun j => decide (rA x 4 j = 3) && !decide (rA x 14 i ≤ rA x 14 j)) jj)) + 0)), (4, .int (nI (jj + 1)))]) hl [2, 3, 4, 1, 0] rfl) (lr (lr (lr (lc (show ((nI (cntB (fun j => decide (rA x 4 j = 3) && !decide (rA x 14 i ≤ rA x 14 j)) jj)) + 0 : Int32) = nI (cntB (fun j => decide (rA x 4 j = 3) && !decide (rA x 14 i ≤ rA x 14 j)) (jj + 1)) from by first | exact cntB_t (by simp [*]) | (rw [add0]; exact cntB_f (by simp [*]))) (lr rfl)))))
          exact ih _ _ _ (by omega) ⟨hw, hl9⟩
        · skip
          refine lv_iconst (v := 1) hx hb dX4_sent_48 (by decide) ?_
          refine lv_goto (tgt := 53) hx hb dX4_sent_49 (by decide) ?_
          refine lv_iadd hx hb dX4_sent_53 ?_
          refine lv_istore_n (lv' := [(3, .int ((nI (cntB (fun j => decide (rA x 4 j = 3) && !decide (rA x 14 i ≤ rA x 14 j)) jj)) + 1)), (0, .ref (h 0)), (1, .int k), (2, .int (nI i)), (4, .int (nI jj))]) hx hb dX4_sent_54 rfl hl (by decide) rfl (fun ls hl => ?_)
          refine lv_iinc (v := nI (jj + 1)) (lv' := [(4, .int (nI (jj + 1))), (3, .int ((nI (cntB (fun j => decide (rA x 4 j = 3) && !decide (rA x 14 i ≤ rA x 14 j)) jj)) + 1)), (0, .ref (h 0)), (1, .int k), (2, .int (nI i))]) hx hb dX4_sent_55 hl (k := 4) rfl (nI_1 _) (by decide) rfl (fun ls hl => ?_)
          refine lv_goto (tgt := 13) hx hb dX4_sent_58 (by decide) ?_
          have hl9 : lv_has ls 5 [(0, .ref (h 0)), (1, .int k), (2, .int (nI i)), (3, .int (nI (cntB (fun j => decide (rA x 4 j = 3) && !decide (rA x 14 i ≤ rA x 14 j)) (jj + 1)))), (4, .int (nI (jj + 1)))] := lv_to (lv_sub (l' := [(0, .ref (h 0)), (1, .int k), (2, .int (nI i)), (3, .int ((nI (cntB (fun j => decide (rA x 4 j = 3) && !decide (rA x 14 i ≤ rA x 14 j)) jj)) + 1)), (4, .int (nI (jj + 1)))]) hl [2, 3, 4, 1, 0] rfl) (lr (lr (lr (lc (show ((nI (cntB (fun j => decide (rA x 4 j = 3) && !decide (rA x 14 i ≤ rA x 14 j)) jj)) + 1 : Int32) = nI (cntB (fun j => decide (rA x 4 j = 3) && !decide (rA x 14 i ≤ rA x 14 j)) (jj + 1)) from by first | exact cntB_t (by simp [*]) | (rw [add0]; exact cntB_f (by simp [*]))) (lr rfl)))))
          exact ih _ _ _ (by omega) ⟨hw, hl9⟩

set_option maxHeartbeats 4000000 in
set_option maxRecDepth 100000 in
theorem kX4_ballot (l : Launch) (G : Cx) (h : Nat → Nat) (x : Rg) (v a : Int32) : Ci l G yX4_ballot cX4_ballot 3 .int (Rm 2 45) (rw' G h) [.ref (h 0), .int v, .int a] x (fun r u => r = baR x v a ∧ u = x) := by
  refine Ci.mk (by decide) (Nat.le_of_ble_eq_true rfl) ?_
  intro p e s m below meth c A ls go hw hl
  generalize s.heap = H at hw ⊢
  generalize ([] : List Loc) = locs at hw ⊢
  have hx := go.1
  have hb := go.2.1
  have hl : lv_has ls 3 [(0, .ref (h 0)), (1, .int v), (2, .int a)] := hl
  refine lv_iload_n hx hb dX4_ballot_0 rfl (lv_at hl 1 rfl) ?_
  refine lv_i2l hx hb dX4_ballot_1 rfl ?_
  refine lv_lconst (v := 0) hx hb dX4_ballot_2 rfl ?_
  refine lv_lconst (v := 1) hx hb dX4_ballot_3 rfl ?_
  refine cal_S (kX4_in l G v.toInt64 0 1) go hw.2.2.1 hw.2.2.2.1 dX4_ballot_4 (And.intro q687 (And.intro q4 q689)) q688 kyX4_in ⟨rfl, rfl⟩ ⟨Nat.le_of_ble_eq_true rfl, Nat.le_of_ble_eq_true rfl⟩ hl.1 rfl (Nat.le_of_ble_eq_true rfl) ⟨Nat.le_of_ble_eq_true rfl, Nat.le_of_ble_eq_true rfl⟩ ?_
  refine lv_if_eq (tgt := 17) hx hb dX4_ballot_7 (by decide) (fun h7 => ?_) (fun h7 => ?_)
  · skip
    have h7 := bI_0 h7
    rw [inL_2] at h7
    refine lv_bipush (v := (-2)) hx hb dX4_ballot_17 (by decide) ?_
    refine ret_i (wf := rw' G h) go hw dX4_ballot_19 ?_
    exact ⟨by simp [baR, *], rfl⟩
  · skip
    have h7 := bI_1 h7
    rw [inL_2] at h7
    refine lv_iload_n hx hb dX4_ballot_10 rfl (lv_at hl 2 rfl) ?_
    refine cal_S (kX4_isDeal l G a) go hw.2.2.1 hw.2.2.2.1 dX4_ballot_11 (And.intro q777 (And.intro q4 q779)) q778 kyX4_isDeal ⟨rfl, rfl⟩ ⟨Nat.le_of_ble_eq_true rfl, Nat.le_of_ble_eq_true rfl⟩ hl.1 rfl (Nat.le_of_ble_eq_true rfl) ⟨Nat.le_of_ble_eq_true rfl, Nat.le_of_ble_eq_true rfl⟩ ?_
    refine lv_if_ne (tgt := 20) hx hb dX4_ballot_14 (by decide) (fun h14 => ?_) (fun h14 => ?_)
    · skip
      have h14 := bI_1 h14
      obtain ⟨k, hk, rfl⟩ := inB_of (n := 2) h7 rfl (by decide)
      have ck : (nI k).toNatClampNeg = k := nI_clamp (by omega)
      obtain ⟨d, hd, rfl⟩ := inB_of (n := 6) h14 rfl (by decide)
      have cd : (nI d).toNatClampNeg = d := nI_clamp (by omega)
      refine lv_aload_n hx hb dX4_ballot_20 rfl (lv_at hl 0 rfl) ?_
      refine gM (k := 4) (v := .ref (h 5)) rfl (by decide) rfl go hw dX4_ballot_21 q594 ?_
      refine lv_iload_n hx hb dX4_ballot_24 rfl (lv_at hl 2 rfl) ?_
      refine aM (k := 4) (j := d) rfl (by decide) (by exact hd) go hw dX4_ballot_25 ?_
      refine lv_iconst (v := 3) hx hb dX4_ballot_26 (by decide) ?_
      refine lv_icmp_ne (tgt := 46) hx hb dX4_ballot_27 (by decide) (fun h27 => ?_) (fun h27 => ?_)
      · skip
        refine lv_bipush (v := (-4)) hx hb dX4_ballot_46 (by decide) ?_
        refine ret_i (wf := rw' G h) go hw dX4_ballot_48 ?_
        exact ⟨by simp [baR, *], rfl⟩
      · skip
        refine lv_aload_n hx hb dX4_ballot_30 rfl (lv_at hl 0 rfl) ?_
        refine gM (k := 15) (v := .ref (h 16)) rfl (by decide) rfl go hw dX4_ballot_31 q605 ?_
        refine lv_bipush (v := 6) hx hb dX4_ballot_34 (by decide) ?_
        refine lv_iload_n hx hb dX4_ballot_36 rfl (lv_at hl 1 rfl) ?_
        refine lv_imul hx hb dX4_ballot_37 ?_
        refine lv_iload_n hx hb dX4_ballot_38 rfl (lv_at hl 2 rfl) ?_
        refine lv_iadd hx hb dX4_ballot_39 ?_
        refine toI (show ((6 * (nI k)) + (nI d) : Int32) = nI (6 * k + d) from by rw [show (6 : Int32) = nI 6 from rfl, pk_mul, nI_add]) ?_
        refine aM (k := 15) (j := (6 * k + d)) rfl (by decide) (by show 6 * k + d < 12; omega) go hw dX4_ballot_40 ?_
        refine lv_iconst (v := 1) hx hb dX4_ballot_41 (by decide) ?_
        refine lv_isub hx hb dX4_ballot_42 ?_
        refine lv_goto (tgt := 48) hx hb dX4_ballot_43 (by decide) ?_
        refine ret_i (wf := rw' G h) go hw dX4_ballot_48 ?_
        exact ⟨by simp [baR, *], rfl⟩
    · skip
      have h14 := bI_0 h14
      refine lv_bipush (v := (-2)) hx hb dX4_ballot_17 (by decide) ?_
      refine ret_i (wf := rw' G h) go hw dX4_ballot_19 ?_
      exact ⟨by simp [baR, *], rfl⟩

set_option maxHeartbeats 4000000 in
set_option maxRecDepth 100000 in
theorem kX4_log (l : Launch) (G : Cx) (h : Nat → Nat) (x : Rg) (c0 : Nat) (hc : rI x 2 = nI c0) (hc5 : c0 ≤ 512) (k w : Int32) : Ci l G yX4_log cX4_log 3 .int (Rm 2 46) (rw' G h) [.ref (h 0), .int k, .int w] x (fun r u => r = loR x c0 k w ∧ u = x) := by
  refine Ci.mk (by decide) (Nat.le_of_ble_eq_true rfl) ?_
  intro p e s m below meth c A ls go hw hl
  generalize s.heap = H at hw ⊢
  generalize ([] : List Loc) = locs at hw ⊢
  have hx := go.1
  have hb := go.2.1
  have hl : lv_has ls 3 [(0, .ref (h 0)), (1, .int k), (2, .int w)] := hl
  refine lv_aload_n hx hb dX4_log_0 rfl (lv_at hl 0 rfl) ?_
  refine lv_iload_n hx hb dX4_log_1 rfl (lv_at hl 1 rfl) ?_
  refine cal_Vi' (kX4_isCommit l G h x c0 hc k) go hw dX4_log_2 (And.intro q903 (And.intro q4 q906)) q905 qs45 kyX4_isCommit ⟨Nat.le_of_ble_eq_true rfl, Nat.le_of_ble_eq_true rfl⟩ rc_M hl.1 rfl (Nat.le_of_ble_eq_true rfl) ⟨rfl, rfl⟩ ⟨Nat.le_of_ble_eq_true rfl, Nat.le_of_ble_eq_true rfl⟩ (fun H locs hw => ?_)
  refine lv_if_ne (tgt := 11) hx hb dX4_log_5 (by decide) (fun h5 => ?_) (fun h5 => ?_)
  · skip
    have h5 := bI_1 h5
    obtain ⟨n, hn, rfl⟩ := okE_of h5 hc5
    have cn : (nI (n + 1)).toNatClampNeg = n + 1 := nI_clamp (by omega)
    refine lv_iload_n hx hb dX4_log_11 rfl (lv_at hl 2 rfl) ?_
    refine lv_i2l hx hb dX4_log_12 rfl ?_
    refine lv_lconst (v := 0) hx hb dX4_log_13 rfl ?_
    refine lv_ldc2 (v := 5) hx hb go.2.2.2.2.1 (go.2.2.2.2.2.1 _ q780) dX4_log_14 ?_
    refine cal_S (kX4_in l G w.toInt64 0 5) go hw.2.2.1 hw.2.2.2.1 dX4_log_17 (And.intro q687 (And.intro q4 q689)) q688 kyX4_in ⟨rfl, rfl⟩ ⟨Nat.le_of_ble_eq_true rfl, Nat.le_of_ble_eq_true rfl⟩ hl.1 rfl (Nat.le_of_ble_eq_true rfl) ⟨Nat.le_of_ble_eq_true rfl, Nat.le_of_ble_eq_true rfl⟩ ?_
    refine lv_if_eq (tgt := 39) hx hb dX4_log_20 (by decide) (fun h20 => ?_) (fun h20 => ?_)
    · skip
      have h20 := bI_0 h20
      rw [inL_6] at h20
      refine lv_bipush (v := (-3)) hx hb dX4_log_39 (by decide) ?_
      refine ret_i (wf := rw' G h) go hw dX4_log_41 ?_
      exact ⟨by simp [loR, *], rfl⟩
    · skip
      have h20 := bI_1 h20
      rw [inL_6] at h20
      obtain ⟨q, hq, rfl⟩ := inB_of (n := 6) h20 rfl (by decide)
      have cq : (nI q).toNatClampNeg = q := nI_clamp (by omega)
      refine lv_aload_n hx hb dX4_log_23 rfl (lv_at hl 0 rfl) ?_
      refine gM (k := 3) (v := .ref (h 4)) rfl (by decide) rfl go hw dX4_log_24 q593 ?_
      refine lv_bipush (v := 22) hx hb dX4_log_27 (by decide) ?_
      refine lv_iload_n hx hb dX4_log_29 rfl (lv_at hl 1 rfl) ?_
      refine lv_iconst (v := 1) hx hb dX4_log_30 (by decide) ?_
      refine lv_isub hx hb dX4_log_31 ?_
      refine toI (show (nI (n + 1)) - 1 = nI n from by exact nI_s1 n) ?_
      refine lv_imul hx hb dX4_log_32 ?_
      refine lv_iload_n hx hb dX4_log_33 rfl (lv_at hl 2 rfl) ?_
      refine lv_iadd hx hb dX4_log_34 ?_
      refine toI (show ((22 * (nI n)) + (nI q) : Int32) = nI (22 * n + q) from by rw [show (22 : Int32) = nI 22 from rfl, pk_mul, nI_add]) ?_
      refine aM (k := 3) (j := (22 * n + q)) rfl (by decide) (by show 22 * n + q < 13200; omega) go hw dX4_log_35 ?_
      refine lv_goto (tgt := 41) hx hb dX4_log_36 (by decide) ?_
      refine ret_i (wf := rw' G h) go hw dX4_log_41 ?_
      exact ⟨by simp [loR, *], rfl⟩
  · skip
    have h5 := bI_0 h5
    refine lv_bipush (v := (-2)) hx hb dX4_log_8 (by decide) ?_
    refine ret_i (wf := rw' G h) go hw dX4_log_10 ?_
    exact ⟨by simp [loR, *], rfl⟩

set_option maxHeartbeats 4000000 in
set_option maxRecDepth 100000 in
theorem kX4_logged (l : Launch) (G : Cx) (h : Nat → Nat) (x : Rg) (c0 : Nat) (hc : rI x 2 = nI c0) (hc5 : c0 ≤ 512) (k b w : Int32) : Ci l G yX4_logged cX4_logged 5 .int (Rm 2 46) (rw' G h) [.ref (h 0), .int k, .int b, .int w] x (fun r u => r = ldR x c0 k b w ∧ u = x) := by
  refine Ci.mk (by decide) (Nat.le_of_ble_eq_true rfl) ?_
  intro p e s m below meth c A ls go hw hl
  generalize s.heap = H at hw ⊢
  generalize ([] : List Loc) = locs at hw ⊢
  have hx := go.1
  have hb := go.2.1
  have hl : lv_has ls 5 [(0, .ref (h 0)), (1, .int k), (2, .int b), (3, .int w)] := hl
  refine lv_aload_n hx hb dX4_logged_0 rfl (lv_at hl 0 rfl) ?_
  refine lv_iload_n hx hb dX4_logged_1 rfl (lv_at hl 1 rfl) ?_
  refine cal_Vi' (kX4_isCommit l G h x c0 hc k) go hw dX4_logged_2 (And.intro q903 (And.intro q4 q906)) q905 qs45 kyX4_isCommit ⟨Nat.le_of_ble_eq_true rfl, Nat.le_of_ble_eq_true rfl⟩ rc_M hl.1 rfl (Nat.le_of_ble_eq_true rfl) ⟨rfl, rfl⟩ ⟨Nat.le_of_ble_eq_true rfl, Nat.le_of_ble_eq_true rfl⟩ (fun H locs hw => ?_)
  refine lv_if_eq (tgt := 15) hx hb dX4_logged_5 (by decide) (fun h5 => ?_) (fun h5 => ?_)
  · skip
    have h5 := bI_0 h5
    refine lv_bipush (v := (-2)) hx hb dX4_logged_15 (by decide) ?_
    refine ret_i (wf := rw' G h) go hw dX4_logged_17 ?_
    exact ⟨by simp [ldR, *], rfl⟩
  · skip
    have h5 := bI_1 h5
    refine lv_iload_n hx hb dX4_logged_8 rfl (lv_at hl 2 rfl) ?_
    refine cal_S (kX4_isItem l G b) go hw.2.2.1 hw.2.2.2.1 dX4_logged_9 (And.intro q748 (And.intro q4 q750)) q749 kyX4_isItem ⟨rfl, rfl⟩ ⟨Nat.le_of_ble_eq_true rfl, Nat.le_of_ble_eq_true rfl⟩ hl.1 rfl (Nat.le_of_ble_eq_true rfl) ⟨Nat.le_of_ble_eq_true rfl, Nat.le_of_ble_eq_true rfl⟩ ?_
    refine lv_if_ne (tgt := 18) hx hb dX4_logged_12 (by decide) (fun h12 => ?_) (fun h12 => ?_)
    · skip
      have h12 := bI_1 h12
      obtain ⟨n, hn, rfl⟩ := okE_of h5 hc5
      have cn : (nI (n + 1)).toNatClampNeg = n + 1 := nI_clamp (by omega)
      obtain ⟨i, hi, rfl⟩ := inB_of (n := 8) h12 rfl (by decide)
      have ci : (nI i).toNatClampNeg = i := nI_clamp (by omega)
      refine lv_bipush (v := 22) hx hb dX4_logged_18 (by decide) ?_
      refine lv_iload_n hx hb dX4_logged_20 rfl (lv_at hl 1 rfl) ?_
      refine lv_iconst (v := 1) hx hb dX4_logged_21 (by decide) ?_
      refine lv_isub hx hb dX4_logged_22 ?_
      refine toI (show (nI (n + 1)) - 1 = nI n from by exact nI_s1 n) ?_
      refine lv_imul hx hb dX4_logged_23 ?_
      refine lv_iload_n hx hb dX4_logged_24 rfl (lv_at hl 2 rfl) ?_
      refine lv_iadd hx hb dX4_logged_25 ?_
      refine toI (show (22 * (nI n)) + (nI i) = nI (22 * n + i) from by rw [show (22 : Int32) = nI 22 from rfl, pk_mul, nI_add]) ?_
      refine lv_istore (lv' := [(4, .int (nI (22 * n + i))), (0, .ref (h 0)), (1, .int (nI (n + 1))), (2, .int (nI i)), (3, .int w)]) hx hb dX4_logged_26 hl (by decide) rfl (fun ls hl => ?_)
      refine lv_iload_n hx hb dX4_logged_28 rfl (lv_at hl 4 rfl) ?_
      refine lv_if_ne (tgt := 45) hx hb dX4_logged_29 (by decide) (fun h29 => ?_) (fun h29 => ?_)
      · skip
        refine lv_iload_n hx hb dX4_logged_45 rfl (lv_at hl 4 rfl) ?_
        refine lv_iconst (v := 1) hx hb dX4_logged_46 (by decide) ?_
        refine lv_icmp_ne (tgt := 63) hx hb dX4_logged_47 (by decide) (fun h47 => ?_) (fun h47 => ?_)
        · skip
          refine lv_bipush (v := (-3)) hx hb dX4_logged_63 (by decide) ?_
          refine ret_i (wf := rw' G h) go hw dX4_logged_65 ?_
          exact ⟨by simp [ldR, *], rfl⟩
        · skip
          refine lv_aload_n hx hb dX4_logged_50 rfl (lv_at hl 1 rfl) ?_
          refine gM (k := 3) (v := .ref (h 4)) rfl (by decide) rfl go hw dX4_logged_51 q593 ?_
          refine lv_iload hx hb dX4_logged_54 (lv_at hl 0 rfl) ?_
          refine lv_bipush (v := 14) hx hb dX4_logged_56 (by decide) ?_
          refine lv_iadd hx hb dX4_logged_58 ?_
          refine toI (show ((nI (22 * n + i)) + 14 : Int32) = nI (22 * n + i + 14) from by rw [show (14 : Int32) = nI 14 from rfl, nI_add]) ?_
          refine aM (k := 3) (j := (22 * n + i + 14)) rfl (by decide) (by show 22 * n + i + 14 < 13200; omega) go hw dX4_logged_59 ?_
          refine lv_goto (tgt := 65) hx hb dX4_logged_60 (by decide) ?_
          refine ret_i (wf := rw' G h) go hw dX4_logged_65 ?_
          exact ⟨by simp [ldR, *], rfl⟩
      · skip
        refine lv_aload_n hx hb dX4_logged_32 rfl (lv_at hl 1 rfl) ?_
        refine gM (k := 3) (v := .ref (h 4)) rfl (by decide) rfl go hw dX4_logged_33 q593 ?_
        refine lv_iload hx hb dX4_logged_36 (lv_at hl 0 rfl) ?_
        refine lv_bipush (v := 6) hx hb dX4_logged_38 (by decide) ?_
        refine lv_iadd hx hb dX4_logged_40 ?_
        refine toI (show ((nI (22 * n + i)) + 6 : Int32) = nI (22 * n + i + 6) from by rw [show (6 : Int32) = nI 6 from rfl, nI_add]) ?_
        refine aM (k := 3) (j := (22 * n + i + 6)) rfl (by decide) (by show 22 * n + i + 6 < 13200; omega) go hw dX4_logged_41 ?_
        refine lv_goto (tgt := 65) hx hb dX4_logged_42 (by decide) ?_
        refine ret_i (wf := rw' G h) go hw dX4_logged_65 ?_
        exact ⟨by simp [ldR, *], rfl⟩
    · skip
      have h12 := bI_0 h12
      refine lv_bipush (v := (-2)) hx hb dX4_logged_15 (by decide) ?_
      refine ret_i (wf := rw' G h) go hw dX4_logged_17 ?_
      exact ⟨by simp [ldR, *], rfl⟩

set_option maxHeartbeats 4000000 in
set_option maxRecDepth 100000 in
theorem kX4_behind (l : Launch) (G : Cx) (h : Nat → Nat) (x : Rg) (c0 : Nat) (hc : rI x 2 = nI c0) (hc5 : c0 ≤ 512) (k j : Int32) : Ci l G yX4_behind cX4_behind 7 .int (Rm 2 46) (rw' G h) [.ref (h 0), .int k, .int j] x (fun r u => r = bhR x c0 k j ∧ u = x) := by
  refine Ci.mk (by decide) (Nat.le_of_ble_eq_true rfl) ?_
  intro p e s m below meth c A ls go hw hl
  generalize s.heap = H at hw ⊢
  generalize ([] : List Loc) = locs at hw ⊢
  have hx := go.1
  have hb := go.2.1
  have hl : lv_has ls 7 [(0, .ref (h 0)), (1, .int k), (2, .int j)] := hl
  refine lv_aload_n hx hb dX4_behind_0 rfl (lv_at hl 0 rfl) ?_
  refine lv_iload_n hx hb dX4_behind_1 rfl (lv_at hl 1 rfl) ?_
  refine cal_Vi' (kX4_isCommit l G h x c0 hc k) go hw dX4_behind_2 (And.intro q903 (And.intro q4 q906)) q905 qs45 kyX4_isCommit ⟨Nat.le_of_ble_eq_true rfl, Nat.le_of_ble_eq_true rfl⟩ rc_M hl.1 rfl (Nat.le_of_ble_eq_true rfl) ⟨rfl, rfl⟩ ⟨Nat.le_of_ble_eq_true rfl, Nat.le_of_ble_eq_true rfl⟩ (fun H locs hw => ?_)
  refine lv_if_eq (tgt := 21) hx hb dX4_behind_5 (by decide) (fun h5 => ?_) (fun h5 => ?_)
  · skip
    have h5 := bI_0 h5
    refine lv_bipush (v := (-2)) hx hb dX4_behind_21 (by decide) ?_
    refine ret_i (wf := rw' G h) go hw dX4_behind_23 ?_
    exact ⟨by simp [bhR, bhX, *], rfl⟩
  · skip
    have h5 := bI_1 h5
    refine lv_aload_n hx hb dX4_behind_8 rfl (lv_at hl 0 rfl) ?_
    refine lv_iload_n hx hb dX4_behind_9 rfl (lv_at hl 2 rfl) ?_
    refine cal_Vi' (kX4_isCommit l G h x c0 hc j) go hw dX4_behind_10 (And.intro q903 (And.intro q4 q906)) q905 qs45 kyX4_isCommit ⟨Nat.le_of_ble_eq_true rfl, Nat.le_of_ble_eq_true rfl⟩ rc_M hl.1 rfl (Nat.le_of_ble_eq_true rfl) ⟨rfl, rfl⟩ ⟨Nat.le_of_ble_eq_true rfl, Nat.le_of_ble_eq_true rfl⟩ (fun H locs hw => ?_)
    refine lv_if_eq (tgt := 21) hx hb dX4_behind_13 (by decide) (fun h13 => ?_) (fun h13 => ?_)
    · skip
      have h13 := bI_0 h13
      refine lv_bipush (v := (-2)) hx hb dX4_behind_21 (by decide) ?_
      refine ret_i (wf := rw' G h) go hw dX4_behind_23 ?_
      exact ⟨by simp [bhR, bhX, *], rfl⟩
    · skip
      have h13 := bI_1 h13
      refine lv_iload_n hx hb dX4_behind_16 rfl (lv_at hl 2 rfl) ?_
      refine lv_iload_n hx hb dX4_behind_17 rfl (lv_at hl 1 rfl) ?_
      refine lv_icmp_lt (tgt := 24) hx hb dX4_behind_18 (by decide) (fun h18 => ?_) (fun h18 => ?_)
      · skip
        obtain ⟨n, hn, rfl⟩ := okE_of h5 hc5
        have cn : (nI (n + 1)).toNatClampNeg = n + 1 := nI_clamp (by omega)
        obtain ⟨q, hq, rfl⟩ := okE_of h13 hc5
        have cq : (nI (q + 1)).toNatClampNeg = q + 1 := nI_clamp (by omega)
        refine lv_bipush (v := 22) hx hb dX4_behind_24 (by decide) ?_
        refine lv_iload_n hx hb dX4_behind_26 rfl (lv_at hl 1 rfl) ?_
        refine lv_iconst (v := 1) hx hb dX4_behind_27 (by decide) ?_
        refine lv_isub hx hb dX4_behind_28 ?_
        refine toI (show (nI (n + 1)) - 1 = nI n from by exact nI_s1 n) ?_
        refine lv_imul hx hb dX4_behind_29 ?_
        refine toI (show 22 * (nI n) = nI (22 * n) from by rw [show (22 : Int32) = nI 22 from rfl, pk_mul]) ?_
        refine lv_istore_n (lv' := [(3, .int (nI (22 * n))), (0, .ref (h 0)), (1, .int (nI (n + 1))), (2, .int (nI (q + 1)))]) hx hb dX4_behind_30 rfl hl (by decide) rfl (fun ls hl => ?_)
        refine lv_bipush (v := 22) hx hb dX4_behind_31 (by decide) ?_
        refine lv_iload_n hx hb dX4_behind_33 rfl (lv_at hl 3 rfl) ?_
        refine lv_iconst (v := 1) hx hb dX4_behind_34 (by decide) ?_
        refine lv_isub hx hb dX4_behind_35 ?_
        refine toI (show (nI (q + 1)) - 1 = nI q from by exact nI_s1 q) ?_
        refine lv_imul hx hb dX4_behind_36 ?_
        refine toI (show 22 * (nI q) = nI (22 * q) from by rw [show (22 : Int32) = nI 22 from rfl, pk_mul]) ?_
        refine lv_istore (lv' := [(4, .int (nI (22 * q))), (3, .int (nI (22 * n))), (0, .ref (h 0)), (1, .int (nI (n + 1))), (2, .int (nI (q + 1)))]) hx hb dX4_behind_37 hl (by decide) rfl (fun ls hl => ?_)
        refine lv_iconst (v := 0) hx hb dX4_behind_39 (by decide) ?_
        refine lv_istore (lv' := [(5, .int 0), (4, .int (nI (22 * q))), (3, .int (nI (22 * n))), (0, .ref (h 0)), (1, .int (nI (n + 1))), (2, .int (nI (q + 1)))]) hx hb dX4_behind_40 hl (by decide) rfl (fun ls hl => ?_)
        refine lv_iconst (v := 0) hx hb dX4_behind_42 (by decide) ?_
        refine lv_istore (lv' := [(6, .int 0), (5, .int 0), (4, .int (nI (22 * q))), (3, .int (nI (22 * n))), (0, .ref (h 0)), (1, .int (nI (n + 1))), (2, .int (nI (q + 1)))]) hx hb dX4_behind_43 hl (by decide) rfl (fun ls hl => ?_)
        have hl0 : lv_has ls 7 [(0, .ref (h 0)), (1, .int (nI (n + 1))), (2, .int (nI (q + 1))), (3, .int (nI (22 * n))), (4, .int (nI (22 * q))), (5, .int (foI (fun j0 a => a ||| (if rA x 3 (22 * n + 6 + j0) = nI (q + 1) then 1 else 0)) 0 0)), (6, .int (nI 0))] := lv_to (lv_sub (l' := [(0, .ref (h 0)), (1, .int (nI (n + 1))), (2, .int (nI (q + 1))), (3, .int (nI (22 * n))), (4, .int (nI (22 * q))), (5, .int 0), (6, .int 0)]) hl [4, 5, 6, 3, 2, 1, 0] rfl) (lr (lr (lr (lr (lr (lc (show (0 : Int32) = foI (fun j0 a => a ||| (if rA x 3 (22 * n + 6 + j0) = nI (q + 1) then 1 else 0)) 0 0 from rfl) (lc (show (0 : Int32) = nI 0 from rfl) rfl)))))))
        refine loop_up (N := 8) (P := fun i H locs ls => Wd G A s H locs (rw' G h x) ∧ lv_has ls 7 [(0, .ref (h 0)), (1, .int (nI (n + 1))), (2, .int (nI (q + 1))), (3, .int (nI (22 * n))), (4, .int (nI (22 * q))), (5, .int (foI (fun j0 a => a ||| (if rA x 3 (22 * n + 6 + j0) = nI (q + 1) then 1 else 0)) 0 i)), (6, .int (nI i))]) (X := fun H locs ls => W p l e (Rm 2 46) s m ([.ref (h 0), .int (nI (n + 1)), .int (nI (q + 1))] : List Value).toArray below meth c H locs 0 0 (MQ below (va_Qi (fun r u => r = bhR x c0 (nI (n + 1)) (nI (q + 1)) ∧ u = x) (PostW G (rw' G h) A) A) ([.ref (h 0), .int (nI (n + 1)), .int (nI (q + 1))] : List Value).toArray s (Rm 2 46).cells (Rm 2 46).slots A) (F0 m 45 ls [])) ?_ 0 (by omega) H locs ls ⟨hw, hl0⟩
        clear hl0 hl hw
        intro i hi ih H locs ls hP
        obtain ⟨hw, hl⟩ := hP
        refine lv_iload hx hb dX4_behind_45 (lv_at hl 6 rfl) ?_
        refine lv_bipush (v := 8) hx hb dX4_behind_47 (by decide) ?_
        refine lv_icmp_ge (tgt := 84) hx hb dX4_behind_49 (by decide) (fun h49 => ?_) (fun h49 => ?_)
        · skip
          have hE : i = 8 := lp_end h49 rfl rfl hi (by decide)
          subst hE
          refine lv_iload hx hb dX4_behind_84 (lv_at hl 5 rfl) ?_
          refine lv_aload_n hx hb dX4_behind_86 rfl (lv_at hl 0 rfl) ?_
          refine gM (k := 3) (v := .ref (h 4)) rfl (by decide) rfl go hw dX4_behind_87 q593 ?_
          refine lv_iload_n hx hb dX4_behind_90 rfl (lv_at hl 3 rfl) ?_
          refine lv_iconst (v := 4) hx hb dX4_behind_91 (by decide) ?_
          refine lv_iadd hx hb dX4_behind_92 ?_
          refine toI (show ((nI (22 * n)) + 4 : Int32) = nI (22 * n + 4) from by rw [show (4 : Int32) = nI 4 from rfl, nI_add]) ?_
          refine aM (k := 3) (j := (22 * n + 4)) rfl (by decide) (by show 22 * n + 4 < 13200; omega) go hw dX4_behind_93 ?_
          refine lv_aload_n hx hb dX4_behind_94 rfl (lv_at hl 0 rfl) ?_
          refine gM (k := 3) (v := .ref (h 4)) rfl (by decide) rfl go hw dX4_behind_95 q593 ?_
          refine lv_iload hx hb dX4_behind_98 (lv_at hl 4 rfl) ?_
          refine lv_iconst (v := 4) hx hb dX4_behind_100 (by decide) ?_
          refine lv_iadd hx hb dX4_behind_101 ?_
          refine toI (show ((nI (22 * q)) + 4 : Int32) = nI (22 * q + 4) from by rw [show (4 : Int32) = nI 4 from rfl, nI_add]) ?_
          refine aM (k := 3) (j := (22 * q + 4)) rfl (by decide) (by show 22 * q + 4 < 13200; omega) go hw dX4_behind_102 ?_
          refine lv_iand hx hb dX4_behind_103 ?_
          refine lv_if_eq (tgt := 111) hx hb dX4_behind_104 (by decide) (fun h104 => ?_) (fun h104 => ?_)
          · skip
            refine lv_iconst (v := 0) hx hb dX4_behind_111 (by decide) ?_
            refine toI (show 0 = (if (rA x 3 (22 * n + 4)) &&& (rA x 3 (22 * q + 4)) = 0 then 0 else 2) from by first | exact (if_pos h104).symm | exact (if_neg h104).symm) ?_
            refine lv_ior hx hb dX4_behind_112 ?_
            refine lv_istore (lv' := [(5, .int ((foI (fun j0 a => a ||| (if rA x 3 (22 * n + 6 + j0) = nI (q + 1) then 1 else 0)) 0 8) ||| (if (rA x 3 (22 * n + 4)) &&& (rA x 3 (22 * q + 4)) = 0 then 0 else 2))), (0, .ref (h 0)), (1, .int (nI (n + 1))), (2, .int (nI (q + 1))), (3, .int (nI (22 * n))), (4, .int (nI (22 * q))), (6, .int (nI 8))]) hx hb dX4_behind_113 hl (by decide) rfl (fun ls hl => ?_)
            refine lv_iload hx hb dX4_behind_115 (lv_at hl 0 rfl) ?_
            refine lv_aload_n hx hb dX4_behind_117 rfl (lv_at hl 1 rfl) ?_
            refine gM (k := 3) (v := .ref (h 4)) rfl (by decide) rfl go hw dX4_behind_118 q593 ?_
            refine lv_iload_n hx hb dX4_behind_121 rfl (lv_at hl 4 rfl) ?_
            refine lv_iconst (v := 4) hx hb dX4_behind_122 (by decide) ?_
            refine lv_iadd hx hb dX4_behind_123 ?_
            refine toI (show ((nI (22 * n)) + 4 : Int32) = nI (22 * n + 4) from by rw [show (4 : Int32) = nI 4 from rfl, nI_add]) ?_
            refine aM (k := 3) (j := (22 * n + 4)) rfl (by decide) (by show 22 * n + 4 < 13200; omega) go hw dX4_behind_124 ?_
            refine lv_aload_n hx hb dX4_behind_125 rfl (lv_at hl 1 rfl) ?_
            refine gM (k := 3) (v := .ref (h 4)) rfl (by decide) rfl go hw dX4_behind_126 q593 ?_
            refine lv_iload hx hb dX4_behind_129 (lv_at hl 5 rfl) ?_
            refine lv_iconst (v := 3) hx hb dX4_behind_131 (by decide) ?_
            refine lv_iadd hx hb dX4_behind_132 ?_
            refine toI (show ((nI (22 * q)) + 3 : Int32) = nI (22 * q + 3) from by rw [show (3 : Int32) = nI 3 from rfl, nI_add]) ?_
            refine aM (k := 3) (j := (22 * q + 3)) rfl (by decide) (by show 22 * q + 3 < 13200; omega) go hw dX4_behind_133 ?_
            refine lv_iand hx hb dX4_behind_134 ?_
            refine lv_if_eq (tgt := 142) hx hb dX4_behind_135 (by decide) (fun h135 => ?_) (fun h135 => ?_)
            · skip
              refine lv_iconst (v := 0) hx hb dX4_behind_142 (by decide) ?_
              refine toI (show 0 = (if (rA x 3 (22 * n + 4)) &&& (rA x 3 (22 * q + 3)) = 0 then 0 else 4) from by first | exact (if_pos h135).symm | exact (if_neg h135).symm) ?_
              refine lv_ior hx hb dX4_behind_143 ?_
              refine ret_i (wf := rw' G h) go hw dX4_behind_144 ?_
              exact ⟨by rw [bhR, if_pos (And.intro h5 (And.intro h13 h18)), cn, cq]; rfl, rfl⟩
            · skip
              refine lv_iconst (v := 4) hx hb dX4_behind_138 (by decide) ?_
              refine lv_goto (tgt := 143) hx hb dX4_behind_139 (by decide) ?_
              refine toI (show 4 = (if (rA x 3 (22 * n + 4)) &&& (rA x 3 (22 * q + 3)) = 0 then 0 else 4) from by first | exact (if_pos h135).symm | exact (if_neg h135).symm) ?_
              refine lv_ior hx hb dX4_behind_143 ?_
              refine ret_i (wf := rw' G h) go hw dX4_behind_144 ?_
              exact ⟨by rw [bhR, if_pos (And.intro h5 (And.intro h13 h18)), cn, cq]; rfl, rfl⟩
          · skip
            refine lv_iconst (v := 2) hx hb dX4_behind_107 (by decide) ?_
            refine lv_goto (tgt := 112) hx hb dX4_behind_108 (by decide) ?_
            refine toI (show 2 = (if (rA x 3 (22 * n + 4)) &&& (rA x 3 (22 * q + 4)) = 0 then 0 else 2) from by first | exact (if_pos h104).symm | exact (if_neg h104).symm) ?_
            refine lv_ior hx hb dX4_behind_112 ?_
            refine lv_istore (lv' := [(5, .int ((foI (fun j0 a => a ||| (if rA x 3 (22 * n + 6 + j0) = nI (q + 1) then 1 else 0)) 0 8) ||| (if (rA x 3 (22 * n + 4)) &&& (rA x 3 (22 * q + 4)) = 0 then 0 else 2))), (0, .ref (h 0)), (1, .int (nI (n + 1))), (2, .int (nI (q + 1))), (3, .int (nI (22 * n))), (4, .int (nI (22 * q))), (6, .int (nI 8))]) hx hb dX4_behind_113 hl (by decide) rfl (fun ls hl => ?_)
            refine lv_iload hx hb dX4_behind_115 (lv_at hl 0 rfl) ?_
            refine lv_aload_n hx hb dX4_behind_117 rfl (lv_at hl 1 rfl) ?_
            refine gM (k := 3) (v := .ref (h 4)) rfl (by decide) rfl go hw dX4_behind_118 q593 ?_
            refine lv_iload_n hx hb dX4_behind_121 rfl (lv_at hl 4 rfl) ?_
            refine lv_iconst (v := 4) hx hb dX4_behind_122 (by decide) ?_
            refine lv_iadd hx hb dX4_behind_123 ?_
            refine toI (show ((nI (22 * n)) + 4 : Int32) = nI (22 * n + 4) from by rw [show (4 : Int32) = nI 4 from rfl, nI_add]) ?_
            refine aM (k := 3) (j := (22 * n + 4)) rfl (by decide) (by show 22 * n + 4 < 13200; omega) go hw dX4_behind_124 ?_
            refine lv_aload_n hx hb dX4_behind_125 rfl (lv_at hl 1 rfl) ?_
            refine gM (k := 3) (v := .ref (h 4)) rfl (by decide) rfl go hw dX4_behind_126 q593 ?_
            refine lv_iload hx hb dX4_behind_129 (lv_at hl 5 rfl) ?_
            refine lv_iconst (v := 3) hx hb dX4_behind_131 (by decide) ?_
            refine lv_iadd hx hb dX4_behind_132 ?_
            refine toI (show ((nI (22 * q)) + 3 : Int32) = nI (22 * q + 3) from by rw [show (3 : Int32) = nI 3 from rfl, nI_add]) ?_
            refine aM (k := 3) (j := (22 * q + 3)) rfl (by decide) (by show 22 * q + 3 < 13200; omega) go hw dX4_behind_133 ?_
            refine lv_iand hx hb dX4_behind_134 ?_
            refine lv_if_eq (tgt := 142) hx hb dX4_behind_135 (by decide) (fun h135 => ?_) (fun h135 => ?_)
            · skip
              refine lv_iconst (v := 0) hx hb dX4_behind_142 (by decide) ?_
              refine toI (show 0 = (if (rA x 3 (22 * n + 4)) &&& (rA x 3 (22 * q + 3)) = 0 then 0 else 4) from by first | exact (if_pos h135).symm | exact (if_neg h135).symm) ?_
              refine lv_ior hx hb dX4_behind_143 ?_
              refine ret_i (wf := rw' G h) go hw dX4_behind_144 ?_
              exact ⟨by rw [bhR, if_pos (And.intro h5 (And.intro h13 h18)), cn, cq]; rfl, rfl⟩
            · skip
              refine lv_iconst (v := 4) hx hb dX4_behind_138 (by decide) ?_
              refine lv_goto (tgt := 143) hx hb dX4_behind_139 (by decide) ?_
              refine toI (show 4 = (if (rA x 3 (22 * n + 4)) &&& (rA x 3 (22 * q + 3)) = 0 then 0 else 4) from by first | exact (if_pos h135).symm | exact (if_neg h135).symm) ?_
              refine lv_ior hx hb dX4_behind_143 ?_
              refine ret_i (wf := rw' G h) go hw dX4_behind_144 ?_
              exact ⟨by rw [bhR, if_pos (And.intro h5 (And.intro h13 h18)), cn, cq]; rfl, rfl⟩
        · skip
          have hlt : i < 8 := lp_in h49 rfl rfl hi (by decide)
          refine lv_iload hx hb dX4_behind_52 (lv_at hl 5 rfl) ?_
          refine lv_aload_n hx hb dX4_behind_54 rfl (lv_at hl 0 rfl) ?_
          refine gM (k := 3) (v := .ref (h 4)) rfl (by decide) rfl go hw dX4_behind_55 q593 ?_
          refine lv_iload_n hx hb dX4_behind_58 rfl (lv_at hl 3 rfl) ?_
          refine lv_bipush (v := 6) hx hb dX4_behind_59 (by decide) ?_
          refine lv_iadd hx hb dX4_behind_61 ?_
          refine lv_iload hx hb dX4_behind_62 (lv_at hl 6 rfl) ?_
          refine lv_iadd hx hb dX4_behind_64 ?_
          refine toI (show (((nI (22 * n)) + 6) + (nI i) : Int32) = nI (22 * n + 6 + i) from by rw [show (6 : Int32) = nI 6 from rfl, nI_add, nI_add]) ?_
          refine aM (k := 3) (j := (22 * n + 6 + i)) rfl (by decide) (by show 22 * n + 6 + i < 13200; omega) go hw dX4_behind_65 ?_
          refine lv_iload_n hx hb dX4_behind_66 rfl (lv_at hl 2 rfl) ?_
          refine lv_icmp_ne (tgt := 74) hx hb dX4_behind_67 (by decide) (fun h67 => ?_) (fun h67 => ?_)
          · skip
            refine lv_iconst (v := 0) hx hb dX4_behind_74 (by decide) ?_
            refine toI (show 0 = (if rA x 3 (22 * n + 6 + i) = nI (q + 1) then 1 else 0) from by first | exact (if_pos h67).symm | exact (if_neg h67).symm) ?_
            refine lv_ior hx hb dX4_behind_75 ?_
            refine lv_istore (lv' := [(5, .int ((foI (fun j0 a => a ||| (if rA x 3 (22 * n + 6 + j0) = nI (q + 1) then 1 else 0)) 0 i) ||| (if rA x 3 (22 * n + 6 + i) = nI (q + 1) then 1 else 0))), (0, .ref (h 0)), (1, .int (nI (n + 1))), (2, .int (nI (q + 1))), (3, .int (nI (22 * n))), (4, .int (nI (22 * q))), (6, .int (nI i))]) hx hb dX4_behind_76 hl (by decide) rfl (fun ls hl => ?_)
            refine lv_iinc (v := nI (i + 1)) (lv' := [(6, .int (nI (i + 1))), (5, .int ((foI (fun j0 a => a ||| (if rA x 3 (22 * n + 6 + j0) = nI (q + 1) then 1 else 0)) 0 i) ||| (if rA x 3 (22 * n + 6 + i) = nI (q + 1) then 1 else 0))), (0, .ref (h 0)), (1, .int (nI (n + 1))), (2, .int (nI (q + 1))), (3, .int (nI (22 * n))), (4, .int (nI (22 * q)))]) hx hb dX4_behind_78 hl (k := 6) rfl (nI_1 _) (by decide) rfl (fun ls hl => ?_)
            refine lv_goto (tgt := 45) hx hb dX4_behind_81 (by decide) ?_
            have hl9 : lv_has ls 7 [(0, .ref (h 0)), (1, .int (nI (n + 1))), (2, .int (nI (q + 1))), (3, .int (nI (22 * n))), (4, .int (nI (22 * q))), (5, .int (foI (fun j0 a => a ||| (if rA x 3 (22 * n + 6 + j0) = nI (q + 1) then 1 else 0)) 0 (i + 1))), (6, .int (nI (i + 1)))] := lv_to (lv_sub (l' := [(0, .ref (h 0)), (1, .int (nI (n + 1))), (2, .int (nI (q + 1))), (3, .int (nI (22 * n))), (4, .int (nI (22 * q))), (5, .int ((foI (fun j0 a => a ||| (if rA x 3 (22 * n + 6 + j0) = nI (q + 1) then 1 else 0)) 0 i) ||| (if rA x 3 (22 * n + 6 + i) = nI (q + 1) then 1 else 0))), (6, .int (nI (i + 1)))]) hl [2, 3, 4, 5, 6, 1, 0] rfl) (lr (lr (lr (lr (lr (lc (show ((foI (fun j0 a => a ||| (if rA x 3 (22 * n + 6 + j0) = nI (q + 1) then 1 else 0)) 0 i) ||| (if rA x 3 (22 * n + 6 + i) = nI (q + 1) then 1 else 0) : Int32) = foI (fun j0 a => a ||| (if rA x 3 (22 * n + 6 + j0) = nI (q + 1) then 1 else 0)) 0 (i + 1) from rfl) (lr rfl)))))))
            exact ih _ _ _ (by omega) ⟨hw, hl9⟩
          · skip
            refine lv_iconst (v := 1) hx hb dX4_behind_70 (by decide) ?_
            refine lv_goto (tgt := 75) hx hb dX4_behind_71 (by decide) ?_
            refine toI (show 1 = (if rA x 3 (22 * n + 6 + i) = nI (q + 1) then 1 else 0) from by first | exact (if_pos h67).symm | exact (if_neg h67).symm) ?_
            refine lv_ior hx hb dX4_behind_75 ?_
            refine lv_istore (lv' := [(5, .int ((foI (fun j0 a => a ||| (if rA x 3 (22 * n + 6 + j0) = nI (q + 1) then 1 else 0)) 0 i) ||| (if rA x 3 (22 * n + 6 + i) = nI (q + 1) then 1 else 0))), (0, .ref (h 0)), (1, .int (nI (n + 1))), (2, .int (nI (q + 1))), (3, .int (nI (22 * n))), (4, .int (nI (22 * q))), (6, .int (nI i))]) hx hb dX4_behind_76 hl (by decide) rfl (fun ls hl => ?_)
            refine lv_iinc (v := nI (i + 1)) (lv' := [(6, .int (nI (i + 1))), (5, .int ((foI (fun j0 a => a ||| (if rA x 3 (22 * n + 6 + j0) = nI (q + 1) then 1 else 0)) 0 i) ||| (if rA x 3 (22 * n + 6 + i) = nI (q + 1) then 1 else 0))), (0, .ref (h 0)), (1, .int (nI (n + 1))), (2, .int (nI (q + 1))), (3, .int (nI (22 * n))), (4, .int (nI (22 * q)))]) hx hb dX4_behind_78 hl (k := 6) rfl (nI_1 _) (by decide) rfl (fun ls hl => ?_)
            refine lv_goto (tgt := 45) hx hb dX4_behind_81 (by decide) ?_
            have hl9 : lv_has ls 7 [(0, .ref (h 0)), (1, .int (nI (n + 1))), (2, .int (nI (q + 1))), (3, .int (nI (22 * n))), (4, .int (nI (22 * q))), (5, .int (foI (fun j0 a => a ||| (if rA x 3 (22 * n + 6 + j0) = nI (q + 1) then 1 else 0)) 0 (i + 1))), (6, .int (nI (i + 1)))] := lv_to (lv_sub (l' := [(0, .ref (h 0)), (1, .int (nI (n + 1))), (2, .int (nI (q + 1))), (3, .int (nI (22 * n))), (4, .int (nI (22 * q))), (5, .int ((foI (fun j0 a => a ||| (if rA x 3 (22 * n + 6 + j0) = nI (q + 1) then 1 else 0)) 0 i) ||| (if rA x 3 (22 * n + 6 + i) = nI (q + 1) then 1 else 0))), (6, .int (nI (i + 1)))]) hl [2, 3, 4, 5, 6, 1, 0] rfl) (lr (lr (lr (lr (lr (lc (show ((foI (fun j0 a => a ||| (if rA x 3 (22 * n + 6 + j0) = nI (q + 1) then 1 else 0)) 0 i) ||| (if rA x 3 (22 * n + 6 + i) = nI (q + 1) then 1 else 0) : Int32) = foI (fun j0 a => a ||| (if rA x 3 (22 * n + 6 + j0) = nI (q + 1) then 1 else 0)) 0 (i + 1) from rfl) (lr rfl)))))))
            exact ih _ _ _ (by omega) ⟨hw, hl9⟩
      · skip
        refine lv_bipush (v := (-2)) hx hb dX4_behind_21 (by decide) ?_
        refine ret_i (wf := rw' G h) go hw dX4_behind_23 ?_
        exact ⟨by simp [bhR, bhX, *], rfl⟩

set_option maxHeartbeats 4000000 in
set_option maxRecDepth 100000 in
theorem kX4_count (l : Launch) (G : Cx) (h : Nat → Nat) (x : Rg) (w : Int32) : Ci l G yX4_count cX4_count 2 .int (Rm 1 23) (rw' G h) [.ref (h 0), .int w] x (fun r u => r = cnR x w ∧ u = x) := by
  refine Ci.mk (by decide) (Nat.le_of_ble_eq_true rfl) ?_
  intro p e s m below meth c A ls go hw hl
  generalize s.heap = H at hw ⊢
  generalize ([] : List Loc) = locs at hw ⊢
  have hx := go.1
  have hb := go.2.1
  have hl : lv_has ls 2 [(0, .ref (h 0)), (1, .int w)] := hl
  refine lv_iload_n hx hb dX4_count_0 rfl (lv_at hl 1 rfl) ?_
  by_cases w1_0 : w = 0
  · refine toI w1_0 ?_
    refine lv_tableIn (off := 59) (tgt := 60) hx hb dX4_count_1 (by decide) (by decide) (by decide) (by decide) ?_
    refine lv_aload_n hx hb dX4_count_60 rfl (lv_at hl 0 rfl) ?_
    refine gMi (k := 2) (v := rI x 2) (by decide) rfl go hw dX4_count_61 q592 ?_
    refine ret_i (wf := rw' G h) go hw dX4_count_64 ?_
    exact ⟨by simp [cnR, *], rfl⟩
  by_cases w1_1 : w = 1
  · refine toI w1_1 ?_
    refine lv_tableIn (off := 64) (tgt := 65) hx hb dX4_count_1 (by decide) (by decide) (by decide) (by decide) ?_
    refine lv_aload_n hx hb dX4_count_65 rfl (lv_at hl 0 rfl) ?_
    refine lv_iconst (v := 1) hx hb dX4_count_66 (by decide) ?_
    refine cal_Vi' (kX4_inState l G h x 1) go hw dX4_count_67 (And.intro q753 (And.intro q4 q756)) q755 qs31 kyX4_inState ⟨Nat.le_of_ble_eq_true rfl, Nat.le_of_ble_eq_true rfl⟩ rc_M hl.1 rfl (Nat.le_of_ble_eq_true rfl) ⟨rfl, rfl⟩ ⟨Nat.le_of_ble_eq_true rfl, Nat.le_of_ble_eq_true rfl⟩ (fun H locs hw => ?_)
    refine ret_i (wf := rw' G h) go hw dX4_count_70 ?_
    exact ⟨by simp [cnR, *], rfl⟩
  by_cases w1_2 : w = 2
  · refine toI w1_2 ?_
    refine lv_tableIn (off := 70) (tgt := 71) hx hb dX4_count_1 (by decide) (by decide) (by decide) (by decide) ?_
    refine lv_aload_n hx hb dX4_count_71 rfl (lv_at hl 0 rfl) ?_
    refine lv_iconst (v := 3) hx hb dX4_count_72 (by decide) ?_
    refine cal_Vi' (kX4_inState l G h x 3) go hw dX4_count_73 (And.intro q753 (And.intro q4 q756)) q755 qs31 kyX4_inState ⟨Nat.le_of_ble_eq_true rfl, Nat.le_of_ble_eq_true rfl⟩ rc_M hl.1 rfl (Nat.le_of_ble_eq_true rfl) ⟨rfl, rfl⟩ ⟨Nat.le_of_ble_eq_true rfl, Nat.le_of_ble_eq_true rfl⟩ (fun H locs hw => ?_)
    refine ret_i (wf := rw' G h) go hw dX4_count_76 ?_
    exact ⟨by simp [cnR, *], rfl⟩
  by_cases w1_3 : w = 3
  · refine toI w1_3 ?_
    refine lv_tableIn (off := 76) (tgt := 77) hx hb dX4_count_1 (by decide) (by decide) (by decide) (by decide) ?_
    refine lv_aload_n hx hb dX4_count_77 rfl (lv_at hl 0 rfl) ?_
    refine lv_iconst (v := 2) hx hb dX4_count_78 (by decide) ?_
    refine cal_Vi' (kX4_inState l G h x 2) go hw dX4_count_79 (And.intro q753 (And.intro q4 q756)) q755 qs31 kyX4_inState ⟨Nat.le_of_ble_eq_true rfl, Nat.le_of_ble_eq_true rfl⟩ rc_M hl.1 rfl (Nat.le_of_ble_eq_true rfl) ⟨rfl, rfl⟩ ⟨Nat.le_of_ble_eq_true rfl, Nat.le_of_ble_eq_true rfl⟩ (fun H locs hw => ?_)
    refine ret_i (wf := rw' G h) go hw dX4_count_82 ?_
    exact ⟨by simp [cnR, *], rfl⟩
  by_cases w1_4 : w = 4
  · refine toI w1_4 ?_
    refine lv_tableIn (off := 82) (tgt := 83) hx hb dX4_count_1 (by decide) (by decide) (by decide) (by decide) ?_
    refine lv_aload_n hx hb dX4_count_83 rfl (lv_at hl 0 rfl) ?_
    refine gMi (k := 19) (v := rI x 19) (by decide) rfl go hw dX4_count_84 q609 ?_
    refine ret_i (wf := rw' G h) go hw dX4_count_87 ?_
    exact ⟨by simp [cnR, *], rfl⟩
  by_cases w1_5 : w = 5
  · refine toI w1_5 ?_
    refine lv_tableIn (off := 87) (tgt := 88) hx hb dX4_count_1 (by decide) (by decide) (by decide) (by decide) ?_
    refine lv_aload_n hx hb dX4_count_88 rfl (lv_at hl 0 rfl) ?_
    refine gMi (k := 20) (v := rI x 20) (by decide) rfl go hw dX4_count_89 q610 ?_
    refine ret_i (wf := rw' G h) go hw dX4_count_92 ?_
    exact ⟨by simp [cnR, *], rfl⟩
  by_cases w1_6 : w = 6
  · refine toI w1_6 ?_
    refine lv_tableIn (off := 92) (tgt := 93) hx hb dX4_count_1 (by decide) (by decide) (by decide) (by decide) ?_
    refine lv_aload_n hx hb dX4_count_93 rfl (lv_at hl 0 rfl) ?_
    refine gMi (k := 21) (v := rI x 21) (by decide) rfl go hw dX4_count_94 q611 ?_
    refine ret_i (wf := rw' G h) go hw dX4_count_97 ?_
    exact ⟨by simp [cnR, *], rfl⟩
  by_cases w1_7 : w = 7
  · refine toI w1_7 ?_
    refine lv_tableIn (off := 97) (tgt := 98) hx hb dX4_count_1 (by decide) (by decide) (by decide) (by decide) ?_
    refine lv_aload_n hx hb dX4_count_98 rfl (lv_at hl 0 rfl) ?_
    refine gMi (k := 18) (v := rI x 18) (by decide) rfl go hw dX4_count_99 q608 ?_
    refine ret_i (wf := rw' G h) go hw dX4_count_102 ?_
    exact ⟨by simp [cnR, *], rfl⟩
  by_cases w1_8 : w = 8
  · refine toI w1_8 ?_
    refine lv_tableIn (off := 102) (tgt := 103) hx hb dX4_count_1 (by decide) (by decide) (by decide) (by decide) ?_
    refine lv_aload_n hx hb dX4_count_103 rfl (lv_at hl 0 rfl) ?_
    refine gMi (k := 16) (v := rI x 16) (by decide) rfl go hw dX4_count_104 q606 ?_
    refine ret_i (wf := rw' G h) go hw dX4_count_107 ?_
    exact ⟨by simp [cnR, *], rfl⟩
  by_cases w1_9 : w = 9
  · refine toI w1_9 ?_
    refine lv_tableIn (off := 107) (tgt := 108) hx hb dX4_count_1 (by decide) (by decide) (by decide) (by decide) ?_
    refine lv_aload_n hx hb dX4_count_108 rfl (lv_at hl 0 rfl) ?_
    refine gMi (k := 23) (v := rI x 23) (by decide) rfl go hw dX4_count_109 q613 ?_
    refine ret_i (wf := rw' G h) go hw dX4_count_112 ?_
    exact ⟨by simp [cnR, *], rfl⟩
  by_cases w1_10 : w = 10
  · refine toI w1_10 ?_
    refine lv_tableIn (off := 112) (tgt := 113) hx hb dX4_count_1 (by decide) (by decide) (by decide) (by decide) ?_
    refine lv_aload_n hx hb dX4_count_113 rfl (lv_at hl 0 rfl) ?_
    refine cal_Vi' (kX4_allValues l G h x) go hw dX4_count_114 (And.intro q919 (And.intro q4 q922)) q921 qs46 kyX4_allValues ⟨Nat.le_of_ble_eq_true rfl, Nat.le_of_ble_eq_true rfl⟩ rc_M hl.1 rfl (Nat.le_of_ble_eq_true rfl) ⟨rfl, rfl⟩ ⟨Nat.le_of_ble_eq_true rfl, Nat.le_of_ble_eq_true rfl⟩ (fun H locs hw => ?_)
    refine ret_i (wf := rw' G h) go hw dX4_count_117 ?_
    exact ⟨by simp [cnR, *], rfl⟩
  refine lv_tableOut (tgt := 118) hx hb dX4_count_1 (by have z0 := lv_neT (a := 0) w1_0 rfl; have z1 := lv_neT (a := 1) w1_1 rfl; have z2 := lv_neT (a := 2) w1_2 rfl; have z3 := lv_neT (a := 3) w1_3 rfl; have z4 := lv_neT (a := 4) w1_4 rfl; have z5 := lv_neT (a := 5) w1_5 rfl; have z6 := lv_neT (a := 6) w1_6 rfl; have z7 := lv_neT (a := 7) w1_7 rfl; have z8 := lv_neT (a := 8) w1_8 rfl; have z9 := lv_neT (a := 9) w1_9 rfl; have z10 := lv_neT (a := 10) w1_10 rfl; omega) (by decide) ?_
  refine lv_bipush (v := (-3)) hx hb dX4_count_118 (by decide) ?_
  refine ret_i (wf := rw' G h) go hw dX4_count_120 ?_
  exact ⟨by simp [cnR, *], rfl⟩
