/-! ===== what the class's inner methods answer, and do ===== -/
def exB (p : Nat → Bool) : Nat → Bool
  | 0 => false
  | n + 1 => exB p n || p n
theorem exB_f {p : Nat → Bool} : ∀ {n : Nat}, (∀ j, j < n → p j = false) → exB p n = false
  | 0, _ => rfl
  | n + 1, h => by rw [exB, exB_f (fun j hj => h j (by omega)), h n (by omega)]; rfl
theorem exB_t {p : Nat → Bool} {i : Nat} (hp : p i = true) : ∀ {n : Nat}, i < n → exB p n = true
  | 0, h => absurd h (by omega)
  | n + 1, h => by
    rw [exB]
    by_cases e : i = n
    · subst e; rw [hp, Bool.or_true]
    · rw [exB_t hp (by omega), Bool.true_or]
def fstN (p : Nat → Bool) : Nat → Nat
  | 0 => 0
  | n + 1 => if fstN p n < n then fstN p n else if p n then n else n + 1
theorem fstN_no {p : Nat → Bool} : ∀ {n : Nat}, (∀ j, j < n → p j = false) → fstN p n = n
  | 0, _ => rfl
  | n + 1, h => by rw [fstN, fstN_no (fun j hj => h j (by omega)), if_neg (by omega), h n (by omega)]; rfl
theorem fstN_at {p : Nat → Bool} {i : Nat} (hp : p i = true) (hn : ∀ j, j < i → p j = false) : ∀ {n : Nat}, i < n → fstN p n = i
  | 0, h => absurd h (by omega)
  | n + 1, h => by
    rw [fstN]
    by_cases e : i = n
    · subst e; rw [fstN_no hn, if_neg (by omega), hp]; rfl
    · have := fstN_at hp hn (n := n) (by omega)
      rw [this, if_pos (by omega)]
/-- the first place, or NONE -/
def fstI (p : Nat → Bool) (n : Nat) : Int32 := if fstN p n < n then nI (fstN p n) else -1
theorem fstI_no {p : Nat → Bool} {n : Nat} (h : ∀ j, j < n → p j = false) : fstI p n = -1 := by rw [fstI, fstN_no h, if_neg (by omega)]
theorem fstI_at {p : Nat → Bool} {i n : Nat} (hp : p i = true) (hn : ∀ j, j < i → p j = false) (h : i < n) : fstI p n = nI i := by rw [fstI, fstN_at hp hn h, if_pos h]
def foS (f : Sg → Nat → Sg) (x : Sg) : Nat → Sg
  | 0 => x
  | n + 1 => f (foS f x n) n
def foI (f : Nat → Int32 → Int32) (a : Int32) : Nat → Int32
  | 0 => a
  | n + 1 => f n (foI f a n)
def Nm (x : Sg) : Prop := ∀ e, e < 6 → sI x (2 + e) 0 = nI e
def opD (x : Sg) (d : Nat) (a b c : Int32) : Sg := pI (pI (pI (pI (pI x (2 + d) 1 1) (2 + d) 8 0) (2 + d) 2 a) (2 + d) 3 b) (2 + d) 4 c
def seD (x : Sg) (d : Nat) (t : Int32) : Sg := foS (fun y v => pA y (2 + d) 12 (upd (sA y (2 + d) 12) v (-1))) (pI (pI x (2 + d) 1 3) (2 + d) 7 t) 2
def noD (x : Sg) (d i : Nat) (v t : Int32) : Sg := pA (pA (pI x (2 + d) 5 (sI x (2 + d) 5 ||| bt (nI i))) (2 + d) 9 (upd (sA x (2 + d) 9) i v)) (2 + d) 10 (upd (sA x (2 + d) 10) i t)
def cpF (f h : Nat → Int32) (i : Nat) : Nat → Int32 := fun j => if j < i then h j else f j
theorem cpF_0 (f h : Nat → Int32) : cpF f h 0 = f := by funext j; simp [cpF]
theorem cpF_s (f h : Nat → Int32) (i : Nat) : upd (cpF f h i) i (h i) = cpF f h (i + 1) := by
  funext j
  by_cases e : j = i
  · subst e; simp [cpF, upd]
  · by_cases q : j < i
    · rw [pk_un e, cpF, cpF, if_pos q, if_pos (by omega)]
    · rw [pk_un e, cpF, cpF, if_neg q, if_neg (by omega)]
theorem pA_self (x : Sg) (o k : Nat) : pA x o k (sA x o k) = x := by
  refine Prod.ext rfl (Prod.ext rfl (Prod.ext (funext fun o' => funext fun k' => ?_) rfl))
  by_cases h : o' = o ∧ k' = k
  · show (if o' = o ∧ k' = k then x.2.2.1 o k else x.2.2.1 o' k') = _
    rw [if_pos h, h.1, h.2]
  · exact if_neg h
theorem pA_over (x : Sg) (o a b : Nat) (f h f' h' : Nat → Int32) : pA (pA (pA (pA x o a f) o b h) o a f') o b h' = pA (pA x o a f') o b h' := by
  refine Prod.ext rfl (Prod.ext rfl (Prod.ext (funext fun o' => funext fun k' => ?_) rfl))
  show (if o' = o ∧ k' = b then h' else if o' = o ∧ k' = a then f' else if o' = o ∧ k' = b then h else if o' = o ∧ k' = a then f else x.2.2.1 o' k') = if o' = o ∧ k' = b then h' else if o' = o ∧ k' = a then f' else x.2.2.1 o' k'
  by_cases h1 : o' = o ∧ k' = b
  · rw [if_pos h1, if_pos h1]
  · rw [if_neg h1, if_neg h1, if_neg h1]
    by_cases h2 : o' = o ∧ k' = a
    · rw [if_pos h2, if_pos h2]
    · rw [if_neg h2, if_neg h2, if_neg h2]
def kd0 (x : Sg) (n d : Nat) (w : Int32) : Sg := pI (pI (pI (pI (pI (pI x (8 + n) 0 (sI x (2 + d) 0)) (8 + n) 1 (sI x (2 + d) 3)) (8 + n) 2 (sI x (2 + d) 4)) (8 + n) 3 (sI x (2 + d) 5)) (8 + n) 4 (sI x (2 + d) 6)) (8 + n) 5 w
def kdE (x : Sg) (n d : Nat) (w : Int32) : Sg := pA (pA (kd0 x n d w) (8 + n) 6 (cpF (sA x (8 + n) 6) (sA x (2 + d) 10) 8)) (8 + n) 7 (cpF (sA x (8 + n) 7) (sA x (2 + d) 11) 8)
def kwE (x : Sg) (n i : Nat) (v : Int32) : Sg := pA (pI (pI (pI (pI (pI (pI x (8 + n) 0 (-1)) (8 + n) 1 0) (8 + n) 2 0) (8 + n) 3 0) (8 + n) 4 (bt (nI i))) (8 + n) 5 4) (8 + n) 7 (upd (sA x (8 + n) 7) i v)
def hnB (x : Sg) (n : Nat) (t : Int32) : Bool := exB (fun i => hasB (sI x (8 + n) 3) (nI i) && decide (sA x (8 + n) 6 i = t)) 8
def stB (x : Sg) (d : Nat) : Bool := !decide (sI x (2 + d) 4 < sI x 0 6)
def stl (x : Sg) (d : Nat) : Int32 := orB (fun i => hasB (sI x (2 + d) 5) (nI i) && !decide (sA x 0 2 i = sA x (2 + d) 10 i)) 8
def crs (x : Sg) (d : Nat) : Int32 := orB (fun i => hasB (sI x (2 + d) 5) (nI i) && !decide (sA x 0 2 i ≤ sI x (2 + d) 2)) 8
def riv (x : Sg) (d : Nat) : Int32 := orB (fun e => !decide (nI e = nI d) && (decide (sI x (2 + e) 1 = 1) && !decide (sI x (2 + e) 5 &&& sI x (2 + d) 6 = 0))) 6
def gfB (x : Sg) (a b : Nat) : Bool := if bI (stB x a) = bI (stB x b) then !decide (sI x (2 + b) 3 ≤ sI x (2 + a) 3) else stB x a
def myB (x : Sg) (d : Nat) : Bool := exB (fun e => hasB (riv x d) (nI e) && gfB x e d) 6
def dmS (b : Int32) (y : Sg) (e : Nat) : Sg := if hasB b (nI e) then pI y (2 + e) 1 2 else y
def dmA (x : Sg) (b : Int32) : Sg := foS (dmS b) x 6
def faB (a : Int32) : Bool := decide (a = -11) || (decide (a = -12) || decide (a = -13))
def loS (x : Sg) (d : Nat) (w : Int32) : Sg :=
  let y := pI x 0 9 (sI x 0 9 + 1)
  let y := if w = -12 then pI y 0 10 (sI x 0 10 + 1) else y
  let y := if w = -13 then pI y 0 11 (sI x 0 11 + 1) else y
  frD y d true
def chS (x : Sg) (i : Nat) (v : Int32) : Sg := pA (pA x 0 1 (upd (sA x 0 1) i v)) 0 2 (upd (sA x 0 2) i (sI x 0 5))
def sbN (x : Sg) (d : Nat) : Nat := cntB (fun e => decide (sI x (2 + e) 1 = 3) && !decide (sI x (2 + d) 7 ≤ sI x (2 + e) 7)) 6
def saI (x : Sg) (k : Int32) : Int32 := fstI (fun d => decide (sI x (2 + d) 1 = 3) && decide (nI (sbN x d) = k)) 6
def prI (x : Sg) (v d : Nat) : Int32 := foI (fun e a => if sI x (2 + e) 1 = 3 ∧ ¬ sI x (2 + d) 7 ≤ sI x (2 + e) 7 ∧ sA x (2 + e) 12 v = 1 then a ||| sI x (2 + e) 6 else a) 0 6
def itO (v : Int32) : Int32 := (bt 4 - 1) <<< ((v * 4) &&& 31)
def opI (x : Sg) (v d : Nat) : Bool := decide ((stl x d ||| (sI x (2 + d) 5 &&& prI x v d)) &&& itO (nI v) = 0)
/-- what commit() would answer -/
def ftI (x : Sg) (d : Nat) (w : Int32) : Int32 :=
  if w < 0 ∨ ¬ w ≤ 2 then -3 else
  if ¬ sI x (2 + d) 1 = 1 ∨ ¬ nI (howM x 3) ≤ 0 then -4 else
  if ¬ sI x 0 5 < 512 then -5 else
  if ¬ stl x d = 0 then -11 else
  if w = 0 ∧ ¬ crs x d = 0 then -12 else
  if w = 2 ∧ myB x d = true then -13 else sI x 0 5 + 1

set_option maxHeartbeats 4000000 in
set_option maxRecDepth 100000 in
theorem kX0_becomeOpen (l : Launch) (G : Cx) (g : Nat → Nat → Nat) (x : Sg) (d : Nat) (hd : d < 6) (a b z : Int32) : Cv l G yX0_becomeOpen cX0_becomeOpen 4 (Rm 0 0) (cw G g) [.ref (g (2 + d) 0), .int a, .int b, .int z] x (fun u => u = opD x d a b z) := by
  refine Cv.mk (by decide) (Nat.le_of_ble_eq_true rfl) ?_
  intro p e s m below meth c A ls go hw hl
  generalize s.heap = H at hw ⊢
  generalize ([] : List Loc) = locs at hw ⊢
  have hx := go.1
  have hb := go.2.1
  have hl : lv_has ls 4 [(0, .ref (g (2 + d) 0)), (1, .int a), (2, .int b), (3, .int z)] := hl
  refine lv_aload_n hx hb dX0_becomeOpen_0 rfl (lv_at hl 0 rfl) ?_
  refine lv_iconst (v := 1) hx hb dX0_becomeOpen_1 (by decide) ?_
  refine pD (d := d) (k := 1) hd ⟨by decide, by decide⟩ go hw dX0_becomeOpen_2 q62 (fun H locs hw => ?_)
  refine lv_aload_n hx hb dX0_becomeOpen_5 rfl (lv_at hl 0 rfl) ?_
  refine lv_iconst (v := 0) hx hb dX0_becomeOpen_6 (by decide) ?_
  refine pDz (d := d) hd ⟨by rfl, by rfl⟩ go hw dX0_becomeOpen_7 q80 (fun H locs hw => ?_)
  refine lv_aload_n hx hb dX0_becomeOpen_10 rfl (lv_at hl 0 rfl) ?_
  refine lv_iload_n hx hb dX0_becomeOpen_11 rfl (lv_at hl 1 rfl) ?_
  refine pD (d := d) (k := 2) hd ⟨by decide, by decide⟩ go hw dX0_becomeOpen_12 q64 (fun H locs hw => ?_)
  refine lv_aload_n hx hb dX0_becomeOpen_15 rfl (lv_at hl 0 rfl) ?_
  refine lv_iload_n hx hb dX0_becomeOpen_16 rfl (lv_at hl 2 rfl) ?_
  refine pD (d := d) (k := 3) hd ⟨by decide, by decide⟩ go hw dX0_becomeOpen_17 q67 (fun H locs hw => ?_)
  refine lv_aload_n hx hb dX0_becomeOpen_20 rfl (lv_at hl 0 rfl) ?_
  refine lv_iload_n hx hb dX0_becomeOpen_21 rfl (lv_at hl 3 rfl) ?_
  refine pD (d := d) (k := 4) hd ⟨by decide, by decide⟩ go hw dX0_becomeOpen_22 q70 (fun H locs hw => ?_)
  refine ret_v (wf := cw G g) go hw dX0_becomeOpen_25 ?_
  rfl

set_option maxHeartbeats 4000000 in
set_option maxRecDepth 100000 in
theorem kX0_becomeSent (l : Launch) (G : Cx) (g : Nat → Nat → Nat) (x : Sg) (d : Nat) (hd : d < 6) (t : Int32) : Cv l G yX0_becomeSent cX0_becomeSent 3 (Rm 0 0) (cw G g) [.ref (g (2 + d) 0), .int t] x (fun u => u = seD x d t) := by
  refine Cv.mk (by decide) (Nat.le_of_ble_eq_true rfl) ?_
  intro p e s m below meth c A ls go hw hl
  generalize s.heap = H at hw ⊢
  generalize ([] : List Loc) = locs at hw ⊢
  have hx := go.1
  have hb := go.2.1
  have hl : lv_has ls 3 [(0, .ref (g (2 + d) 0)), (1, .int t)] := hl
  refine lv_aload_n hx hb dX0_becomeSent_0 rfl (lv_at hl 0 rfl) ?_
  refine lv_iconst (v := 3) hx hb dX0_becomeSent_1 (by decide) ?_
  refine pD (d := d) (k := 1) hd ⟨by decide, by decide⟩ go hw dX0_becomeSent_2 q62 (fun H locs hw => ?_)
  refine lv_aload_n hx hb dX0_becomeSent_5 rfl (lv_at hl 0 rfl) ?_
  refine lv_iload_n hx hb dX0_becomeSent_6 rfl (lv_at hl 1 rfl) ?_
  refine pD (d := d) (k := 7) hd ⟨by decide, by decide⟩ go hw dX0_becomeSent_7 q78 (fun H locs hw => ?_)
  refine lv_iconst (v := 0) hx hb dX0_becomeSent_10 (by decide) ?_
  refine lv_istore_n (lv' := [(2, .int 0), (0, .ref (g (2 + d) 0)), (1, .int t)]) hx hb dX0_becomeSent_11 rfl hl (by decide) rfl (fun ls hl => ?_)
  rw [show pI (pI x (2 + d) 1 3) (2 + d) 7 t = foS (fun y v => pA y (2 + d) 12 (upd (sA y (2 + d) 12) v (-1))) (pI (pI x (2 + d) 1 3) (2 + d) 7 t) 0 from by rfl] at hw
  have hl0 : lv_has ls 3 [(0, .ref (g (2 + d) 0)), (2, .int (nI 0))] := lv_to (lv_sub (l' := [(0, .ref (g (2 + d) 0)), (2, .int 0)]) hl [1, 0] rfl) (lr (lc (show (0 : Int32) = nI 0 from rfl) rfl))
  refine loop_up (N := 2) (P := fun i H locs ls => Wd G A s H locs (cw G g (foS (fun y v => pA y (2 + d) 12 (upd (sA y (2 + d) 12) v (-1))) (pI (pI x (2 + d) 1 3) (2 + d) 7 t) i)) ∧ lv_has ls 3 [(0, .ref (g (2 + d) 0)), (2, .int (nI i))]) (X := fun H locs ls => W p l e (Rm 0 0) s m ([.ref (g (2 + d) 0), .int t] : List Value).toArray below meth c H locs 0 0 (MQ below (va_Qv (fun u => u = seD x d t) (PostW G (cw G g) A) A) ([.ref (g (2 + d) 0), .int t] : List Value).toArray s (Rm 0 0).cells (Rm 0 0).slots A) (F0 m 12 ls [])) ?_ 0 (by omega) H locs ls ⟨hw, hl0⟩
  clear hl0 hl hw
  intro i hi ih H locs ls hP
  obtain ⟨hw, hl⟩ := hP
  refine lv_iload_n hx hb dX0_becomeSent_12 rfl (lv_at hl 1 rfl) ?_
  refine lv_iconst (v := 2) hx hb dX0_becomeSent_13 (by decide) ?_
  refine lv_icmp_ge (tgt := 30) hx hb dX0_becomeSent_14 (by decide) (fun h14 => ?_) (fun h14 => ?_)
  · skip
    have hE : i = 2 := lp_end h14 rfl rfl hi (by decide)
    subst hE
    refine ret_v (wf := cw G g) go hw dX0_becomeSent_30 ?_
    rfl
  · skip
    have hlt : i < 2 := lp_in h14 rfl rfl hi (by decide)
    refine lv_aload_n hx hb dX0_becomeSent_17 rfl (lv_at hl 0 rfl) ?_
    refine gD (d := d) (k := 12) (v := .ref (g (2 + d) 13)) hd rfl (by decide) rfl go hw dX0_becomeSent_18 q90 ?_
    refine lv_iload_n hx hb dX0_becomeSent_21 rfl (lv_at hl 1 rfl) ?_
    refine lv_iconst (v := (-1)) hx hb dX0_becomeSent_22 (by decide) ?_
    refine sD (d := d) (k := 12) (j := i) hd (by decide) (by exact hlt) go hw dX0_becomeSent_23 (fun H locs hw => ?_)
    refine lv_iinc (v := nI (i + 1)) (lv' := [(2, .int (nI (i + 1))), (0, .ref (g (2 + d) 0))]) hx hb dX0_becomeSent_24 hl (k := 1) rfl (nI_1 _) (by decide) rfl (fun ls hl => ?_)
    refine lv_goto (tgt := 12) hx hb dX0_becomeSent_27 (by decide) ?_
    have hl9 : lv_has ls 3 [(0, .ref (g (2 + d) 0)), (2, .int (nI (i + 1)))] := lv_sub hl [1, 0] rfl
    rw [show pA (foS (fun y v => pA y (2 + d) 12 (upd (sA y (2 + d) 12) v (-1))) (pI (pI x (2 + d) 1 3) (2 + d) 7 t) i) (2 + d) 12 (upd (sA (foS (fun y v => pA y (2 + d) 12 (upd (sA y (2 + d) 12) v (-1))) (pI (pI x (2 + d) 1 3) (2 + d) 7 t) i) (2 + d) 12) i (-1)) = foS (fun y v => pA y (2 + d) 12 (upd (sA y (2 + d) 12) v (-1))) (pI (pI x (2 + d) 1 3) (2 + d) 7 t) (i + 1) from by rfl] at hw
    exact ih _ _ _ (by omega) ⟨hw, hl9⟩

set_option maxHeartbeats 4000000 in
set_option maxRecDepth 100000 in
theorem kX0_note (l : Launch) (G : Cx) (g : Nat → Nat → Nat) (x : Sg) (d : Nat) (hd : d < 6) (i : Nat) (hi : i < 8) (v t : Int32) : Cv l G yX0_note cX0_note 4 (Rm 1 20) (cw G g) [.ref (g (2 + d) 0), .int (nI i), .int v, .int t] x (fun u => u = noD x d i v t) := by
  refine Cv.mk (by decide) (Nat.le_of_ble_eq_true rfl) ?_
  intro p e s m below meth c A ls go hw hl
  generalize s.heap = H at hw ⊢
  generalize ([] : List Loc) = locs at hw ⊢
  have hx := go.1
  have hb := go.2.1
  have hl : lv_has ls 4 [(0, .ref (g (2 + d) 0)), (1, .int (nI i)), (2, .int v), (3, .int t)] := hl
  refine lv_aload_n hx hb dX0_note_0 rfl (lv_at hl 0 rfl) ?_
  refine lv_dup hx hb dX0_note_1 rfl ?_
  refine gDi (d := d) (k := 5) (v := sI x (2 + d) 5) hd (by decide) rfl go hw dX0_note_2 q72 ?_
  refine lv_iload_n hx hb dX0_note_5 rfl (lv_at hl 1 rfl) ?_
  refine cal_SN (kX3_bit l G (nI i)) go hw.2.2.1 hw.2.2.2.1 dX0_note_6 (And.intro hw.2.2.2.1.2.1.2.2.2.1 (And.intro q1 q369)) q368 kyX3_bit ⟨rfl, rfl⟩ ⟨Nat.le_of_ble_eq_true rfl, Nat.le_of_ble_eq_true rfl⟩ hl.1 rfl (Nat.le_of_ble_eq_true rfl) ⟨Nat.le_of_ble_eq_true rfl, Nat.le_of_ble_eq_true rfl⟩ ?_
  refine lv_ior hx hb dX0_note_9 ?_
  refine pD (d := d) (k := 5) hd ⟨by decide, by decide⟩ go hw dX0_note_10 q72 (fun H locs hw => ?_)
  refine lv_aload_n hx hb dX0_note_13 rfl (lv_at hl 0 rfl) ?_
  refine gD (d := d) (k := 9) (v := .ref (g (2 + d) 10)) hd rfl (by decide) rfl go hw dX0_note_14 q82 ?_
  refine lv_iload_n hx hb dX0_note_17 rfl (lv_at hl 1 rfl) ?_
  refine lv_iload_n hx hb dX0_note_18 rfl (lv_at hl 2 rfl) ?_
  refine sD (d := d) (k := 9) (j := i) hd (by decide) (by exact hi) go hw dX0_note_19 (fun H locs hw => ?_)
  rw [show sA (pI x (2 + d) 5 ((sI x (2 + d) 5) ||| (bt (nI i)))) (2 + d) 9 = sA x (2 + d) 9 from ((sA_pI _ _ _ _ _ _).trans rfl)] at hw
  refine lv_aload_n hx hb dX0_note_20 rfl (lv_at hl 0 rfl) ?_
  refine gD (d := d) (k := 10) (v := .ref (g (2 + d) 11)) hd rfl (by decide) rfl go hw dX0_note_21 q84 ?_
  refine lv_iload_n hx hb dX0_note_24 rfl (lv_at hl 1 rfl) ?_
  refine lv_iload_n hx hb dX0_note_25 rfl (lv_at hl 3 rfl) ?_
  refine sD (d := d) (k := 10) (j := i) hd (by decide) (by exact hi) go hw dX0_note_26 (fun H locs hw => ?_)
  rw [show sA (pA (pI x (2 + d) 5 ((sI x (2 + d) 5) ||| (bt (nI i)))) (2 + d) 9 (upd (sA x (2 + d) 9) i v)) (2 + d) 10 = sA x (2 + d) 10 from ((sA_ne (by omega)).trans ((sA_pI _ _ _ _ _ _).trans rfl))] at hw
  refine ret_v (wf := cw G g) go hw dX0_note_27 ?_
  rfl

def haB (x : Sg) (d : Nat) : Bool := !exB (fun j => !(!decide (sA x (2 + d) 12 j = -1))) 2

set_option maxHeartbeats 4000000 in
set_option maxRecDepth 100000 in
theorem kX0_hasAllVotes (l : Launch) (G : Cx) (g : Nat → Nat → Nat) (x : Sg) (d : Nat) (hd : d < 6) : Ci l G yX0_hasAllVotes cX0_hasAllVotes 5 .boolean (Rm 0 0) (cw G g) [.ref (g (2 + d) 0)] x (fun r u => r = bI (haB x d) ∧ u = x) := by
  refine Ci.mk (by decide) (Nat.le_of_ble_eq_true rfl) ?_
  intro p e s m below meth c A ls go hw hl
  generalize s.heap = H at hw ⊢
  generalize ([] : List Loc) = locs at hw ⊢
  have hx := go.1
  have hb := go.2.1
  have hl : lv_has ls 5 [(0, .ref (g (2 + d) 0))] := hl
  refine lv_aload_n hx hb dX0_hasAllVotes_0 rfl (lv_at hl 0 rfl) ?_
  refine gD (d := d) (k := 12) (v := .ref (g (2 + d) 13)) hd rfl (by decide) rfl go hw dX0_hasAllVotes_1 q90 ?_
  refine lv_astore_n (lv' := [(1, .ref (g (2 + d) 13)), (0, .ref (g (2 + d) 0))]) hx hb dX0_hasAllVotes_4 rfl hl (by decide) rfl (fun ls hl => ?_)
  refine lv_aload_n hx hb dX0_hasAllVotes_5 rfl (lv_at hl 0 rfl) ?_
  refine lV hd go hw dX0_hasAllVotes_6 ?_
  refine lv_istore_n (lv' := [(2, .int (nI 2)), (1, .ref (g (2 + d) 13)), (0, .ref (g (2 + d) 0))]) hx hb dX0_hasAllVotes_7 rfl hl (by decide) rfl (fun ls hl => ?_)
  refine lv_iconst (v := 0) hx hb dX0_hasAllVotes_8 (by decide) ?_
  refine lv_istore_n (lv' := [(3, .int 0), (2, .int (nI 2)), (1, .ref (g (2 + d) 13)), (0, .ref (g (2 + d) 0))]) hx hb dX0_hasAllVotes_9 rfl hl (by decide) rfl (fun ls hl => ?_)
  have hl0 : lv_has ls 5 [(0, .ref (g (2 + d) 0)), (1, .ref (g (2 + d) 13)), (2, .int (nI 2)), (3, .int (nI 0))] := lv_to (lv_sub (l' := [(0, .ref (g (2 + d) 0)), (1, .ref (g (2 + d) 13)), (2, .int (nI 2)), (3, .int 0)]) hl [3, 2, 1, 0] rfl) (lr (lr (lr (lc (show (0 : Int32) = nI 0 from rfl) rfl))))
  refine loop_up (N := 2) (P := fun i H locs ls => Wd G A s H locs (cw G g x) ∧ lv_has ls 5 [(0, .ref (g (2 + d) 0)), (1, .ref (g (2 + d) 13)), (2, .int (nI 2)), (3, .int (nI i))] ∧ (∀ j, j < i → (fun j => !(!decide (sA x (2 + d) 12 j = -1))) j = false)) (X := fun H locs ls => W p l e (Rm 0 0) s m ([.ref (g (2 + d) 0)] : List Value).toArray below meth c H locs 0 0 (MQ below (va_Qi (fun r u => r = bI (haB x d) ∧ u = x) (PostW G (cw G g) A) A) ([.ref (g (2 + d) 0)] : List Value).toArray s (Rm 0 0).cells (Rm 0 0).slots A) (F0 m 10 ls [])) ?_ 0 (by omega) H locs ls ⟨hw, hl0, (fun j hj => absurd hj (by omega))⟩
  clear hl0 hl hw
  intro i hi ih H locs ls hP
  obtain ⟨hw, hl, hE0⟩ := hP
  refine lv_iload_n hx hb dX0_hasAllVotes_10 rfl (lv_at hl 3 rfl) ?_
  refine lv_iload_n hx hb dX0_hasAllVotes_11 rfl (lv_at hl 2 rfl) ?_
  refine lv_icmp_ge (tgt := 34) hx hb dX0_hasAllVotes_12 (by decide) (fun h12 => ?_) (fun h12 => ?_)
  · skip
    have hE : i = 2 := lp_end h12 rfl rfl hi (by decide)
    subst hE
    refine lv_iconst (v := 1) hx hb dX0_hasAllVotes_34 (by decide) ?_
    refine ret_z (wf := cw G g) go hw dX0_hasAllVotes_35 rfl ?_
    exact ⟨by rw [haB, exB_f hE0]; rfl, rfl⟩
  · skip
    have hlt : i < 2 := lp_in h12 rfl rfl hi (by decide)
    refine lv_aload_n hx hb dX0_hasAllVotes_15 rfl (lv_at hl 1 rfl) ?_
    refine lv_iload_n hx hb dX0_hasAllVotes_16 rfl (lv_at hl 3 rfl) ?_
    refine aD (d := d) (k := 12) (j := i) hd (by decide) (by exact hlt) go hw dX0_hasAllVotes_17 ?_
    refine lv_istore (lv' := [(4, .int (sA x (2 + d) 12 i)), (0, .ref (g (2 + d) 0)), (1, .ref (g (2 + d) 13)), (2, .int (nI 2)), (3, .int (nI i))]) hx hb dX0_hasAllVotes_18 hl (by decide) rfl (fun ls hl => ?_)
    refine lv_iload hx hb dX0_hasAllVotes_20 (lv_at hl 0 rfl) ?_
    refine lv_iconst (v := (-1)) hx hb dX0_hasAllVotes_22 (by decide) ?_
    refine lv_icmp_ne (tgt := 28) hx hb dX0_hasAllVotes_23 (by decide) (fun h23 => ?_) (fun h23 => ?_)
    · skip
      refine lv_iinc (v := nI (i + 1)) (lv' := [(3, .int (nI (i + 1))), (4, .int (sA x (2 + d) 12 i)), (0, .ref (g (2 + d) 0)), (1, .ref (g (2 + d) 13)), (2, .int (nI 2))]) hx hb dX0_hasAllVotes_28 hl (k := 4) rfl (nI_1 _) (by decide) rfl (fun ls hl => ?_)
      refine lv_goto (tgt := 10) hx hb dX0_hasAllVotes_31 (by decide) ?_
      have hl9 : lv_has ls 5 [(0, .ref (g (2 + d) 0)), (1, .ref (g (2 + d) 13)), (2, .int (nI 2)), (3, .int (nI (i + 1)))] := lv_sub hl [2, 3, 4, 0] rfl
      exact ih _ _ _ (by omega) ⟨hw, hl9, (lt_s hE0 (by simp [*]))⟩
    · skip
      refine lv_iconst (v := 0) hx hb dX0_hasAllVotes_26 (by decide) ?_
      refine ret_z (wf := cw G g) go hw dX0_hasAllVotes_27 rfl ?_
      exact ⟨by rw [haB, exB_t (p := (fun j => !(!decide (sA x (2 + d) 12 j = -1)))) (i := i) (by simp [*]) hlt]; rfl, rfl⟩

def hoB (x : Sg) (d : Nat) : Bool := !exB (fun j => !(decide (sA x (2 + d) 12 j = 1))) 2

set_option maxHeartbeats 4000000 in
set_option maxRecDepth 100000 in
theorem kX0_hasOnlyYes (l : Launch) (G : Cx) (g : Nat → Nat → Nat) (x : Sg) (d : Nat) (hd : d < 6) : Ci l G yX0_hasOnlyYes cX0_hasOnlyYes 5 .boolean (Rm 0 0) (cw G g) [.ref (g (2 + d) 0)] x (fun r u => r = bI (hoB x d) ∧ u = x) := by
  refine Ci.mk (by decide) (Nat.le_of_ble_eq_true rfl) ?_
  intro p e s m below meth c A ls go hw hl
  generalize s.heap = H at hw ⊢
  generalize ([] : List Loc) = locs at hw ⊢
  have hx := go.1
  have hb := go.2.1
  have hl : lv_has ls 5 [(0, .ref (g (2 + d) 0))] := hl
  refine lv_aload_n hx hb dX0_hasOnlyYes_0 rfl (lv_at hl 0 rfl) ?_
  refine gD (d := d) (k := 12) (v := .ref (g (2 + d) 13)) hd rfl (by decide) rfl go hw dX0_hasOnlyYes_1 q90 ?_
  refine lv_astore_n (lv' := [(1, .ref (g (2 + d) 13)), (0, .ref (g (2 + d) 0))]) hx hb dX0_hasOnlyYes_4 rfl hl (by decide) rfl (fun ls hl => ?_)
  refine lv_aload_n hx hb dX0_hasOnlyYes_5 rfl (lv_at hl 0 rfl) ?_
  refine lV hd go hw dX0_hasOnlyYes_6 ?_
  refine lv_istore_n (lv' := [(2, .int (nI 2)), (1, .ref (g (2 + d) 13)), (0, .ref (g (2 + d) 0))]) hx hb dX0_hasOnlyYes_7 rfl hl (by decide) rfl (fun ls hl => ?_)
  refine lv_iconst (v := 0) hx hb dX0_hasOnlyYes_8 (by decide) ?_
  refine lv_istore_n (lv' := [(3, .int 0), (2, .int (nI 2)), (1, .ref (g (2 + d) 13)), (0, .ref (g (2 + d) 0))]) hx hb dX0_hasOnlyYes_9 rfl hl (by decide) rfl (fun ls hl => ?_)
  have hl0 : lv_has ls 5 [(0, .ref (g (2 + d) 0)), (1, .ref (g (2 + d) 13)), (2, .int (nI 2)), (3, .int (nI 0))] := lv_to (lv_sub (l' := [(0, .ref (g (2 + d) 0)), (1, .ref (g (2 + d) 13)), (2, .int (nI 2)), (3, .int 0)]) hl [3, 2, 1, 0] rfl) (lr (lr (lr (lc (show (0 : Int32) = nI 0 from rfl) rfl))))
  refine loop_up (N := 2) (P := fun i H locs ls => Wd G A s H locs (cw G g x) ∧ lv_has ls 5 [(0, .ref (g (2 + d) 0)), (1, .ref (g (2 + d) 13)), (2, .int (nI 2)), (3, .int (nI i))] ∧ (∀ j, j < i → (fun j => !(decide (sA x (2 + d) 12 j = 1))) j = false)) (X := fun H locs ls => W p l e (Rm 0 0) s m ([.ref (g (2 + d) 0)] : List Value).toArray below meth c H locs 0 0 (MQ below (va_Qi (fun r u => r = bI (hoB x d) ∧ u = x) (PostW G (cw G g) A) A) ([.ref (g (2 + d) 0)] : List Value).toArray s (Rm 0 0).cells (Rm 0 0).slots A) (F0 m 10 ls [])) ?_ 0 (by omega) H locs ls ⟨hw, hl0, (fun j hj => absurd hj (by omega))⟩
  clear hl0 hl hw
  intro i hi ih H locs ls hP
  obtain ⟨hw, hl, hE0⟩ := hP
  refine lv_iload_n hx hb dX0_hasOnlyYes_10 rfl (lv_at hl 3 rfl) ?_
  refine lv_iload_n hx hb dX0_hasOnlyYes_11 rfl (lv_at hl 2 rfl) ?_
  refine lv_icmp_ge (tgt := 34) hx hb dX0_hasOnlyYes_12 (by decide) (fun h12 => ?_) (fun h12 => ?_)
  · skip
    have hE : i = 2 := lp_end h12 rfl rfl hi (by decide)
    subst hE
    refine lv_iconst (v := 1) hx hb dX0_hasOnlyYes_34 (by decide) ?_
    refine ret_z (wf := cw G g) go hw dX0_hasOnlyYes_35 rfl ?_
    exact ⟨by rw [hoB, exB_f hE0]; rfl, rfl⟩
  · skip
    have hlt : i < 2 := lp_in h12 rfl rfl hi (by decide)
    refine lv_aload_n hx hb dX0_hasOnlyYes_15 rfl (lv_at hl 1 rfl) ?_
    refine lv_iload_n hx hb dX0_hasOnlyYes_16 rfl (lv_at hl 3 rfl) ?_
    refine aD (d := d) (k := 12) (j := i) hd (by decide) (by exact hlt) go hw dX0_hasOnlyYes_17 ?_
    refine lv_istore (lv' := [(4, .int (sA x (2 + d) 12 i)), (0, .ref (g (2 + d) 0)), (1, .ref (g (2 + d) 13)), (2, .int (nI 2)), (3, .int (nI i))]) hx hb dX0_hasOnlyYes_18 hl (by decide) rfl (fun ls hl => ?_)
    refine lv_iload hx hb dX0_hasOnlyYes_20 (lv_at hl 0 rfl) ?_
    refine lv_iconst (v := 1) hx hb dX0_hasOnlyYes_22 (by decide) ?_
    refine lv_icmp_eq (tgt := 28) hx hb dX0_hasOnlyYes_23 (by decide) (fun h23 => ?_) (fun h23 => ?_)
    · skip
      refine lv_iinc (v := nI (i + 1)) (lv' := [(3, .int (nI (i + 1))), (4, .int (sA x (2 + d) 12 i)), (0, .ref (g (2 + d) 0)), (1, .ref (g (2 + d) 13)), (2, .int (nI 2))]) hx hb dX0_hasOnlyYes_28 hl (k := 4) rfl (nI_1 _) (by decide) rfl (fun ls hl => ?_)
      refine lv_goto (tgt := 10) hx hb dX0_hasOnlyYes_31 (by decide) ?_
      have hl9 : lv_has ls 5 [(0, .ref (g (2 + d) 0)), (1, .ref (g (2 + d) 13)), (2, .int (nI 2)), (3, .int (nI (i + 1)))] := lv_sub hl [2, 3, 4, 0] rfl
      exact ih _ _ _ (by omega) ⟨hw, hl9, (lt_s hE0 (by simp [*]))⟩
    · skip
      refine lv_iconst (v := 0) hx hb dX0_hasOnlyYes_26 (by decide) ?_
      refine ret_z (wf := cw G g) go hw dX0_hasOnlyYes_27 rfl ?_
      exact ⟨by rw [hoB, exB_t (p := (fun j => !(decide (sA x (2 + d) 12 j = 1)))) (i := i) (by simp [*]) hlt]; rfl, rfl⟩

set_option maxHeartbeats 4000000 in
set_option maxRecDepth 100000 in
theorem kX1_keepDeal (l : Launch) (G : Cx) (g : Nat → Nat → Nat) (x : Sg) (n : Nat) (hn : n < sN x) (d : Nat) (hd : d < 6) (w : Int32) : Cv l G yX1_keepDeal cX1_keepDeal 4 (Rm 0 0) (cw G g) [.ref (sE x n 0), .ref (g (2 + d) 0), .int w] x (fun u => u = kdE x n d w) := by
  refine Cv.mk (by decide) (Nat.le_of_ble_eq_true rfl) ?_
  intro p e s m below meth c A ls go hw hl
  generalize s.heap = H at hw ⊢
  generalize ([] : List Loc) = locs at hw ⊢
  have hx := go.1
  have hb := go.2.1
  have hl : lv_has ls 4 [(0, .ref (sE x n 0)), (1, .ref (g (2 + d) 0)), (2, .int w)] := hl
  refine lv_aload_n hx hb dX1_keepDeal_0 rfl (lv_at hl 0 rfl) ?_
  refine lv_aload_n hx hb dX1_keepDeal_1 rfl (lv_at hl 1 rfl) ?_
  refine gDi (d := d) (k := 0) (v := sI x (2 + d) 0) hd (by decide) rfl go hw dX1_keepDeal_2 q60 ?_
  refine pE (x := x) (n := n) (k := 0) hn (by decide) go hw dX1_keepDeal_5 q330 (fun H locs hw => ?_)
  refine lv_aload_n hx hb dX1_keepDeal_8 rfl (lv_at hl 0 rfl) ?_
  refine lv_aload_n hx hb dX1_keepDeal_9 rfl (lv_at hl 1 rfl) ?_
  refine gDi (d := d) (k := 3) (v := sI x (2 + d) 3) hd (by decide) ((sI_ne (by omega)).trans rfl) go hw dX1_keepDeal_10 q66 ?_
  refine pE (x := pI x (8 + n) 0 (sI x (2 + d) 0)) (n := n) (k := 1) hn (by decide) go hw dX1_keepDeal_13 q332 (fun H locs hw => ?_)
  refine lv_aload_n hx hb dX1_keepDeal_16 rfl (lv_at hl 0 rfl) ?_
  refine lv_aload_n hx hb dX1_keepDeal_17 rfl (lv_at hl 1 rfl) ?_
  refine gDi (d := d) (k := 4) (v := sI x (2 + d) 4) hd (by decide) ((sI_ne (by omega)).trans ((sI_ne (by omega)).trans rfl)) go hw dX1_keepDeal_18 q69 ?_
  refine pE (x := pI (pI x (8 + n) 0 (sI x (2 + d) 0)) (8 + n) 1 (sI x (2 + d) 3)) (n := n) (k := 2) hn (by decide) go hw dX1_keepDeal_21 q334 (fun H locs hw => ?_)
  refine lv_aload_n hx hb dX1_keepDeal_24 rfl (lv_at hl 0 rfl) ?_
  refine lv_aload_n hx hb dX1_keepDeal_25 rfl (lv_at hl 1 rfl) ?_
  refine gDi (d := d) (k := 5) (v := sI x (2 + d) 5) hd (by decide) ((sI_ne (by omega)).trans ((sI_ne (by omega)).trans ((sI_ne (by omega)).trans rfl))) go hw dX1_keepDeal_26 q73 ?_
  refine pE (x := pI (pI (pI x (8 + n) 0 (sI x (2 + d) 0)) (8 + n) 1 (sI x (2 + d) 3)) (8 + n) 2 (sI x (2 + d) 4)) (n := n) (k := 3) hn (by decide) go hw dX1_keepDeal_29 q336 (fun H locs hw => ?_)
  refine lv_aload_n hx hb dX1_keepDeal_32 rfl (lv_at hl 0 rfl) ?_
  refine lv_aload_n hx hb dX1_keepDeal_33 rfl (lv_at hl 1 rfl) ?_
  refine gDi (d := d) (k := 6) (v := sI x (2 + d) 6) hd (by decide) ((sI_ne (by omega)).trans ((sI_ne (by omega)).trans ((sI_ne (by omega)).trans ((sI_ne (by omega)).trans rfl)))) go hw dX1_keepDeal_34 q76 ?_
  refine pE (x := pI (pI (pI (pI x (8 + n) 0 (sI x (2 + d) 0)) (8 + n) 1 (sI x (2 + d) 3)) (8 + n) 2 (sI x (2 + d) 4)) (8 + n) 3 (sI x (2 + d) 5)) (n := n) (k := 4) hn (by decide) go hw dX1_keepDeal_37 q338 (fun H locs hw => ?_)
  refine lv_aload_n hx hb dX1_keepDeal_40 rfl (lv_at hl 0 rfl) ?_
  refine lv_iload_n hx hb dX1_keepDeal_41 rfl (lv_at hl 2 rfl) ?_
  refine pE (x := pI (pI (pI (pI (pI x (8 + n) 0 (sI x (2 + d) 0)) (8 + n) 1 (sI x (2 + d) 3)) (8 + n) 2 (sI x (2 + d) 4)) (8 + n) 3 (sI x (2 + d) 5)) (8 + n) 4 (sI x (2 + d) 6)) (n := n) (k := 5) hn (by decide) go hw dX1_keepDeal_42 q340 (fun H locs hw => ?_)
  refine lv_iconst (v := 0) hx hb dX1_keepDeal_45 (by decide) ?_
  refine lv_istore_n (lv' := [(3, .int 0), (0, .ref (sE x n 0)), (1, .ref (g (2 + d) 0)), (2, .int w)]) hx hb dX1_keepDeal_46 rfl hl (by decide) rfl (fun ls hl => ?_)
  rw [show pI (pI (pI (pI (pI (pI x (8 + n) 0 (sI x (2 + d) 0)) (8 + n) 1 (sI x (2 + d) 3)) (8 + n) 2 (sI x (2 + d) 4)) (8 + n) 3 (sI x (2 + d) 5)) (8 + n) 4 (sI x (2 + d) 6)) (8 + n) 5 w = pA (pA (kd0 x n d w) (8 + n) 6 (cpF (sA x (8 + n) 6) (sA x (2 + d) 10) 0)) (8 + n) 7 (cpF (sA x (8 + n) 7) (sA x (2 + d) 11) 0) from by rw [cpF_0, cpF_0]; exact ((congrArg (fun z => pA z (8 + n) 7 (sA x (8 + n) 7)) (pA_self (kd0 x n d w) (8 + n) 6)).trans (pA_self (kd0 x n d w) (8 + n) 7)).symm] at hw
  have hl0 : lv_has ls 4 [(0, .ref (sE x n 0)), (1, .ref (g (2 + d) 0)), (3, .int (nI 0))] := lv_to (lv_sub (l' := [(0, .ref (sE x n 0)), (1, .ref (g (2 + d) 0)), (3, .int 0)]) hl [1, 2, 0] rfl) (lr (lr (lc (show (0 : Int32) = nI 0 from rfl) rfl)))
  refine loop_up (N := 8) (P := fun i H locs ls => Wd G A s H locs (cw G g (pA (pA (kd0 x n d w) (8 + n) 6 (cpF (sA x (8 + n) 6) (sA x (2 + d) 10) i)) (8 + n) 7 (cpF (sA x (8 + n) 7) (sA x (2 + d) 11) i))) ∧ lv_has ls 4 [(0, .ref (sE x n 0)), (1, .ref (g (2 + d) 0)), (3, .int (nI i))]) (X := fun H locs ls => W p l e (Rm 0 0) s m ([.ref (sE x n 0), .ref (g (2 + d) 0), .int w] : List Value).toArray below meth c H locs 0 0 (MQ below (va_Qv (fun u => u = kdE x n d w) (PostW G (cw G g) A) A) ([.ref (sE x n 0), .ref (g (2 + d) 0), .int w] : List Value).toArray s (Rm 0 0).cells (Rm 0 0).slots A) (F0 m 47 ls [])) ?_ 0 (by omega) H locs ls ⟨hw, hl0⟩
  clear hl0 hl hw
  intro i hi ih H locs ls hP
  obtain ⟨hw, hl⟩ := hP
  refine lv_iload_n hx hb dX1_keepDeal_47 rfl (lv_at hl 2 rfl) ?_
  refine lv_bipush (v := 8) hx hb dX1_keepDeal_48 (by decide) ?_
  refine lv_icmp_ge (tgt := 83) hx hb dX1_keepDeal_50 (by decide) (fun h50 => ?_) (fun h50 => ?_)
  · skip
    have hE : i = 8 := lp_end h50 rfl rfl hi (by decide)
    subst hE
    refine ret_v (wf := cw G g) go hw dX1_keepDeal_83 ?_
    rfl
  · skip
    have hlt : i < 8 := lp_in h50 rfl rfl hi (by decide)
    refine lv_aload_n hx hb dX1_keepDeal_53 rfl (lv_at hl 0 rfl) ?_
    refine gEr (x := pA (pA (kd0 x n d w) (8 + n) 6 (cpF (sA x (8 + n) 6) (sA x (2 + d) 10) i)) (8 + n) 7 (cpF (sA x (8 + n) 7) (sA x (2 + d) 11) i)) (n := n) (k := 6) hn (by decide) go hw dX1_keepDeal_54 q342 ?_
    refine lv_iload_n hx hb dX1_keepDeal_57 rfl (lv_at hl 2 rfl) ?_
    refine lv_aload_n hx hb dX1_keepDeal_58 rfl (lv_at hl 1 rfl) ?_
    refine gD (d := d) (k := 10) (v := .ref (g (2 + d) 11)) hd rfl (by decide) rfl go hw dX1_keepDeal_59 q85 ?_
    refine lv_iload_n hx hb dX1_keepDeal_62 rfl (lv_at hl 2 rfl) ?_
    refine aD (d := d) (k := 10) (j := i) hd (by decide) (by exact hlt) go hw dX1_keepDeal_63 ?_
    refine toI (show sA (pA (pA (kd0 x n d w) (8 + n) 6 (cpF (sA x (8 + n) 6) (sA x (2 + d) 10) i)) (8 + n) 7 (cpF (sA x (8 + n) 7) (sA x (2 + d) 11) i)) (2 + d) 10 i = sA (kd0 x n d w) (2 + d) 10 i from congrFun ((sA_ne (by omega)).trans ((sA_ne (by omega)).trans rfl)) i) ?_
    refine toI (show sA (kd0 x n d w) (2 + d) 10 i = sA x (2 + d) 10 i from by first | rfl | (simp [sA_pA, sA_pI, kd0]; done)) ?_
    refine sEa (x := pA (pA (kd0 x n d w) (8 + n) 6 (cpF (sA x (8 + n) 6) (sA x (2 + d) 10) i)) (8 + n) 7 (cpF (sA x (8 + n) 7) (sA x (2 + d) 11) i)) (n := n) (k := 6) (j := i) hn (by decide) (by exact hlt) go hw dX1_keepDeal_64 (fun H locs hw => ?_)
    rw [show sA (pA (pA (kd0 x n d w) (8 + n) 6 (cpF (sA x (8 + n) 6) (sA x (2 + d) 10) i)) (8 + n) 7 (cpF (sA x (8 + n) 7) (sA x (2 + d) 11) i)) (8 + n) 6 = cpF (sA x (8 + n) 6) (sA x (2 + d) 10) i from ((sA_ne (by omega)).trans sA_eq)] at hw
    refine lv_aload_n hx hb dX1_keepDeal_65 rfl (lv_at hl 0 rfl) ?_
    refine gEr (x := pA (pA (pA (kd0 x n d w) (8 + n) 6 (cpF (sA x (8 + n) 6) (sA x (2 + d) 10) i)) (8 + n) 7 (cpF (sA x (8 + n) 7) (sA x (2 + d) 11) i)) (8 + n) 6 (upd (cpF (sA x (8 + n) 6) (sA x (2 + d) 10) i) i (sA x (2 + d) 10 i))) (n := n) (k := 7) hn (by decide) go hw dX1_keepDeal_66 q344 ?_
    refine lv_iload_n hx hb dX1_keepDeal_69 rfl (lv_at hl 2 rfl) ?_
    refine lv_aload_n hx hb dX1_keepDeal_70 rfl (lv_at hl 1 rfl) ?_
    refine gD (d := d) (k := 11) (v := .ref (g (2 + d) 12)) hd rfl (by decide) rfl go hw dX1_keepDeal_71 q88 ?_
    refine lv_iload_n hx hb dX1_keepDeal_74 rfl (lv_at hl 2 rfl) ?_
    refine aD (d := d) (k := 11) (j := i) hd (by decide) (by exact hlt) go hw dX1_keepDeal_75 ?_
    refine toI (show sA (pA (pA (pA (kd0 x n d w) (8 + n) 6 (cpF (sA x (8 + n) 6) (sA x (2 + d) 10) i)) (8 + n) 7 (cpF (sA x (8 + n) 7) (sA x (2 + d) 11) i)) (8 + n) 6 (upd (cpF (sA x (8 + n) 6) (sA x (2 + d) 10) i) i (sA x (2 + d) 10 i))) (2 + d) 11 i = sA (kd0 x n d w) (2 + d) 11 i from congrFun ((sA_ne (by omega)).trans ((sA_ne (by omega)).trans ((sA_ne (by omega)).trans rfl))) i) ?_
    refine toI (show sA (kd0 x n d w) (2 + d) 11 i = sA x (2 + d) 11 i from by first | rfl | (simp [sA_pA, sA_pI, kd0]; done)) ?_
    refine sEa (x := pA (pA (pA (kd0 x n d w) (8 + n) 6 (cpF (sA x (8 + n) 6) (sA x (2 + d) 10) i)) (8 + n) 7 (cpF (sA x (8 + n) 7) (sA x (2 + d) 11) i)) (8 + n) 6 (upd (cpF (sA x (8 + n) 6) (sA x (2 + d) 10) i) i (sA x (2 + d) 10 i))) (n := n) (k := 7) (j := i) hn (by decide) (by exact hlt) go hw dX1_keepDeal_76 (fun H locs hw => ?_)
    rw [show sA (pA (pA (pA (kd0 x n d w) (8 + n) 6 (cpF (sA x (8 + n) 6) (sA x (2 + d) 10) i)) (8 + n) 7 (cpF (sA x (8 + n) 7) (sA x (2 + d) 11) i)) (8 + n) 6 (upd (cpF (sA x (8 + n) 6) (sA x (2 + d) 10) i) i (sA x (2 + d) 10 i))) (8 + n) 7 = cpF (sA x (8 + n) 7) (sA x (2 + d) 11) i from ((sA_ne (by omega)).trans sA_eq)] at hw
    refine lv_iinc (v := nI (i + 1)) (lv' := [(3, .int (nI (i + 1))), (0, .ref (sE x n 0)), (1, .ref (g (2 + d) 0))]) hx hb dX1_keepDeal_77 hl (k := 2) rfl (nI_1 _) (by decide) rfl (fun ls hl => ?_)
    refine lv_goto (tgt := 47) hx hb dX1_keepDeal_80 (by decide) ?_
    have hl9 : lv_has ls 4 [(0, .ref (sE x n 0)), (1, .ref (g (2 + d) 0)), (3, .int (nI (i + 1)))] := lv_sub hl [1, 2, 0] rfl
    rw [show pA (pA (pA (pA (kd0 x n d w) (8 + n) 6 (cpF (sA x (8 + n) 6) (sA x (2 + d) 10) i)) (8 + n) 7 (cpF (sA x (8 + n) 7) (sA x (2 + d) 11) i)) (8 + n) 6 (upd (cpF (sA x (8 + n) 6) (sA x (2 + d) 10) i) i (sA x (2 + d) 10 i))) (8 + n) 7 (upd (cpF (sA x (8 + n) 7) (sA x (2 + d) 11) i) i (sA x (2 + d) 11 i)) = pA (pA (kd0 x n d w) (8 + n) 6 (cpF (sA x (8 + n) 6) (sA x (2 + d) 10) (i + 1))) (8 + n) 7 (cpF (sA x (8 + n) 7) (sA x (2 + d) 11) (i + 1)) from by rw [pA_over, cpF_s, cpF_s]] at hw
    exact ih _ _ _ (by omega) ⟨hw, hl9⟩

set_option maxHeartbeats 4000000 in
set_option maxRecDepth 100000 in
theorem kX1_keepWrite (l : Launch) (G : Cx) (g : Nat → Nat → Nat) (x : Sg) (n : Nat) (hn : n < sN x) (i : Nat) (hi : i < 8) (v : Int32) : Cv l G yX1_keepWrite cX1_keepWrite 3 (Rm 1 20) (cw G g) [.ref (sE x n 0), .int (nI i), .int v] x (fun u => u = kwE x n i v) := by
  refine Cv.mk (by decide) (Nat.le_of_ble_eq_true rfl) ?_
  intro p e s m below meth c A ls go hw hl
  generalize s.heap = H at hw ⊢
  generalize ([] : List Loc) = locs at hw ⊢
  have hx := go.1
  have hb := go.2.1
  have hl : lv_has ls 3 [(0, .ref (sE x n 0)), (1, .int (nI i)), (2, .int v)] := hl
  refine lv_aload_n hx hb dX1_keepWrite_0 rfl (lv_at hl 0 rfl) ?_
  refine lv_iconst (v := (-1)) hx hb dX1_keepWrite_1 (by decide) ?_
  refine pE (x := x) (n := n) (k := 0) hn (by decide) go hw dX1_keepWrite_2 q330 (fun H locs hw => ?_)
  refine lv_aload_n hx hb dX1_keepWrite_5 rfl (lv_at hl 0 rfl) ?_
  refine lv_iconst (v := 0) hx hb dX1_keepWrite_6 (by decide) ?_
  refine pE (x := pI x (8 + n) 0 (-1)) (n := n) (k := 1) hn (by decide) go hw dX1_keepWrite_7 q332 (fun H locs hw => ?_)
  refine lv_aload_n hx hb dX1_keepWrite_10 rfl (lv_at hl 0 rfl) ?_
  refine lv_iconst (v := 0) hx hb dX1_keepWrite_11 (by decide) ?_
  refine pE (x := pI (pI x (8 + n) 0 (-1)) (8 + n) 1 0) (n := n) (k := 2) hn (by decide) go hw dX1_keepWrite_12 q334 (fun H locs hw => ?_)
  refine lv_aload_n hx hb dX1_keepWrite_15 rfl (lv_at hl 0 rfl) ?_
  refine lv_iconst (v := 0) hx hb dX1_keepWrite_16 (by decide) ?_
  refine pE (x := pI (pI (pI x (8 + n) 0 (-1)) (8 + n) 1 0) (8 + n) 2 0) (n := n) (k := 3) hn (by decide) go hw dX1_keepWrite_17 q336 (fun H locs hw => ?_)
  refine lv_aload_n hx hb dX1_keepWrite_20 rfl (lv_at hl 0 rfl) ?_
  refine lv_iload_n hx hb dX1_keepWrite_21 rfl (lv_at hl 1 rfl) ?_
  refine cal_SN (kX3_bit l G (nI i)) go hw.2.2.1 hw.2.2.2.1 dX1_keepWrite_22 (And.intro hw.2.2.2.1.2.1.2.2.1 (And.intro q1 q369)) q368 kyX3_bit ⟨rfl, rfl⟩ ⟨Nat.le_of_ble_eq_true rfl, Nat.le_of_ble_eq_true rfl⟩ hl.1 rfl (Nat.le_of_ble_eq_true rfl) ⟨Nat.le_of_ble_eq_true rfl, Nat.le_of_ble_eq_true rfl⟩ ?_
  refine pE (x := pI (pI (pI (pI x (8 + n) 0 (-1)) (8 + n) 1 0) (8 + n) 2 0) (8 + n) 3 0) (n := n) (k := 4) hn (by decide) go hw dX1_keepWrite_25 q338 (fun H locs hw => ?_)
  refine lv_aload_n hx hb dX1_keepWrite_28 rfl (lv_at hl 0 rfl) ?_
  refine lv_iconst (v := 4) hx hb dX1_keepWrite_29 (by decide) ?_
  refine pE (x := pI (pI (pI (pI (pI x (8 + n) 0 (-1)) (8 + n) 1 0) (8 + n) 2 0) (8 + n) 3 0) (8 + n) 4 (bt (nI i))) (n := n) (k := 5) hn (by decide) go hw dX1_keepWrite_30 q340 (fun H locs hw => ?_)
  refine lv_aload_n hx hb dX1_keepWrite_33 rfl (lv_at hl 0 rfl) ?_
  refine gEr (x := pI (pI (pI (pI (pI (pI x (8 + n) 0 (-1)) (8 + n) 1 0) (8 + n) 2 0) (8 + n) 3 0) (8 + n) 4 (bt (nI i))) (8 + n) 5 4) (n := n) (k := 7) hn (by decide) go hw dX1_keepWrite_34 q344 ?_
  refine lv_iload_n hx hb dX1_keepWrite_37 rfl (lv_at hl 1 rfl) ?_
  refine lv_iload_n hx hb dX1_keepWrite_38 rfl (lv_at hl 2 rfl) ?_
  refine sEa (x := pI (pI (pI (pI (pI (pI x (8 + n) 0 (-1)) (8 + n) 1 0) (8 + n) 2 0) (8 + n) 3 0) (8 + n) 4 (bt (nI i))) (8 + n) 5 4) (n := n) (k := 7) (j := i) hn (by decide) (by exact hi) go hw dX1_keepWrite_39 (fun H locs hw => ?_)
  rw [show sA (pI (pI (pI (pI (pI (pI x (8 + n) 0 (-1)) (8 + n) 1 0) (8 + n) 2 0) (8 + n) 3 0) (8 + n) 4 (bt (nI i))) (8 + n) 5 4) (8 + n) 7 = sA x (8 + n) 7 from ((sA_pI _ _ _ _ _ _).trans ((sA_pI _ _ _ _ _ _).trans ((sA_pI _ _ _ _ _ _).trans ((sA_pI _ _ _ _ _ _).trans ((sA_pI _ _ _ _ _ _).trans ((sA_pI _ _ _ _ _ _).trans rfl))))))] at hw
  refine ret_v (wf := cw G g) go hw dX1_keepWrite_40 ?_
  rfl

set_option maxHeartbeats 4000000 in
set_option maxRecDepth 100000 in
theorem kX1_hasNoted (l : Launch) (G : Cx) (g : Nat → Nat → Nat) (x : Sg) (n : Nat) (hn : n < sN x) (t : Int32) : Ci l G yX1_hasNoted cX1_hasNoted 3 .boolean (Rm 2 41) (cw G g) [.ref (sE x n 0), .int t] x (fun r u => r = bI (hnB x n t) ∧ u = x) := by
  refine Ci.mk (by decide) (Nat.le_of_ble_eq_true rfl) ?_
  intro p e s m below meth c A ls go hw hl
  generalize s.heap = H at hw ⊢
  generalize ([] : List Loc) = locs at hw ⊢
  have hx := go.1
  have hb := go.2.1
  have hl : lv_has ls 3 [(0, .ref (sE x n 0)), (1, .int t)] := hl
  refine lv_iconst (v := 0) hx hb dX1_hasNoted_0 (by decide) ?_
  refine lv_istore_n (lv' := [(2, .int 0), (0, .ref (sE x n 0)), (1, .int t)]) hx hb dX1_hasNoted_1 rfl hl (by decide) rfl (fun ls hl => ?_)
  have hl0 : lv_has ls 3 [(0, .ref (sE x n 0)), (1, .int t), (2, .int (nI 0))] := lv_to (lv_sub (l' := [(0, .ref (sE x n 0)), (1, .int t), (2, .int 0)]) hl [1, 2, 0] rfl) (lr (lr (lc (show (0 : Int32) = nI 0 from rfl) rfl)))
  refine loop_up (N := 8) (P := fun i H locs ls => Wd G A s H locs (cw G g x) ∧ lv_has ls 3 [(0, .ref (sE x n 0)), (1, .int t), (2, .int (nI i))] ∧ (∀ j, j < i → (fun i => hasB (sI x (8 + n) 3) (nI i) && decide (sA x (8 + n) 6 i = t)) j = false)) (X := fun H locs ls => W p l e (Rm 2 41) s m ([.ref (sE x n 0), .int t] : List Value).toArray below meth c H locs 0 0 (MQ below (va_Qi (fun r u => r = bI (hnB x n t) ∧ u = x) (PostW G (cw G g) A) A) ([.ref (sE x n 0), .int t] : List Value).toArray s (Rm 2 41).cells (Rm 2 41).slots A) (F0 m 2 ls [])) ?_ 0 (by omega) H locs ls ⟨hw, hl0, (fun j hj => absurd hj (by omega))⟩
  clear hl0 hl hw
  intro i hi ih H locs ls hP
  obtain ⟨hw, hl, hE0⟩ := hP
  refine lv_iload_n hx hb dX1_hasNoted_2 rfl (lv_at hl 2 rfl) ?_
  refine lv_bipush (v := 8) hx hb dX1_hasNoted_3 (by decide) ?_
  refine lv_icmp_ge (tgt := 37) hx hb dX1_hasNoted_5 (by decide) (fun h5 => ?_) (fun h5 => ?_)
  · skip
    have hE : i = 8 := lp_end h5 rfl rfl hi (by decide)
    subst hE
    refine lv_iconst (v := 0) hx hb dX1_hasNoted_37 (by decide) ?_
    refine ret_z (wf := cw G g) go hw dX1_hasNoted_38 rfl ?_
    exact ⟨by rw [hnB, exB_f hE0]; rfl, rfl⟩
  · skip
    have hlt : i < 8 := lp_in h5 rfl rfl hi (by decide)
    refine lv_aload_n hx hb dX1_hasNoted_8 rfl (lv_at hl 0 rfl) ?_
    refine gEi (x := x) (n := n) (k := 3) (v := sI x (8 + n) 3) hn (by decide) rfl go hw dX1_hasNoted_9 q336 ?_
    refine lv_iload_n hx hb dX1_hasNoted_12 rfl (lv_at hl 2 rfl) ?_
    refine cal_SN (kX3_has l G (sI x (8 + n) 3) (nI i)) go hw.2.2.1 hw.2.2.2.1 dX1_hasNoted_13 (And.intro hw.2.2.2.1.2.1.2.2.2.2 (And.intro q1 q395)) q394 kyX3_has ⟨rfl, rfl⟩ ⟨Nat.le_of_ble_eq_true rfl, Nat.le_of_ble_eq_true rfl⟩ hl.1 rfl (Nat.le_of_ble_eq_true rfl) ⟨Nat.le_of_ble_eq_true rfl, Nat.le_of_ble_eq_true rfl⟩ ?_
    refine lv_if_eq (tgt := 31) hx hb dX1_hasNoted_16 (by decide) (fun h16 => ?_) (fun h16 => ?_)
    · skip
      have h16 := bI_0 h16
      refine lv_iinc (v := nI (i + 1)) (lv' := [(2, .int (nI (i + 1))), (0, .ref (sE x n 0)), (1, .int t)]) hx hb dX1_hasNoted_31 hl (k := 2) rfl (nI_1 _) (by decide) rfl (fun ls hl => ?_)
      refine lv_goto (tgt := 2) hx hb dX1_hasNoted_34 (by decide) ?_
      have hl9 : lv_has ls 3 [(0, .ref (sE x n 0)), (1, .int t), (2, .int (nI (i + 1)))] := lv_sub hl [1, 2, 0] rfl
      exact ih _ _ _ (by omega) ⟨hw, hl9, (lt_s hE0 (by simp [*]))⟩
    · skip
      have h16 := bI_1 h16
      refine lv_aload_n hx hb dX1_hasNoted_19 rfl (lv_at hl 0 rfl) ?_
      refine gEr (x := x) (n := n) (k := 6) hn (by decide) go hw dX1_hasNoted_20 q342 ?_
      refine lv_iload_n hx hb dX1_hasNoted_23 rfl (lv_at hl 2 rfl) ?_
      refine aE (x := x) (n := n) (k := 6) (j := i) hn (by decide) (by exact hlt) go hw dX1_hasNoted_24 ?_
      refine lv_iload_n hx hb dX1_hasNoted_25 rfl (lv_at hl 1 rfl) ?_
      refine lv_icmp_ne (tgt := 31) hx hb dX1_hasNoted_26 (by decide) (fun h26 => ?_) (fun h26 => ?_)
      · skip
        refine lv_iinc (v := nI (i + 1)) (lv' := [(2, .int (nI (i + 1))), (0, .ref (sE x n 0)), (1, .int t)]) hx hb dX1_hasNoted_31 hl (k := 2) rfl (nI_1 _) (by decide) rfl (fun ls hl => ?_)
        refine lv_goto (tgt := 2) hx hb dX1_hasNoted_34 (by decide) ?_
        have hl9 : lv_has ls 3 [(0, .ref (sE x n 0)), (1, .int t), (2, .int (nI (i + 1)))] := lv_sub hl [1, 2, 0] rfl
        exact ih _ _ _ (by omega) ⟨hw, hl9, (lt_s hE0 (by simp [*]))⟩
      · skip
        refine lv_iconst (v := 1) hx hb dX1_hasNoted_29 (by decide) ?_
        refine ret_z (wf := cw G g) go hw dX1_hasNoted_30 rfl ?_
        exact ⟨by rw [hnB, exB_t (p := (fun i => hasB (sI x (8 + n) 3) (nI i) && decide (sA x (8 + n) 6 i = t))) (i := i) (by simp [*]) hlt]; rfl, rfl⟩

set_option maxHeartbeats 4000000 in
set_option maxRecDepth 100000 in
theorem kX3_isStubborn (l : Launch) (G : Cx) (g : Nat → Nat → Nat) (x : Sg) (d : Nat) (hd : d < 6) : Ci l G yX3_isStubborn cX3_isStubborn 2 .boolean (Rm 0 0) (cw G g) [.ref (g 0 0), .ref (g (2 + d) 0)] x (fun r u => r = bI (stB x d) ∧ u = x) := by
  refine Ci.mk (by decide) (Nat.le_of_ble_eq_true rfl) ?_
  intro p e s m below meth c A ls go hw hl
  generalize s.heap = H at hw ⊢
  generalize ([] : List Loc) = locs at hw ⊢
  have hx := go.1
  have hb := go.2.1
  have hl : lv_has ls 2 [(0, .ref (g 0 0)), (1, .ref (g (2 + d) 0))] := hl
  refine lv_aload_n hx hb dX3_isStubborn_0 rfl (lv_at hl 1 rfl) ?_
  refine gDi (d := d) (k := 4) (v := sI x (2 + d) 4) hd (by decide) rfl go hw dX3_isStubborn_1 q71 ?_
  refine lv_aload_n hx hb dX3_isStubborn_4 rfl (lv_at hl 0 rfl) ?_
  refine gXi (k := 6) (v := sI x 0 6) ⟨by decide, by decide⟩ rfl go hw dX3_isStubborn_5 q133 ?_
  refine lv_icmp_lt (tgt := 15) hx hb dX3_isStubborn_8 (by decide) (fun h8 => ?_) (fun h8 => ?_)
  · skip
    refine lv_iconst (v := 0) hx hb dX3_isStubborn_15 (by decide) ?_
    refine ret_z (wf := cw G g) go hw dX3_isStubborn_16 rfl ?_
    exact ⟨by simp [stB, bI, *], rfl⟩
  · skip
    refine lv_iconst (v := 1) hx hb dX3_isStubborn_11 (by decide) ?_
    refine lv_goto (tgt := 16) hx hb dX3_isStubborn_12 (by decide) ?_
    refine ret_z (wf := cw G g) go hw dX3_isStubborn_16 rfl ?_
    exact ⟨by simp [stB, bI, *], rfl⟩

set_option maxHeartbeats 4000000 in
set_option maxRecDepth 100000 in
theorem kX3_staleOf (l : Launch) (G : Cx) (g : Nat → Nat → Nat) (x : Sg) (d : Nat) (hd : d < 6) : Ci l G yX3_staleOf cX3_staleOf 4 .int (Rm 2 41) (cw G g) [.ref (g 0 0), .ref (g (2 + d) 0)] x (fun r u => r = stl x d ∧ u = x) := by
  refine Ci.mk (by decide) (Nat.le_of_ble_eq_true rfl) ?_
  intro p e s m below meth c A ls go hw hl
  generalize s.heap = H at hw ⊢
  generalize ([] : List Loc) = locs at hw ⊢
  have hx := go.1
  have hb := go.2.1
  have hl : lv_has ls 4 [(0, .ref (g 0 0)), (1, .ref (g (2 + d) 0))] := hl
  refine lv_iconst (v := 0) hx hb dX3_staleOf_0 (by decide) ?_
  refine lv_istore_n (lv' := [(2, .int 0), (0, .ref (g 0 0)), (1, .ref (g (2 + d) 0))]) hx hb dX3_staleOf_1 rfl hl (by decide) rfl (fun ls hl => ?_)
  refine lv_iconst (v := 0) hx hb dX3_staleOf_2 (by decide) ?_
  refine lv_istore_n (lv' := [(3, .int 0), (2, .int 0), (0, .ref (g 0 0)), (1, .ref (g (2 + d) 0))]) hx hb dX3_staleOf_3 rfl hl (by decide) rfl (fun ls hl => ?_)
  have hl0 : lv_has ls 4 [(0, .ref (g 0 0)), (1, .ref (g (2 + d) 0)), (2, .int (orB (fun i => hasB (sI x (2 + d) 5) (nI i) && !decide (sA x 0 2 i = sA x (2 + d) 10 i)) 0)), (3, .int (nI 0))] := lv_to (lv_sub (l' := [(0, .ref (g 0 0)), (1, .ref (g (2 + d) 0)), (2, .int 0), (3, .int 0)]) hl [2, 3, 1, 0] rfl) (lr (lr (lc (show (0 : Int32) = orB (fun i => hasB (sI x (2 + d) 5) (nI i) && !decide (sA x 0 2 i = sA x (2 + d) 10 i)) 0 from rfl) (lc (show (0 : Int32) = nI 0 from rfl) rfl))))
  refine loop_up (N := 8) (P := fun i H locs ls => Wd G A s H locs (cw G g x) ∧ lv_has ls 4 [(0, .ref (g 0 0)), (1, .ref (g (2 + d) 0)), (2, .int (orB (fun i => hasB (sI x (2 + d) 5) (nI i) && !decide (sA x 0 2 i = sA x (2 + d) 10 i)) i)), (3, .int (nI i))]) (X := fun H locs ls => W p l e (Rm 2 41) s m ([.ref (g 0 0), .ref (g (2 + d) 0)] : List Value).toArray below meth c H locs 0 0 (MQ below (va_Qi (fun r u => r = stl x d ∧ u = x) (PostW G (cw G g) A) A) ([.ref (g 0 0), .ref (g (2 + d) 0)] : List Value).toArray s (Rm 2 41).cells (Rm 2 41).slots A) (F0 m 4 ls [])) ?_ 0 (by omega) H locs ls ⟨hw, hl0⟩
  clear hl0 hl hw
  intro i hi ih H locs ls hP
  obtain ⟨hw, hl⟩ := hP
  refine lv_iload_n hx hb dX3_staleOf_4 rfl (lv_at hl 3 rfl) ?_
  refine lv_bipush (v := 8) hx hb dX3_staleOf_5 (by decide) ?_
  refine lv_icmp_ge (tgt := 49) hx hb dX3_staleOf_7 (by decide) (fun h7 => ?_) (fun h7 => ?_)
  · skip
    have hE : i = 8 := lp_end h7 rfl rfl hi (by decide)
    subst hE
    refine lv_iload_n hx hb dX3_staleOf_49 rfl (lv_at hl 2 rfl) ?_
    refine ret_i (wf := cw G g) go hw dX3_staleOf_50 ?_
    exact ⟨rfl, rfl⟩
  · skip
    have hlt : i < 8 := lp_in h7 rfl rfl hi (by decide)
    refine lv_aload_n hx hb dX3_staleOf_10 rfl (lv_at hl 1 rfl) ?_
    refine gDi (d := d) (k := 5) (v := sI x (2 + d) 5) hd (by decide) rfl go hw dX3_staleOf_11 q74 ?_
    refine lv_iload_n hx hb dX3_staleOf_14 rfl (lv_at hl 3 rfl) ?_
    refine cal_S (kX3_has l G (sI x (2 + d) 5) (nI i)) go hw.2.2.1 hw.2.2.2.1 dX3_staleOf_15 (And.intro q393 (And.intro q1 q395)) q394 kyX3_has ⟨rfl, rfl⟩ ⟨Nat.le_of_ble_eq_true rfl, Nat.le_of_ble_eq_true rfl⟩ hl.1 rfl (Nat.le_of_ble_eq_true rfl) ⟨Nat.le_of_ble_eq_true rfl, Nat.le_of_ble_eq_true rfl⟩ ?_
    refine lv_if_eq (tgt := 43) hx hb dX3_staleOf_18 (by decide) (fun h18 => ?_) (fun h18 => ?_)
    · skip
      have h18 := bI_0 h18
      refine lv_iinc (v := nI (i + 1)) (lv' := [(3, .int (nI (i + 1))), (0, .ref (g 0 0)), (1, .ref (g (2 + d) 0)), (2, .int (orB (fun i => hasB (sI x (2 + d) 5) (nI i) && !decide (sA x 0 2 i = sA x (2 + d) 10 i)) i))]) hx hb dX3_staleOf_43 hl (k := 3) rfl (nI_1 _) (by decide) rfl (fun ls hl => ?_)
      refine lv_goto (tgt := 4) hx hb dX3_staleOf_46 (by decide) ?_
      have hl9 : lv_has ls 4 [(0, .ref (g 0 0)), (1, .ref (g (2 + d) 0)), (2, .int (orB (fun i => hasB (sI x (2 + d) 5) (nI i) && !decide (sA x 0 2 i = sA x (2 + d) 10 i)) (i + 1))), (3, .int (nI (i + 1)))] := lv_to (lv_sub (l' := [(0, .ref (g 0 0)), (1, .ref (g (2 + d) 0)), (2, .int (orB (fun i => hasB (sI x (2 + d) 5) (nI i) && !decide (sA x 0 2 i = sA x (2 + d) 10 i)) i)), (3, .int (nI (i + 1)))]) hl [1, 2, 3, 0] rfl) (lr (lr (lc (show (orB (fun i => hasB (sI x (2 + d) 5) (nI i) && !decide (sA x 0 2 i = sA x (2 + d) 10 i)) i : Int32) = orB (fun i => hasB (sI x (2 + d) 5) (nI i) && !decide (sA x 0 2 i = sA x (2 + d) 10 i)) (i + 1) from by first | exact orB_t (by simp [*]) | exact orB_f (by simp [*])) (lr rfl))))
      exact ih _ _ _ (by omega) ⟨hw, hl9⟩
    · skip
      have h18 := bI_1 h18
      refine lv_aload_n hx hb dX3_staleOf_21 rfl (lv_at hl 0 rfl) ?_
      refine gX (k := 2) (v := .ref (g 0 3)) rfl (by decide) rfl go hw dX3_staleOf_22 q129 ?_
      refine lv_iload_n hx hb dX3_staleOf_25 rfl (lv_at hl 3 rfl) ?_
      refine aX (k := 2) (j := i) (by decide) (by exact hlt) go hw dX3_staleOf_26 ?_
      refine lv_aload_n hx hb dX3_staleOf_27 rfl (lv_at hl 1 rfl) ?_
      refine gD (d := d) (k := 10) (v := .ref (g (2 + d) 11)) hd rfl (by decide) rfl go hw dX3_staleOf_28 q86 ?_
      refine lv_iload_n hx hb dX3_staleOf_31 rfl (lv_at hl 3 rfl) ?_
      refine aD (d := d) (k := 10) (j := i) hd (by decide) (by exact hlt) go hw dX3_staleOf_32 ?_
      refine lv_icmp_eq (tgt := 43) hx hb dX3_staleOf_33 (by decide) (fun h33 => ?_) (fun h33 => ?_)
      · skip
        refine lv_iinc (v := nI (i + 1)) (lv' := [(3, .int (nI (i + 1))), (0, .ref (g 0 0)), (1, .ref (g (2 + d) 0)), (2, .int (orB (fun i => hasB (sI x (2 + d) 5) (nI i) && !decide (sA x 0 2 i = sA x (2 + d) 10 i)) i))]) hx hb dX3_staleOf_43 hl (k := 3) rfl (nI_1 _) (by decide) rfl (fun ls hl => ?_)
        refine lv_goto (tgt := 4) hx hb dX3_staleOf_46 (by decide) ?_
        have hl9 : lv_has ls 4 [(0, .ref (g 0 0)), (1, .ref (g (2 + d) 0)), (2, .int (orB (fun i => hasB (sI x (2 + d) 5) (nI i) && !decide (sA x 0 2 i = sA x (2 + d) 10 i)) (i + 1))), (3, .int (nI (i + 1)))] := lv_to (lv_sub (l' := [(0, .ref (g 0 0)), (1, .ref (g (2 + d) 0)), (2, .int (orB (fun i => hasB (sI x (2 + d) 5) (nI i) && !decide (sA x 0 2 i = sA x (2 + d) 10 i)) i)), (3, .int (nI (i + 1)))]) hl [1, 2, 3, 0] rfl) (lr (lr (lc (show (orB (fun i => hasB (sI x (2 + d) 5) (nI i) && !decide (sA x 0 2 i = sA x (2 + d) 10 i)) i : Int32) = orB (fun i => hasB (sI x (2 + d) 5) (nI i) && !decide (sA x 0 2 i = sA x (2 + d) 10 i)) (i + 1) from by first | exact orB_t (by simp [*]) | exact orB_f (by simp [*])) (lr rfl))))
        exact ih _ _ _ (by omega) ⟨hw, hl9⟩
      · skip
        refine lv_iload_n hx hb dX3_staleOf_36 rfl (lv_at hl 2 rfl) ?_
        refine lv_iload_n hx hb dX3_staleOf_37 rfl (lv_at hl 3 rfl) ?_
        refine cal_S (kX3_bit l G (nI i)) go hw.2.2.1 hw.2.2.2.1 dX3_staleOf_38 (And.intro q396 (And.intro q1 q369)) q368 kyX3_bit ⟨rfl, rfl⟩ ⟨Nat.le_of_ble_eq_true rfl, Nat.le_of_ble_eq_true rfl⟩ hl.1 rfl (Nat.le_of_ble_eq_true rfl) ⟨Nat.le_of_ble_eq_true rfl, Nat.le_of_ble_eq_true rfl⟩ ?_
        refine lv_ior hx hb dX3_staleOf_41 ?_
        refine lv_istore_n (lv' := [(2, .int ((orB (fun i => hasB (sI x (2 + d) 5) (nI i) && !decide (sA x 0 2 i = sA x (2 + d) 10 i)) i) ||| (bt (nI i)))), (0, .ref (g 0 0)), (1, .ref (g (2 + d) 0)), (3, .int (nI i))]) hx hb dX3_staleOf_42 rfl hl (by decide) rfl (fun ls hl => ?_)
        refine lv_iinc (v := nI (i + 1)) (lv' := [(3, .int (nI (i + 1))), (2, .int ((orB (fun i => hasB (sI x (2 + d) 5) (nI i) && !decide (sA x 0 2 i = sA x (2 + d) 10 i)) i) ||| (bt (nI i)))), (0, .ref (g 0 0)), (1, .ref (g (2 + d) 0))]) hx hb dX3_staleOf_43 hl (k := 3) rfl (nI_1 _) (by decide) rfl (fun ls hl => ?_)
        refine lv_goto (tgt := 4) hx hb dX3_staleOf_46 (by decide) ?_
        have hl9 : lv_has ls 4 [(0, .ref (g 0 0)), (1, .ref (g (2 + d) 0)), (2, .int (orB (fun i => hasB (sI x (2 + d) 5) (nI i) && !decide (sA x 0 2 i = sA x (2 + d) 10 i)) (i + 1))), (3, .int (nI (i + 1)))] := lv_to (lv_sub (l' := [(0, .ref (g 0 0)), (1, .ref (g (2 + d) 0)), (2, .int ((orB (fun i => hasB (sI x (2 + d) 5) (nI i) && !decide (sA x 0 2 i = sA x (2 + d) 10 i)) i) ||| (bt (nI i)))), (3, .int (nI (i + 1)))]) hl [2, 3, 1, 0] rfl) (lr (lr (lc (show ((orB (fun i => hasB (sI x (2 + d) 5) (nI i) && !decide (sA x 0 2 i = sA x (2 + d) 10 i)) i) ||| (bt (nI i)) : Int32) = orB (fun i => hasB (sI x (2 + d) 5) (nI i) && !decide (sA x 0 2 i = sA x (2 + d) 10 i)) (i + 1) from by first | exact orB_t (by simp [*]) | exact orB_f (by simp [*])) (lr rfl))))
        exact ih _ _ _ (by omega) ⟨hw, hl9⟩

set_option maxHeartbeats 4000000 in
set_option maxRecDepth 100000 in
theorem kX3_crossedOf (l : Launch) (G : Cx) (g : Nat → Nat → Nat) (x : Sg) (d : Nat) (hd : d < 6) : Ci l G yX3_crossedOf cX3_crossedOf 4 .int (Rm 2 41) (cw G g) [.ref (g 0 0), .ref (g (2 + d) 0)] x (fun r u => r = crs x d ∧ u = x) := by
  refine Ci.mk (by decide) (Nat.le_of_ble_eq_true rfl) ?_
  intro p e s m below meth c A ls go hw hl
  generalize s.heap = H at hw ⊢
  generalize ([] : List Loc) = locs at hw ⊢
  have hx := go.1
  have hb := go.2.1
  have hl : lv_has ls 4 [(0, .ref (g 0 0)), (1, .ref (g (2 + d) 0))] := hl
  refine lv_iconst (v := 0) hx hb dX3_crossedOf_0 (by decide) ?_
  refine lv_istore_n (lv' := [(2, .int 0), (0, .ref (g 0 0)), (1, .ref (g (2 + d) 0))]) hx hb dX3_crossedOf_1 rfl hl (by decide) rfl (fun ls hl => ?_)
  refine lv_iconst (v := 0) hx hb dX3_crossedOf_2 (by decide) ?_
  refine lv_istore_n (lv' := [(3, .int 0), (2, .int 0), (0, .ref (g 0 0)), (1, .ref (g (2 + d) 0))]) hx hb dX3_crossedOf_3 rfl hl (by decide) rfl (fun ls hl => ?_)
  have hl0 : lv_has ls 4 [(0, .ref (g 0 0)), (1, .ref (g (2 + d) 0)), (2, .int (orB (fun i => hasB (sI x (2 + d) 5) (nI i) && !decide (sA x 0 2 i ≤ sI x (2 + d) 2)) 0)), (3, .int (nI 0))] := lv_to (lv_sub (l' := [(0, .ref (g 0 0)), (1, .ref (g (2 + d) 0)), (2, .int 0), (3, .int 0)]) hl [2, 3, 1, 0] rfl) (lr (lr (lc (show (0 : Int32) = orB (fun i => hasB (sI x (2 + d) 5) (nI i) && !decide (sA x 0 2 i ≤ sI x (2 + d) 2)) 0 from rfl) (lc (show (0 : Int32) = nI 0 from rfl) rfl))))
  refine loop_up (N := 8) (P := fun i H locs ls => Wd G A s H locs (cw G g x) ∧ lv_has ls 4 [(0, .ref (g 0 0)), (1, .ref (g (2 + d) 0)), (2, .int (orB (fun i => hasB (sI x (2 + d) 5) (nI i) && !decide (sA x 0 2 i ≤ sI x (2 + d) 2)) i)), (3, .int (nI i))]) (X := fun H locs ls => W p l e (Rm 2 41) s m ([.ref (g 0 0), .ref (g (2 + d) 0)] : List Value).toArray below meth c H locs 0 0 (MQ below (va_Qi (fun r u => r = crs x d ∧ u = x) (PostW G (cw G g) A) A) ([.ref (g 0 0), .ref (g (2 + d) 0)] : List Value).toArray s (Rm 2 41).cells (Rm 2 41).slots A) (F0 m 4 ls [])) ?_ 0 (by omega) H locs ls ⟨hw, hl0⟩
  clear hl0 hl hw
  intro i hi ih H locs ls hP
  obtain ⟨hw, hl⟩ := hP
  refine lv_iload_n hx hb dX3_crossedOf_4 rfl (lv_at hl 3 rfl) ?_
  refine lv_bipush (v := 8) hx hb dX3_crossedOf_5 (by decide) ?_
  refine lv_icmp_ge (tgt := 47) hx hb dX3_crossedOf_7 (by decide) (fun h7 => ?_) (fun h7 => ?_)
  · skip
    have hE : i = 8 := lp_end h7 rfl rfl hi (by decide)
    subst hE
    refine lv_iload_n hx hb dX3_crossedOf_47 rfl (lv_at hl 2 rfl) ?_
    refine ret_i (wf := cw G g) go hw dX3_crossedOf_48 ?_
    exact ⟨rfl, rfl⟩
  · skip
    have hlt : i < 8 := lp_in h7 rfl rfl hi (by decide)
    refine lv_aload_n hx hb dX3_crossedOf_10 rfl (lv_at hl 1 rfl) ?_
    refine gDi (d := d) (k := 5) (v := sI x (2 + d) 5) hd (by decide) rfl go hw dX3_crossedOf_11 q74 ?_
    refine lv_iload_n hx hb dX3_crossedOf_14 rfl (lv_at hl 3 rfl) ?_
    refine cal_S (kX3_has l G (sI x (2 + d) 5) (nI i)) go hw.2.2.1 hw.2.2.2.1 dX3_crossedOf_15 (And.intro q393 (And.intro q1 q395)) q394 kyX3_has ⟨rfl, rfl⟩ ⟨Nat.le_of_ble_eq_true rfl, Nat.le_of_ble_eq_true rfl⟩ hl.1 rfl (Nat.le_of_ble_eq_true rfl) ⟨Nat.le_of_ble_eq_true rfl, Nat.le_of_ble_eq_true rfl⟩ ?_
    refine lv_if_eq (tgt := 41) hx hb dX3_crossedOf_18 (by decide) (fun h18 => ?_) (fun h18 => ?_)
    · skip
      have h18 := bI_0 h18
      refine lv_iinc (v := nI (i + 1)) (lv' := [(3, .int (nI (i + 1))), (0, .ref (g 0 0)), (1, .ref (g (2 + d) 0)), (2, .int (orB (fun i => hasB (sI x (2 + d) 5) (nI i) && !decide (sA x 0 2 i ≤ sI x (2 + d) 2)) i))]) hx hb dX3_crossedOf_41 hl (k := 3) rfl (nI_1 _) (by decide) rfl (fun ls hl => ?_)
      refine lv_goto (tgt := 4) hx hb dX3_crossedOf_44 (by decide) ?_
      have hl9 : lv_has ls 4 [(0, .ref (g 0 0)), (1, .ref (g (2 + d) 0)), (2, .int (orB (fun i => hasB (sI x (2 + d) 5) (nI i) && !decide (sA x 0 2 i ≤ sI x (2 + d) 2)) (i + 1))), (3, .int (nI (i + 1)))] := lv_to (lv_sub (l' := [(0, .ref (g 0 0)), (1, .ref (g (2 + d) 0)), (2, .int (orB (fun i => hasB (sI x (2 + d) 5) (nI i) && !decide (sA x 0 2 i ≤ sI x (2 + d) 2)) i)), (3, .int (nI (i + 1)))]) hl [1, 2, 3, 0] rfl) (lr (lr (lc (show (orB (fun i => hasB (sI x (2 + d) 5) (nI i) && !decide (sA x 0 2 i ≤ sI x (2 + d) 2)) i : Int32) = orB (fun i => hasB (sI x (2 + d) 5) (nI i) && !decide (sA x 0 2 i ≤ sI x (2 + d) 2)) (i + 1) from by first | exact orB_t (by simp [*]) | exact orB_f (by simp [*])) (lr rfl))))
      exact ih _ _ _ (by omega) ⟨hw, hl9⟩
    · skip
      have h18 := bI_1 h18
      refine lv_aload_n hx hb dX3_crossedOf_21 rfl (lv_at hl 0 rfl) ?_
      refine gX (k := 2) (v := .ref (g 0 3)) rfl (by decide) rfl go hw dX3_crossedOf_22 q129 ?_
      refine lv_iload_n hx hb dX3_crossedOf_25 rfl (lv_at hl 3 rfl) ?_
      refine aX (k := 2) (j := i) (by decide) (by exact hlt) go hw dX3_crossedOf_26 ?_
      refine lv_aload_n hx hb dX3_crossedOf_27 rfl (lv_at hl 1 rfl) ?_
      refine gDi (d := d) (k := 2) (v := sI x (2 + d) 2) hd (by decide) rfl go hw dX3_crossedOf_28 q65 ?_
      refine lv_icmp_le (tgt := 41) hx hb dX3_crossedOf_31 (by decide) (fun h31 => ?_) (fun h31 => ?_)
      · skip
        refine lv_iinc (v := nI (i + 1)) (lv' := [(3, .int (nI (i + 1))), (0, .ref (g 0 0)), (1, .ref (g (2 + d) 0)), (2, .int (orB (fun i => hasB (sI x (2 + d) 5) (nI i) && !decide (sA x 0 2 i ≤ sI x (2 + d) 2)) i))]) hx hb dX3_crossedOf_41 hl (k := 3) rfl (nI_1 _) (by decide) rfl (fun ls hl => ?_)
        refine lv_goto (tgt := 4) hx hb dX3_crossedOf_44 (by decide) ?_
        have hl9 : lv_has ls 4 [(0, .ref (g 0 0)), (1, .ref (g (2 + d) 0)), (2, .int (orB (fun i => hasB (sI x (2 + d) 5) (nI i) && !decide (sA x 0 2 i ≤ sI x (2 + d) 2)) (i + 1))), (3, .int (nI (i + 1)))] := lv_to (lv_sub (l' := [(0, .ref (g 0 0)), (1, .ref (g (2 + d) 0)), (2, .int (orB (fun i => hasB (sI x (2 + d) 5) (nI i) && !decide (sA x 0 2 i ≤ sI x (2 + d) 2)) i)), (3, .int (nI (i + 1)))]) hl [1, 2, 3, 0] rfl) (lr (lr (lc (show (orB (fun i => hasB (sI x (2 + d) 5) (nI i) && !decide (sA x 0 2 i ≤ sI x (2 + d) 2)) i : Int32) = orB (fun i => hasB (sI x (2 + d) 5) (nI i) && !decide (sA x 0 2 i ≤ sI x (2 + d) 2)) (i + 1) from by first | exact orB_t (by simp [*]) | exact orB_f (by simp [*])) (lr rfl))))
        exact ih _ _ _ (by omega) ⟨hw, hl9⟩
      · skip
        refine lv_iload_n hx hb dX3_crossedOf_34 rfl (lv_at hl 2 rfl) ?_
        refine lv_iload_n hx hb dX3_crossedOf_35 rfl (lv_at hl 3 rfl) ?_
        refine cal_S (kX3_bit l G (nI i)) go hw.2.2.1 hw.2.2.2.1 dX3_crossedOf_36 (And.intro q396 (And.intro q1 q369)) q368 kyX3_bit ⟨rfl, rfl⟩ ⟨Nat.le_of_ble_eq_true rfl, Nat.le_of_ble_eq_true rfl⟩ hl.1 rfl (Nat.le_of_ble_eq_true rfl) ⟨Nat.le_of_ble_eq_true rfl, Nat.le_of_ble_eq_true rfl⟩ ?_
        refine lv_ior hx hb dX3_crossedOf_39 ?_
        refine lv_istore_n (lv' := [(2, .int ((orB (fun i => hasB (sI x (2 + d) 5) (nI i) && !decide (sA x 0 2 i ≤ sI x (2 + d) 2)) i) ||| (bt (nI i)))), (0, .ref (g 0 0)), (1, .ref (g (2 + d) 0)), (3, .int (nI i))]) hx hb dX3_crossedOf_40 rfl hl (by decide) rfl (fun ls hl => ?_)
        refine lv_iinc (v := nI (i + 1)) (lv' := [(3, .int (nI (i + 1))), (2, .int ((orB (fun i => hasB (sI x (2 + d) 5) (nI i) && !decide (sA x 0 2 i ≤ sI x (2 + d) 2)) i) ||| (bt (nI i)))), (0, .ref (g 0 0)), (1, .ref (g (2 + d) 0))]) hx hb dX3_crossedOf_41 hl (k := 3) rfl (nI_1 _) (by decide) rfl (fun ls hl => ?_)
        refine lv_goto (tgt := 4) hx hb dX3_crossedOf_44 (by decide) ?_
        have hl9 : lv_has ls 4 [(0, .ref (g 0 0)), (1, .ref (g (2 + d) 0)), (2, .int (orB (fun i => hasB (sI x (2 + d) 5) (nI i) && !decide (sA x 0 2 i ≤ sI x (2 + d) 2)) (i + 1))), (3, .int (nI (i + 1)))] := lv_to (lv_sub (l' := [(0, .ref (g 0 0)), (1, .ref (g (2 + d) 0)), (2, .int ((orB (fun i => hasB (sI x (2 + d) 5) (nI i) && !decide (sA x 0 2 i ≤ sI x (2 + d) 2)) i) ||| (bt (nI i)))), (3, .int (nI (i + 1)))]) hl [2, 3, 1, 0] rfl) (lr (lr (lc (show ((orB (fun i => hasB (sI x (2 + d) 5) (nI i) && !decide (sA x 0 2 i ≤ sI x (2 + d) 2)) i) ||| (bt (nI i)) : Int32) = orB (fun i => hasB (sI x (2 + d) 5) (nI i) && !decide (sA x 0 2 i ≤ sI x (2 + d) 2)) (i + 1) from by first | exact orB_t (by simp [*]) | exact orB_f (by simp [*])) (lr rfl))))
        exact ih _ _ _ (by omega) ⟨hw, hl9⟩

set_option maxHeartbeats 4000000 in
set_option maxRecDepth 100000 in
theorem kX3_rivalsOf (l : Launch) (G : Cx) (g : Nat → Nat → Nat) (x : Sg) (hN : Nm x) (d : Nat) (hd : d < 6) : Ci l G yX3_rivalsOf cX3_rivalsOf 7 .int (Rm 1 20) (cw G g) [.ref (g 0 0), .ref (g (2 + d) 0)] x (fun r u => r = riv x d ∧ u = x) := by
  refine Ci.mk (by decide) (Nat.le_of_ble_eq_true rfl) ?_
  intro p e s m below meth c A ls go hw hl
  generalize s.heap = H at hw ⊢
  generalize ([] : List Loc) = locs at hw ⊢
  have hx := go.1
  have hb := go.2.1
  have hl : lv_has ls 7 [(0, .ref (g 0 0)), (1, .ref (g (2 + d) 0))] := hl
  refine lv_iconst (v := 0) hx hb dX3_rivalsOf_0 (by decide) ?_
  refine lv_istore_n (lv' := [(2, .int 0), (0, .ref (g 0 0)), (1, .ref (g (2 + d) 0))]) hx hb dX3_rivalsOf_1 rfl hl (by decide) rfl (fun ls hl => ?_)
  refine lv_aload_n hx hb dX3_rivalsOf_2 rfl (lv_at hl 1 rfl) ?_
  refine gX (k := 3) (v := .ref (g 0 4)) rfl (by decide) rfl go hw dX3_rivalsOf_3 q130 ?_
  refine lv_astore_n (lv' := [(3, .ref (g 0 4)), (2, .int 0), (0, .ref (g 0 0)), (1, .ref (g (2 + d) 0))]) hx hb dX3_rivalsOf_6 rfl hl (by decide) rfl (fun ls hl => ?_)
  refine lv_aload_n hx hb dX3_rivalsOf_7 rfl (lv_at hl 0 rfl) ?_
  refine lDl go hw dX3_rivalsOf_8 ?_
  refine lv_istore (lv' := [(4, .int (nI 6)), (3, .ref (g 0 4)), (2, .int 0), (0, .ref (g 0 0)), (1, .ref (g (2 + d) 0))]) hx hb dX3_rivalsOf_9 hl (by decide) rfl (fun ls hl => ?_)
  refine lv_iconst (v := 0) hx hb dX3_rivalsOf_11 (by decide) ?_
  refine lv_istore (lv' := [(5, .int 0), (4, .int (nI 6)), (3, .ref (g 0 4)), (2, .int 0), (0, .ref (g 0 0)), (1, .ref (g (2 + d) 0))]) hx hb dX3_rivalsOf_12 hl (by decide) rfl (fun ls hl => ?_)
  have hl0 : lv_has ls 7 [(0, .ref (g 0 0)), (1, .ref (g (2 + d) 0)), (2, .int (orB (fun e => !decide (nI e = nI d) && (decide (sI x (2 + e) 1 = 1) && !decide (sI x (2 + e) 5 &&& sI x (2 + d) 6 = 0))) 0)), (3, .ref (g 0 4)), (4, .int (nI 6)), (5, .int (nI 0))] := lv_to (lv_sub (l' := [(0, .ref (g 0 0)), (1, .ref (g (2 + d) 0)), (2, .int 0), (3, .ref (g 0 4)), (4, .int (nI 6)), (5, .int 0)]) hl [4, 5, 3, 2, 1, 0] rfl) (lr (lr (lc (show (0 : Int32) = orB (fun e => !decide (nI e = nI d) && (decide (sI x (2 + e) 1 = 1) && !decide (sI x (2 + e) 5 &&& sI x (2 + d) 6 = 0))) 0 from rfl) (lr (lr (lc (show (0 : Int32) = nI 0 from rfl) rfl))))))
  refine loop_up (N := 6) (P := fun i H locs ls => Wd G A s H locs (cw G g x) ∧ lv_has ls 7 [(0, .ref (g 0 0)), (1, .ref (g (2 + d) 0)), (2, .int (orB (fun e => !decide (nI e = nI d) && (decide (sI x (2 + e) 1 = 1) && !decide (sI x (2 + e) 5 &&& sI x (2 + d) 6 = 0))) i)), (3, .ref (g 0 4)), (4, .int (nI 6)), (5, .int (nI i))]) (X := fun H locs ls => W p l e (Rm 1 20) s m ([.ref (g 0 0), .ref (g (2 + d) 0)] : List Value).toArray below meth c H locs 0 0 (MQ below (va_Qi (fun r u => r = riv x d ∧ u = x) (PostW G (cw G g) A) A) ([.ref (g 0 0), .ref (g (2 + d) 0)] : List Value).toArray s (Rm 1 20).cells (Rm 1 20).slots A) (F0 m 14 ls [])) ?_ 0 (by omega) H locs ls ⟨hw, hl0⟩
  clear hl0 hl hw
  intro i hi ih H locs ls hP
  obtain ⟨hw, hl⟩ := hP
  refine lv_iload hx hb dX3_rivalsOf_14 (lv_at hl 5 rfl) ?_
  refine lv_iload hx hb dX3_rivalsOf_16 (lv_at hl 4 rfl) ?_
  refine lv_icmp_ge (tgt := 78) hx hb dX3_rivalsOf_18 (by decide) (fun h18 => ?_) (fun h18 => ?_)
  · skip
    have hE : i = 6 := lp_end h18 rfl rfl hi (by decide)
    subst hE
    refine lv_iload_n hx hb dX3_rivalsOf_78 rfl (lv_at hl 2 rfl) ?_
    refine ret_i (wf := cw G g) go hw dX3_rivalsOf_79 ?_
    exact ⟨rfl, rfl⟩
  · skip
    have hlt : i < 6 := lp_in h18 rfl rfl hi (by decide)
    refine lv_aload_n hx hb dX3_rivalsOf_21 rfl (lv_at hl 3 rfl) ?_
    refine lv_iload hx hb dX3_rivalsOf_22 (lv_at hl 5 rfl) ?_
    refine aDl (d := i) (by exact hlt) go hw dX3_rivalsOf_24 ?_
    refine lv_astore (lv' := [(6, .ref (g (2 + i) 0)), (0, .ref (g 0 0)), (1, .ref (g (2 + d) 0)), (2, .int (orB (fun e => !decide (nI e = nI d) && (decide (sI x (2 + e) 1 = 1) && !decide (sI x (2 + e) 5 &&& sI x (2 + d) 6 = 0))) i)), (3, .ref (g 0 4)), (4, .int (nI 6)), (5, .int (nI i))]) hx hb dX3_rivalsOf_25 hl (by decide) rfl (fun ls hl => ?_)
    refine lv_aload hx hb dX3_rivalsOf_27 (lv_at hl 0 rfl) ?_
    refine gDi (d := i) (k := 0) (v := sI x (2 + i) 0) hlt (by decide) rfl go hw dX3_rivalsOf_29 q61 ?_
    refine toI (show sI x (2 + i) 0 = nI i from by exact hN i hlt) ?_
    refine lv_aload_n hx hb dX3_rivalsOf_32 rfl (lv_at hl 2 rfl) ?_
    refine gDi (d := d) (k := 0) (v := sI x (2 + d) 0) hd (by decide) rfl go hw dX3_rivalsOf_33 q61 ?_
    refine toI (show sI x (2 + d) 0 = nI d from by exact hN d hd) ?_
    refine lv_icmp_eq (tgt := 72) hx hb dX3_rivalsOf_36 (by decide) (fun h36 => ?_) (fun h36 => ?_)
    · skip
      refine lv_iinc (v := nI (i + 1)) (lv' := [(5, .int (nI (i + 1))), (6, .ref (g (2 + i) 0)), (0, .ref (g 0 0)), (1, .ref (g (2 + d) 0)), (2, .int (orB (fun e => !decide (nI e = nI d) && (decide (sI x (2 + e) 1 = 1) && !decide (sI x (2 + e) 5 &&& sI x (2 + d) 6 = 0))) i)), (3, .ref (g 0 4)), (4, .int (nI 6))]) hx hb dX3_rivalsOf_72 hl (k := 6) rfl (nI_1 _) (by decide) rfl (fun ls hl => ?_)
      refine lv_goto (tgt := 14) hx hb dX3_rivalsOf_75 (by decide) ?_
      have hl9 : lv_has ls 7 [(0, .ref (g 0 0)), (1, .ref (g (2 + d) 0)), (2, .int (orB (fun e => !decide (nI e = nI d) && (decide (sI x (2 + e) 1 = 1) && !decide (sI x (2 + e) 5 &&& sI x (2 + d) 6 = 0))) (i + 1))), (3, .ref (g 0 4)), (4, .int (nI 6)), (5, .int (nI (i + 1)))] := lv_to (lv_sub (l' := [(0, .ref (g 0 0)), (1, .ref (g (2 + d) 0)), (2, .int (orB (fun e => !decide (nI e = nI d) && (decide (sI x (2 + e) 1 = 1) && !decide (sI x (2 + e) 5 &&& sI x (2 + d) 6 = 0))) i)), (3, .ref (g 0 4)), (4, .int (nI 6)), (5, .int (nI (i + 1)))]) hl [2, 3, 4, 5, 6, 0] rfl) (lr (lr (lc (show (orB (fun e => !decide (nI e = nI d) && (decide (sI x (2 + e) 1 = 1) && !decide (sI x (2 + e) 5 &&& sI x (2 + d) 6 = 0))) i : Int32) = orB (fun e => !decide (nI e = nI d) && (decide (sI x (2 + e) 1 = 1) && !decide (sI x (2 + e) 5 &&& sI x (2 + d) 6 = 0))) (i + 1) from by first | exact orB_t (by simp [*]) | exact orB_f (by simp [*])) (lr (lr (lr rfl))))))
      exact ih _ _ _ (by omega) ⟨hw, hl9⟩
    · skip
      refine lv_aload hx hb dX3_rivalsOf_39 (lv_at hl 0 rfl) ?_
      refine gDi (d := i) (k := 1) (v := sI x (2 + i) 1) hlt (by decide) rfl go hw dX3_rivalsOf_41 q63 ?_
      refine lv_iconst (v := 1) hx hb dX3_rivalsOf_44 (by decide) ?_
      refine lv_icmp_ne (tgt := 72) hx hb dX3_rivalsOf_45 (by decide) (fun h45 => ?_) (fun h45 => ?_)
      · skip
        refine lv_iinc (v := nI (i + 1)) (lv' := [(5, .int (nI (i + 1))), (6, .ref (g (2 + i) 0)), (0, .ref (g 0 0)), (1, .ref (g (2 + d) 0)), (2, .int (orB (fun e => !decide (nI e = nI d) && (decide (sI x (2 + e) 1 = 1) && !decide (sI x (2 + e) 5 &&& sI x (2 + d) 6 = 0))) i)), (3, .ref (g 0 4)), (4, .int (nI 6))]) hx hb dX3_rivalsOf_72 hl (k := 6) rfl (nI_1 _) (by decide) rfl (fun ls hl => ?_)
        refine lv_goto (tgt := 14) hx hb dX3_rivalsOf_75 (by decide) ?_
        have hl9 : lv_has ls 7 [(0, .ref (g 0 0)), (1, .ref (g (2 + d) 0)), (2, .int (orB (fun e => !decide (nI e = nI d) && (decide (sI x (2 + e) 1 = 1) && !decide (sI x (2 + e) 5 &&& sI x (2 + d) 6 = 0))) (i + 1))), (3, .ref (g 0 4)), (4, .int (nI 6)), (5, .int (nI (i + 1)))] := lv_to (lv_sub (l' := [(0, .ref (g 0 0)), (1, .ref (g (2 + d) 0)), (2, .int (orB (fun e => !decide (nI e = nI d) && (decide (sI x (2 + e) 1 = 1) && !decide (sI x (2 + e) 5 &&& sI x (2 + d) 6 = 0))) i)), (3, .ref (g 0 4)), (4, .int (nI 6)), (5, .int (nI (i + 1)))]) hl [2, 3, 4, 5, 6, 0] rfl) (lr (lr (lc (show (orB (fun e => !decide (nI e = nI d) && (decide (sI x (2 + e) 1 = 1) && !decide (sI x (2 + e) 5 &&& sI x (2 + d) 6 = 0))) i : Int32) = orB (fun e => !decide (nI e = nI d) && (decide (sI x (2 + e) 1 = 1) && !decide (sI x (2 + e) 5 &&& sI x (2 + d) 6 = 0))) (i + 1) from by first | exact orB_t (by simp [*]) | exact orB_f (by simp [*])) (lr (lr (lr rfl))))))
        exact ih _ _ _ (by omega) ⟨hw, hl9⟩
      · skip
        refine lv_aload hx hb dX3_rivalsOf_48 (lv_at hl 0 rfl) ?_
        refine gDi (d := i) (k := 5) (v := sI x (2 + i) 5) hlt (by decide) rfl go hw dX3_rivalsOf_50 q74 ?_
        refine lv_aload_n hx hb dX3_rivalsOf_53 rfl (lv_at hl 2 rfl) ?_
        refine gDi (d := d) (k := 6) (v := sI x (2 + d) 6) hd (by decide) rfl go hw dX3_rivalsOf_54 q77 ?_
        refine lv_iand hx hb dX3_rivalsOf_57 ?_
        refine lv_if_eq (tgt := 72) hx hb dX3_rivalsOf_58 (by decide) (fun h58 => ?_) (fun h58 => ?_)
        · skip
          refine lv_iinc (v := nI (i + 1)) (lv' := [(5, .int (nI (i + 1))), (6, .ref (g (2 + i) 0)), (0, .ref (g 0 0)), (1, .ref (g (2 + d) 0)), (2, .int (orB (fun e => !decide (nI e = nI d) && (decide (sI x (2 + e) 1 = 1) && !decide (sI x (2 + e) 5 &&& sI x (2 + d) 6 = 0))) i)), (3, .ref (g 0 4)), (4, .int (nI 6))]) hx hb dX3_rivalsOf_72 hl (k := 6) rfl (nI_1 _) (by decide) rfl (fun ls hl => ?_)
          refine lv_goto (tgt := 14) hx hb dX3_rivalsOf_75 (by decide) ?_
          have hl9 : lv_has ls 7 [(0, .ref (g 0 0)), (1, .ref (g (2 + d) 0)), (2, .int (orB (fun e => !decide (nI e = nI d) && (decide (sI x (2 + e) 1 = 1) && !decide (sI x (2 + e) 5 &&& sI x (2 + d) 6 = 0))) (i + 1))), (3, .ref (g 0 4)), (4, .int (nI 6)), (5, .int (nI (i + 1)))] := lv_to (lv_sub (l' := [(0, .ref (g 0 0)), (1, .ref (g (2 + d) 0)), (2, .int (orB (fun e => !decide (nI e = nI d) && (decide (sI x (2 + e) 1 = 1) && !decide (sI x (2 + e) 5 &&& sI x (2 + d) 6 = 0))) i)), (3, .ref (g 0 4)), (4, .int (nI 6)), (5, .int (nI (i + 1)))]) hl [2, 3, 4, 5, 6, 0] rfl) (lr (lr (lc (show (orB (fun e => !decide (nI e = nI d) && (decide (sI x (2 + e) 1 = 1) && !decide (sI x (2 + e) 5 &&& sI x (2 + d) 6 = 0))) i : Int32) = orB (fun e => !decide (nI e = nI d) && (decide (sI x (2 + e) 1 = 1) && !decide (sI x (2 + e) 5 &&& sI x (2 + d) 6 = 0))) (i + 1) from by first | exact orB_t (by simp [*]) | exact orB_f (by simp [*])) (lr (lr (lr rfl))))))
          exact ih _ _ _ (by omega) ⟨hw, hl9⟩
        · skip
          refine lv_iload_n hx hb dX3_rivalsOf_61 rfl (lv_at hl 3 rfl) ?_
          refine lv_aload hx hb dX3_rivalsOf_62 (lv_at hl 0 rfl) ?_
          refine gDi (d := i) (k := 0) (v := sI x (2 + i) 0) hlt (by decide) rfl go hw dX3_rivalsOf_64 q61 ?_
          refine toI (show sI x (2 + i) 0 = nI i from by exact hN i hlt) ?_
          refine cal_S (kX3_bit l G (nI i)) go hw.2.2.1 hw.2.2.2.1 dX3_rivalsOf_67 (And.intro q396 (And.intro q1 q369)) q368 kyX3_bit ⟨rfl, rfl⟩ ⟨Nat.le_of_ble_eq_true rfl, Nat.le_of_ble_eq_true rfl⟩ hl.1 rfl (Nat.le_of_ble_eq_true rfl) ⟨Nat.le_of_ble_eq_true rfl, Nat.le_of_ble_eq_true rfl⟩ ?_
          refine lv_ior hx hb dX3_rivalsOf_70 ?_
          refine lv_istore_n (lv' := [(2, .int ((orB (fun e => !decide (nI e = nI d) && (decide (sI x (2 + e) 1 = 1) && !decide (sI x (2 + e) 5 &&& sI x (2 + d) 6 = 0))) i) ||| (bt (nI i)))), (6, .ref (g (2 + i) 0)), (0, .ref (g 0 0)), (1, .ref (g (2 + d) 0)), (3, .ref (g 0 4)), (4, .int (nI 6)), (5, .int (nI i))]) hx hb dX3_rivalsOf_71 rfl hl (by decide) rfl (fun ls hl => ?_)
          refine lv_iinc (v := nI (i + 1)) (lv' := [(5, .int (nI (i + 1))), (2, .int ((orB (fun e => !decide (nI e = nI d) && (decide (sI x (2 + e) 1 = 1) && !decide (sI x (2 + e) 5 &&& sI x (2 + d) 6 = 0))) i) ||| (bt (nI i)))), (6, .ref (g (2 + i) 0)), (0, .ref (g 0 0)), (1, .ref (g (2 + d) 0)), (3, .ref (g 0 4)), (4, .int (nI 6))]) hx hb dX3_rivalsOf_72 hl (k := 6) rfl (nI_1 _) (by decide) rfl (fun ls hl => ?_)
          refine lv_goto (tgt := 14) hx hb dX3_rivalsOf_75 (by decide) ?_
          have hl9 : lv_has ls 7 [(0, .ref (g 0 0)), (1, .ref (g (2 + d) 0)), (2, .int (orB (fun e => !decide (nI e = nI d) && (decide (sI x (2 + e) 1 = 1) && !decide (sI x (2 + e) 5 &&& sI x (2 + d) 6 = 0))) (i + 1))), (3, .ref (g 0 4)), (4, .int (nI 6)), (5, .int (nI (i + 1)))] := lv_to (lv_sub (l' := [(0, .ref (g 0 0)), (1, .ref (g (2 + d) 0)), (2, .int ((orB (fun e => !decide (nI e = nI d) && (decide (sI x (2 + e) 1 = 1) && !decide (sI x (2 + e) 5 &&& sI x (2 + d) 6 = 0))) i) ||| (bt (nI i)))), (3, .ref (g 0 4)), (4, .int (nI 6)), (5, .int (nI (i + 1)))]) hl [3, 4, 1, 5, 6, 0] rfl) (lr (lr (lc (show ((orB (fun e => !decide (nI e = nI d) && (decide (sI x (2 + e) 1 = 1) && !decide (sI x (2 + e) 5 &&& sI x (2 + d) 6 = 0))) i) ||| (bt (nI i)) : Int32) = orB (fun e => !decide (nI e = nI d) && (decide (sI x (2 + e) 1 = 1) && !decide (sI x (2 + e) 5 &&& sI x (2 + d) 6 = 0))) (i + 1) from by first | exact orB_t (by simp [*]) | exact orB_f (by simp [*])) (lr (lr (lr rfl))))))
          exact ih _ _ _ (by omega) ⟨hw, hl9⟩

set_option maxHeartbeats 4000000 in
set_option maxRecDepth 100000 in
theorem kX3_goesFirst (l : Launch) (G : Cx) (g : Nat → Nat → Nat) (x : Sg) (a : Nat) (ha : a < 6) (b : Nat) (hb0 : b < 6) : Ci l G yX3_goesFirst cX3_goesFirst 3 .boolean (Rm 1 21) (cw G g) [.ref (g 0 0), .ref (g (2 + a) 0), .ref (g (2 + b) 0)] x (fun r u => r = bI (gfB x a b) ∧ u = x) := by
  refine Ci.mk (by decide) (Nat.le_of_ble_eq_true rfl) ?_
  intro p e s m below meth c A ls go hw hl
  generalize s.heap = H at hw ⊢
  generalize ([] : List Loc) = locs at hw ⊢
  have hx := go.1
  have hb := go.2.1
  have hl : lv_has ls 3 [(0, .ref (g 0 0)), (1, .ref (g (2 + a) 0)), (2, .ref (g (2 + b) 0))] := hl
  refine lv_aload_n hx hb dX3_goesFirst_0 rfl (lv_at hl 0 rfl) ?_
  refine lv_aload_n hx hb dX3_goesFirst_1 rfl (lv_at hl 1 rfl) ?_
  refine cal_Vi' (kX3_isStubborn l G g x a ha) go hw dX3_goesFirst_2 (And.intro q461 (And.intro q1 q464)) q463 qs11 kyX3_isStubborn ⟨Nat.le_of_ble_eq_true rfl, Nat.le_of_ble_eq_true rfl⟩ rc_X hl.1 rfl (Nat.le_of_ble_eq_true rfl) ⟨rfl, rfl⟩ ⟨Nat.le_of_ble_eq_true rfl, Nat.le_of_ble_eq_true rfl⟩ (fun H locs hw => ?_)
  refine lv_aload_n hx hb dX3_goesFirst_5 rfl (lv_at hl 0 rfl) ?_
  refine lv_aload_n hx hb dX3_goesFirst_6 rfl (lv_at hl 2 rfl) ?_
  refine cal_Vi' (kX3_isStubborn l G g x b hb0) go hw dX3_goesFirst_7 (And.intro q461 (And.intro q1 q464)) q463 qs11 kyX3_isStubborn ⟨Nat.le_of_ble_eq_true rfl, Nat.le_of_ble_eq_true rfl⟩ rc_X hl.1 rfl (Nat.le_of_ble_eq_true rfl) ⟨rfl, rfl⟩ ⟨Nat.le_of_ble_eq_true rfl, Nat.le_of_ble_eq_true rfl⟩ (fun H locs hw => ?_)
  refine lv_icmp_eq (tgt := 19) hx hb dX3_goesFirst_10 (by decide) (fun h10 => ?_) (fun h10 => ?_)
  · skip
    refine lv_aload_n hx hb dX3_goesFirst_19 rfl (lv_at hl 1 rfl) ?_
    refine gDi (d := a) (k := 3) (v := sI x (2 + a) 3) ha (by decide) rfl go hw dX3_goesFirst_20 q68 ?_
    refine lv_aload_n hx hb dX3_goesFirst_23 rfl (lv_at hl 2 rfl) ?_
    refine gDi (d := b) (k := 3) (v := sI x (2 + b) 3) hb0 (by decide) rfl go hw dX3_goesFirst_24 q68 ?_
    refine lv_icmp_ge (tgt := 34) hx hb dX3_goesFirst_27 (by decide) (fun h27 => ?_) (fun h27 => ?_)
    · skip
      refine lv_iconst (v := 0) hx hb dX3_goesFirst_34 (by decide) ?_
      refine ret_z (wf := cw G g) go hw dX3_goesFirst_35 rfl ?_
      exact ⟨by rw [gfB, if_pos h10]; simp [bI, *], rfl⟩
    · skip
      refine lv_iconst (v := 1) hx hb dX3_goesFirst_30 (by decide) ?_
      refine lv_goto (tgt := 35) hx hb dX3_goesFirst_31 (by decide) ?_
      refine ret_z (wf := cw G g) go hw dX3_goesFirst_35 rfl ?_
      exact ⟨by rw [gfB, if_pos h10]; simp [bI, *], rfl⟩
  · skip
    refine lv_aload_n hx hb dX3_goesFirst_13 rfl (lv_at hl 0 rfl) ?_
    refine lv_aload_n hx hb dX3_goesFirst_14 rfl (lv_at hl 1 rfl) ?_
    refine cal_Vi' (kX3_isStubborn l G g x a ha) go hw dX3_goesFirst_15 (And.intro q461 (And.intro q1 q464)) q463 qs11 kyX3_isStubborn ⟨Nat.le_of_ble_eq_true rfl, Nat.le_of_ble_eq_true rfl⟩ rc_X hl.1 rfl (Nat.le_of_ble_eq_true rfl) ⟨rfl, rfl⟩ ⟨Nat.le_of_ble_eq_true rfl, Nat.le_of_ble_eq_true rfl⟩ (fun H locs hw => ?_)
    refine ret_z (wf := cw G g) go hw dX3_goesFirst_18 (bI_z _).1 ?_
    exact ⟨by rw [gfB, if_neg h10], rfl⟩

set_option maxHeartbeats 4000000 in
set_option maxRecDepth 100000 in
theorem kX3_mustYield (l : Launch) (G : Cx) (g : Nat → Nat → Nat) (x : Sg) (hN : Nm x) (d : Nat) (hd : d < 6) : Ci l G yX3_mustYield cX3_mustYield 7 .boolean (Rm 2 46) (cw G g) [.ref (g 0 0), .ref (g (2 + d) 0)] x (fun r u => r = bI (myB x d) ∧ u = x) := by
  refine Ci.mk (by decide) (Nat.le_of_ble_eq_true rfl) ?_
  intro p e s m below meth c A ls go hw hl
  generalize s.heap = H at hw ⊢
  generalize ([] : List Loc) = locs at hw ⊢
  have hx := go.1
  have hb := go.2.1
  have hl : lv_has ls 7 [(0, .ref (g 0 0)), (1, .ref (g (2 + d) 0))] := hl
  refine lv_aload_n hx hb dX3_mustYield_0 rfl (lv_at hl 0 rfl) ?_
  refine lv_aload_n hx hb dX3_mustYield_1 rfl (lv_at hl 1 rfl) ?_
  refine cal_Vi' (kX3_rivalsOf l G g x hN d hd) go hw dX3_mustYield_2 (And.intro q453 (And.intro q1 q456)) q455 qs9 kyX3_rivalsOf ⟨Nat.le_of_ble_eq_true rfl, Nat.le_of_ble_eq_true rfl⟩ rc_X hl.1 rfl (Nat.le_of_ble_eq_true rfl) ⟨rfl, rfl⟩ ⟨Nat.le_of_ble_eq_true rfl, Nat.le_of_ble_eq_true rfl⟩ (fun H locs hw => ?_)
  refine lv_istore_n (lv' := [(2, .int (riv x d)), (0, .ref (g 0 0)), (1, .ref (g (2 + d) 0))]) hx hb dX3_mustYield_5 rfl hl (by decide) rfl (fun ls hl => ?_)
  refine lv_aload_n hx hb dX3_mustYield_6 rfl (lv_at hl 1 rfl) ?_
  refine gX (k := 3) (v := .ref (g 0 4)) rfl (by decide) rfl go hw dX3_mustYield_7 q130 ?_
  refine lv_astore_n (lv' := [(3, .ref (g 0 4)), (2, .int (riv x d)), (0, .ref (g 0 0)), (1, .ref (g (2 + d) 0))]) hx hb dX3_mustYield_10 rfl hl (by decide) rfl (fun ls hl => ?_)
  refine lv_aload_n hx hb dX3_mustYield_11 rfl (lv_at hl 0 rfl) ?_
  refine lDl go hw dX3_mustYield_12 ?_
  refine lv_istore (lv' := [(4, .int (nI 6)), (3, .ref (g 0 4)), (2, .int (riv x d)), (0, .ref (g 0 0)), (1, .ref (g (2 + d) 0))]) hx hb dX3_mustYield_13 hl (by decide) rfl (fun ls hl => ?_)
  refine lv_iconst (v := 0) hx hb dX3_mustYield_15 (by decide) ?_
  refine lv_istore (lv' := [(5, .int 0), (4, .int (nI 6)), (3, .ref (g 0 4)), (2, .int (riv x d)), (0, .ref (g 0 0)), (1, .ref (g (2 + d) 0))]) hx hb dX3_mustYield_16 hl (by decide) rfl (fun ls hl => ?_)
  have hl0 : lv_has ls 7 [(0, .ref (g 0 0)), (1, .ref (g (2 + d) 0)), (2, .int (riv x d)), (3, .ref (g 0 4)), (4, .int (nI 6)), (5, .int (nI 0))] := lv_to (lv_sub (l' := [(0, .ref (g 0 0)), (1, .ref (g (2 + d) 0)), (2, .int (riv x d)), (3, .ref (g 0 4)), (4, .int (nI 6)), (5, .int 0)]) hl [4, 5, 3, 2, 1, 0] rfl) (lr (lr (lr (lr (lr (lc (show (0 : Int32) = nI 0 from rfl) rfl))))))
  refine loop_up (N := 6) (P := fun i H locs ls => Wd G A s H locs (cw G g x) ∧ lv_has ls 7 [(0, .ref (g 0 0)), (1, .ref (g (2 + d) 0)), (2, .int (riv x d)), (3, .ref (g 0 4)), (4, .int (nI 6)), (5, .int (nI i))] ∧ (∀ j, j < i → (fun e => hasB (riv x d) (nI e) && gfB x e d) j = false)) (X := fun H locs ls => W p l e (Rm 2 46) s m ([.ref (g 0 0), .ref (g (2 + d) 0)] : List Value).toArray below meth c H locs 0 0 (MQ below (va_Qi (fun r u => r = bI (myB x d) ∧ u = x) (PostW G (cw G g) A) A) ([.ref (g 0 0), .ref (g (2 + d) 0)] : List Value).toArray s (Rm 2 46).cells (Rm 2 46).slots A) (F0 m 18 ls [])) ?_ 0 (by omega) H locs ls ⟨hw, hl0, (fun j hj => absurd hj (by omega))⟩
  clear hl0 hl hw
  intro i hi ih H locs ls hP
  obtain ⟨hw, hl, hE0⟩ := hP
  refine lv_iload hx hb dX3_mustYield_18 (lv_at hl 5 rfl) ?_
  refine lv_iload hx hb dX3_mustYield_20 (lv_at hl 4 rfl) ?_
  refine lv_icmp_ge (tgt := 61) hx hb dX3_mustYield_22 (by decide) (fun h22 => ?_) (fun h22 => ?_)
  · skip
    have hE : i = 6 := lp_end h22 rfl rfl hi (by decide)
    subst hE
    refine lv_iconst (v := 0) hx hb dX3_mustYield_61 (by decide) ?_
    refine ret_z (wf := cw G g) go hw dX3_mustYield_62 rfl ?_
    exact ⟨by rw [myB, exB_f hE0]; rfl, rfl⟩
  · skip
    have hlt : i < 6 := lp_in h22 rfl rfl hi (by decide)
    refine lv_aload_n hx hb dX3_mustYield_25 rfl (lv_at hl 3 rfl) ?_
    refine lv_iload hx hb dX3_mustYield_26 (lv_at hl 5 rfl) ?_
    refine aDl (d := i) (by exact hlt) go hw dX3_mustYield_28 ?_
    refine lv_astore (lv' := [(6, .ref (g (2 + i) 0)), (0, .ref (g 0 0)), (1, .ref (g (2 + d) 0)), (2, .int (riv x d)), (3, .ref (g 0 4)), (4, .int (nI 6)), (5, .int (nI i))]) hx hb dX3_mustYield_29 hl (by decide) rfl (fun ls hl => ?_)
    refine lv_iload_n hx hb dX3_mustYield_31 rfl (lv_at hl 3 rfl) ?_
    refine lv_aload hx hb dX3_mustYield_32 (lv_at hl 0 rfl) ?_
    refine gDi (d := i) (k := 0) (v := sI x (2 + i) 0) hlt (by decide) rfl go hw dX3_mustYield_34 q61 ?_
    refine toI (show sI x (2 + i) 0 = nI i from by exact hN i hlt) ?_
    refine cal_S (kX3_has l G (riv x d) (nI i)) go hw.2.2.1 hw.2.2.2.1 dX3_mustYield_37 (And.intro q393 (And.intro q1 q395)) q394 kyX3_has ⟨rfl, rfl⟩ ⟨Nat.le_of_ble_eq_true rfl, Nat.le_of_ble_eq_true rfl⟩ hl.1 rfl (Nat.le_of_ble_eq_true rfl) ⟨Nat.le_of_ble_eq_true rfl, Nat.le_of_ble_eq_true rfl⟩ ?_
    refine lv_if_eq (tgt := 55) hx hb dX3_mustYield_40 (by decide) (fun h40 => ?_) (fun h40 => ?_)
    · skip
      have h40 := bI_0 h40
      refine lv_iinc (v := nI (i + 1)) (lv' := [(5, .int (nI (i + 1))), (6, .ref (g (2 + i) 0)), (0, .ref (g 0 0)), (1, .ref (g (2 + d) 0)), (2, .int (riv x d)), (3, .ref (g 0 4)), (4, .int (nI 6))]) hx hb dX3_mustYield_55 hl (k := 6) rfl (nI_1 _) (by decide) rfl (fun ls hl => ?_)
      refine lv_goto (tgt := 18) hx hb dX3_mustYield_58 (by decide) ?_
      have hl9 : lv_has ls 7 [(0, .ref (g 0 0)), (1, .ref (g (2 + d) 0)), (2, .int (riv x d)), (3, .ref (g 0 4)), (4, .int (nI 6)), (5, .int (nI (i + 1)))] := lv_sub hl [2, 3, 4, 5, 6, 0] rfl
      exact ih _ _ _ (by omega) ⟨hw, hl9, (lt_s hE0 (by simp [*]))⟩
    · skip
      have h40 := bI_1 h40
      refine lv_aload_n hx hb dX3_mustYield_43 rfl (lv_at hl 1 rfl) ?_
      refine lv_aload hx hb dX3_mustYield_44 (lv_at hl 0 rfl) ?_
      refine lv_aload_n hx hb dX3_mustYield_46 rfl (lv_at hl 2 rfl) ?_
      refine cal_Vi' (kX3_goesFirst l G g x i hlt d hd) go hw dX3_mustYield_47 (And.intro q457 (And.intro q1 q460)) q459 qs10 kyX3_goesFirst ⟨Nat.le_of_ble_eq_true rfl, Nat.le_of_ble_eq_true rfl⟩ rc_X hl.1 rfl (Nat.le_of_ble_eq_true rfl) ⟨rfl, rfl⟩ ⟨Nat.le_of_ble_eq_true rfl, Nat.le_of_ble_eq_true rfl⟩ (fun H locs hw => ?_)
      refine lv_if_eq (tgt := 55) hx hb dX3_mustYield_50 (by decide) (fun h50 => ?_) (fun h50 => ?_)
      · skip
        have h50 := bI_0 h50
        refine lv_iinc (v := nI (i + 1)) (lv' := [(5, .int (nI (i + 1))), (6, .ref (g (2 + i) 0)), (0, .ref (g 0 0)), (1, .ref (g (2 + d) 0)), (2, .int (riv x d)), (3, .ref (g 0 4)), (4, .int (nI 6))]) hx hb dX3_mustYield_55 hl (k := 6) rfl (nI_1 _) (by decide) rfl (fun ls hl => ?_)
        refine lv_goto (tgt := 18) hx hb dX3_mustYield_58 (by decide) ?_
        have hl9 : lv_has ls 7 [(0, .ref (g 0 0)), (1, .ref (g (2 + d) 0)), (2, .int (riv x d)), (3, .ref (g 0 4)), (4, .int (nI 6)), (5, .int (nI (i + 1)))] := lv_sub hl [2, 3, 4, 5, 6, 0] rfl
        exact ih _ _ _ (by omega) ⟨hw, hl9, (lt_s hE0 (by simp [*]))⟩
      · skip
        have h50 := bI_1 h50
        refine lv_iconst (v := 1) hx hb dX3_mustYield_53 (by decide) ?_
        refine ret_z (wf := cw G g) go hw dX3_mustYield_54 rfl ?_
        exact ⟨by rw [myB, exB_t (p := (fun e => hasB (riv x d) (nI e) && gfB x e d)) (i := i) (by simp [*]) hlt]; rfl, rfl⟩

set_option maxHeartbeats 4000000 in
set_option maxRecDepth 100000 in
theorem kX3_isFailure (l : Launch) (G : Cx) (a : Int32) : Si l G yX3_isFailure cX3_isFailure 1 .boolean (Rm 0 0) [.int a] (fun r => r = bI (faB a)) := by
  refine Si.mk (by decide) (Nat.le_of_ble_eq_true rfl) ?_
  intro p e s m below meth c A ls go hk hl
  have hS : va_S A s.heap s.heap [] := va_S.rf
  have hx := go.1
  have hb := go.2.1
  have hl : lv_has ls 1 [(0, .int a)] := hl
  refine lv_iload_n hx hb dX3_isFailure_0 rfl (lv_at hl 0 rfl) ?_
  refine lv_bipush (v := (-11)) hx hb dX3_isFailure_1 (by decide) ?_
  refine lv_icmp_eq (tgt := 18) hx hb dX3_isFailure_3 (by decide) (fun h3 => ?_) (fun h3 => ?_)
  · skip
    refine lv_iconst (v := 1) hx hb dX3_isFailure_18 (by decide) ?_
    refine lv_goto (tgt := 23) hx hb dX3_isFailure_19 (by decide) ?_
    refine ret_sz go dX3_isFailure_23 rfl ?_
    simp [faB, bI, *]
  · skip
    refine lv_iload_n hx hb dX3_isFailure_6 rfl (lv_at hl 0 rfl) ?_
    refine lv_bipush (v := (-12)) hx hb dX3_isFailure_7 (by decide) ?_
    refine lv_icmp_eq (tgt := 18) hx hb dX3_isFailure_9 (by decide) (fun h9 => ?_) (fun h9 => ?_)
    · skip
      refine lv_iconst (v := 1) hx hb dX3_isFailure_18 (by decide) ?_
      refine lv_goto (tgt := 23) hx hb dX3_isFailure_19 (by decide) ?_
      refine ret_sz go dX3_isFailure_23 rfl ?_
      simp [faB, bI, *]
    · skip
      refine lv_iload_n hx hb dX3_isFailure_12 rfl (lv_at hl 0 rfl) ?_
      refine lv_bipush (v := (-13)) hx hb dX3_isFailure_13 (by decide) ?_
      refine lv_icmp_ne (tgt := 22) hx hb dX3_isFailure_15 (by decide) (fun h15 => ?_) (fun h15 => ?_)
      · skip
        refine lv_iconst (v := 0) hx hb dX3_isFailure_22 (by decide) ?_
        refine ret_sz go dX3_isFailure_23 rfl ?_
        simp [faB, bI, *]
      · skip
        refine lv_iconst (v := 1) hx hb dX3_isFailure_18 (by decide) ?_
        refine lv_goto (tgt := 23) hx hb dX3_isFailure_19 (by decide) ?_
        refine ret_sz go dX3_isFailure_23 rfl ?_
        simp [faB, bI, *]

set_option maxHeartbeats 4000000 in
set_option maxRecDepth 100000 in
theorem kX3_itemsOf (l : Launch) (G : Cx) (v : Int32) : Si l G yX3_itemsOf cX3_itemsOf 2 .int (Rm 1 20) [.int v] (fun r => r = itO v) := by
  refine Si.mk (by decide) (Nat.le_of_ble_eq_true rfl) ?_
  intro p e s m below meth c A ls go hk hl
  have hS : va_S A s.heap s.heap [] := va_S.rf
  have hx := go.1
  have hb := go.2.1
  have hl : lv_has ls 2 [(0, .int v)] := hl
  refine lv_iconst (v := 4) hx hb dX3_itemsOf_0 (by decide) ?_
  refine cal_S (kX3_bit l G 4) go hS hk dX3_itemsOf_1 (And.intro q396 (And.intro q1 q369)) q368 kyX3_bit ⟨rfl, rfl⟩ ⟨Nat.le_of_ble_eq_true rfl, Nat.le_of_ble_eq_true rfl⟩ hl.1 rfl (Nat.le_of_ble_eq_true rfl) ⟨Nat.le_of_ble_eq_true rfl, Nat.le_of_ble_eq_true rfl⟩ ?_
  refine lv_iconst (v := 1) hx hb dX3_itemsOf_4 (by decide) ?_
  refine lv_isub hx hb dX3_itemsOf_5 ?_
  refine lv_istore_n (lv' := [(1, .int ((bt 4) - 1)), (0, .int v)]) hx hb dX3_itemsOf_6 rfl hl (by decide) rfl (fun ls hl => ?_)
  refine lv_iload_n hx hb dX3_itemsOf_7 rfl (lv_at hl 0 rfl) ?_
  refine lv_iload_n hx hb dX3_itemsOf_8 rfl (lv_at hl 1 rfl) ?_
  refine lv_iconst (v := 4) hx hb dX3_itemsOf_9 (by decide) ?_
  refine lv_imul hx hb dX3_itemsOf_10 ?_
  refine lv_ishl hx hb dX3_itemsOf_11 ?_
  refine ret_si go dX3_itemsOf_12 ?_
  rfl
