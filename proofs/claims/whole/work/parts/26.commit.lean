/-! ===== commits, side by side ===== -/
section TC
variable {x x' : Sg} {y y' : Rg} {c T : Nat}
theorem dm_at (b : Int32) (x : Sg) (e : Nat) : ∀ n, sI (foS (dmS b) x n) (2 + e) 1 = if e < n ∧ hasB b (nI e) = true then 2 else sI x (2 + e) 1
  | 0 => by rw [if_neg (by omega)]; rfl
  | n + 1 => by
    have ih := dm_at b x e n
    rw [foS, dmS]
    by_cases q : hasB b (nI n) = true
    · rw [if_pos q, sI_pI]
      by_cases g : e = n
      · subst g; rw [if_pos ⟨rfl, rfl⟩, if_pos ⟨by omega, q⟩]
      · rw [if_neg (by omega), ih]
        by_cases z : e < n ∧ hasB b (nI e) = true
        · rw [if_pos z, if_pos ⟨by omega, z.2⟩]
        · rw [if_neg z, if_neg (fun k => z ⟨by omega, k.2⟩)]
    · rw [if_neg q, ih]
      by_cases z : e < n ∧ hasB b (nI e) = true
      · rw [if_pos z, if_pos ⟨by omega, z.2⟩]
      · rw [if_neg z, if_neg (fun k => z ⟨by have : ¬ e = n := fun r => q (by rw [← r]; exact k.2); omega, k.2⟩)]
theorem dm_oo (b : Int32) (x : Sg) (o k : Nat) (h : o < 2 ∨ 8 ≤ o) : ∀ n, n ≤ 6 → sI (foS (dmS b) x n) o k = sI x o k
  | 0, _ => rfl
  | n + 1, hn => by
    rw [foS, dmS]
    split
    · rw [sI_ne (by omega)]; exact dm_oo b x o k h n (by omega)
    · exact dm_oo b x o k h n (by omega)
theorem dm_A (b : Int32) (x : Sg) (o k : Nat) : ∀ n, sA (foS (dmS b) x n) o k = sA x o k
  | 0 => rfl
  | n + 1 => by
    rw [foS, dmS]
    split
    · rw [sA_pI]; exact dm_A b x o k n
    · exact dm_A b x o k n
def dmY (y : Rg) (b : Int32) : Rg := qA y 4 (cpF (rA y 4) (dmF y b) 6)
theorem dmY_o {b : Int32} {k : Nat} (h : ¬ k = 4) : rA (dmY y b) k = rA y k := rA_ne h
theorem dmY_4 {b : Int32} {e : Nat} (he : e < 6) : rA (dmY y b) 4 e = if hasB b (nI e) = true then 2 else rA y 4 e := by
  rw [dmY, rA_eq, cpF, if_pos he]; rfl
theorem Rel.dmG (h : Rel x y c) {b : Int32} (hb : ∀ e, e < 6 → hasB b (nI e) = true → rA y 4 e = 1) (h1 : ∀ e, e < 6 → sI x' (2 + e) 1 = if hasB b (nI e) = true then 2 else sI x (2 + e) 1) (hI : ∀ o k, (o < 2 ∨ 8 ≤ o ∨ ¬ k = 1) → sI x' o k = sI x o k) (hA : ∀ o k, sA x' o k = sA x o k) : Rel x' (dmY y b) c := by
  refine ⟨?_, ?_, fun e he => ?_, fun n hn => ?_⟩
  · simp only [R0, hI 0 _ (Or.inl (by decide)), hA, dmY_o (y := y) (b := b) (k := 0) (by decide), dmY_o (y := y) (b := b) (k := 1) (by decide)]; exact h.1
  · simp only [RT, hI 1 _ (Or.inl (by decide)), hA, dmY_o (y := y) (b := b) (k := 22) (by decide), dmY_o (y := y) (b := b) (k := 29) (by decide)]; exact h.2.1
  · obtain ⟨⟨a0, a1, a2, a3, a4, a5, a6, a7⟩, b1, e1, f1⟩ := h.d he
    have o : ∀ k, ¬ k = 4 → ∀ j, rA (dmY y b) k j = rA y k j := fun k hk j => by rw [dmY_o hk]
    refine ⟨⟨?_, ?_, ?_, ?_, ?_, ?_, ?_, ?_⟩, fun i hi => ?_, fun z => ?_, fun z => ?_⟩
    · rw [hI _ _ (by omega)]; exact a0
    · rw [h1 e he, dmY_4 he, a1]
    · rw [hI _ _ (by omega), o 5 (by decide)]; exact a2
    · rw [hI _ _ (by omega), o 6 (by decide)]; exact a3
    · rw [hI _ _ (by omega), o 7 (by decide)]; exact a4
    · rw [hI _ _ (by omega), o 8 (by decide)]; exact a5
    · rw [hI _ _ (by omega), o 9 (by decide)]; exact a6
    · rw [hI _ _ (by omega), o 10 (by decide)]; exact a7
    · rw [hA, hA, hA, o 11 (by decide), o 12 (by decide), o 13 (by decide)]; exact b1 i hi
    · rw [dmY_4 he] at z
      by_cases q : hasB b (nI e) = true
      · rw [if_pos q] at z; exact absurd z (by decide)
      · rw [if_neg q] at z
        rw [hI _ _ (by omega), o 14 (by decide)]
        refine ⟨(e1 z).1, fun v hv => ?_⟩
        rw [hA, o 15 (by decide)]; exact (e1 z).2 v hv
    · rw [hI _ _ (by omega)]
      refine f1 (fun q => ?_)
      rw [dmY_4 he] at z
      by_cases g : hasB b (nI e) = true
      · rw [hb e he g] at q; exact absurd q (by decide)
      · rw [if_neg g] at z; exact z q
  · exact (h.2.2.2 n hn).cg (fun k => hI _ _ (by omega)) (fun k j => by rw [hA]) (fun j _ => by rw [dmY_o (by decide)])
theorem Rel.dm (h : Rel x y c) {b : Int32} (hb : ∀ e, e < 6 → hasB b (nI e) = true → rA y 4 e = 1) : Rel (dmA x b) (dmY y b) c :=
  h.dmG hb (fun e he => by rw [dmA, dm_at]; by_cases q : hasB b (nI e) = true; rw [if_pos ⟨he, q⟩, if_pos q]; rw [if_neg (fun z => q z.2), if_neg q]) (fun o k q => by
    by_cases g : k = 1
    · exact dm_oo b x o k (by omega) 6 (by decide)
    · exact dmA_I b x o k g) (fun o k => dm_A b x o k 6)
theorem Rel.dm0 (h : Rel x y c) {b : Int32} (hb : ∀ e, e < 6 → hasB b (nI e) = false) : Rel x (dmY y b) c :=
  h.dmG (fun e he q => by rw [hb e he] at q; cases q) (fun e he => by rw [if_neg (by rw [hb e he]; decide)]) (fun _ _ _ => rfl) (fun _ _ => rfl)
theorem Inv.dm (h : Inv y c T) {b : Int32} (hb : ∀ e, e < 6 → hasB b (nI e) = true → rA y 4 e = 1) : Inv (dmY y b) c T := by
  have o : ∀ k, ¬ k = 4 → ∀ j, rA (dmY y b) k j = rA y k j := fun k hk j => by rw [dmY_o hk]
  have t3 : ∀ e, e < 6 → rA (dmY y b) 4 e = 3 → rA y 4 e = 3 := fun e he z => by
    rw [dmY_4 he] at z
    by_cases q : hasB b (nI e) = true
    · rw [if_pos q] at z; exact absurd z (by decide)
    · rw [if_neg q] at z; exact z
  refine ⟨h.1, fun e he => ?_, fun i hi => ?_, fun e f he hf hef g1 g2 => ?_⟩
  · have hD := h.2.1 e he
    obtain ⟨s, s1, s2, s3⟩ := hD.2.2.2.1
    refine ⟨?_, fun z => ?_, fun z => ?_, ⟨s, s1, ?_, fun i hi q => ?_⟩, ?_, fun z => ?_⟩
    · rw [dmY_4 he]
      split
      · exact Or.inr (Or.inr (Or.inl rfl))
      · exact hD.1
    · rw [dmY_4 he] at z
      rw [o 9 (by decide), o 10 (by decide)]
      by_cases q : hasB b (nI e) = true
      · rw [if_pos q] at z; exact absurd z (by decide)
      · rw [if_neg q] at z; exact hD.2.1 z
    · rw [o 8 (by decide)] at z
      have z0 := hD.2.2.1 z
      rw [dmY_4 he, if_neg (fun q => by rw [hb e he q] at z0; exact absurd z0 (by decide))]; exact z0
    · rw [o 5 (by decide)]; exact s2
    · rw [o 9 (by decide)] at q; rw [o 1 (by decide), o 12 (by decide)]; exact s3 i hi q
    · rw [o 9 (by decide), o 10 (by decide)]; exact hD.2.2.2.2.1
    · rw [o 14 (by decide)]; exact hD.2.2.2.2.2 (t3 e he z)
  · obtain ⟨k, k1, k2, k3, k4⟩ := h.2.2.1 i hi
    refine ⟨k, k1, ?_, ?_, fun n n1 n2 => ?_⟩
    · rw [o 1 (by decide)]; exact k2
    · rw [o 3 (by decide)]; exact k3
    · rw [o 3 (by decide)]; exact k4 n n1 n2
  · rw [o 14 (by decide), o 14 (by decide)]
    exact h.2.2.2 e f he hf hef (t3 e he g1) (t3 f hf g2)
/-! an item changes -/
theorem Rel.ch (h : Rel x y c) (i : Nat) (v : Int32) : Rel (chS x i v) (puR y i v) c := by
  have h5 : sI x 0 5 = rI y 2 := h.1.1.1
  refine ⟨⟨h.1.1, ?_, ?_⟩, ⟨?_, h.2.1.2.1, h.2.1.2.2⟩, fun e he => ?_, fun n hn => ?_⟩
  · show upd (sA x 0 1) i v = upd (rA y 0) i v
    rw [h.val]
  · show upd (sA x 0 2) i (sI x 0 5) = upd (rA y 1) i (rI y 2)
    rw [h.stp, h5]
  · exact h.2.1.1
  · exact (h.d he).cg (fun k _ => rfl) (fun k j _ _ => by rw [chS, sA_u, if_neg (by omega), sA_u, if_neg (by omega)]) (fun k _ _ _ => by rw [puR, rA_u, if_neg (by omega), rA_u, if_neg (by omega)]) (fun k i _ _ _ => by rw [puR, rA_u, if_neg (by omega), rA_u, if_neg (by omega)]) (fun v _ => by rw [puR, rA_u, if_neg (by omega), rA_u, if_neg (by omega)])
  · exact (h.2.2.2 n hn).cg (fun k => rfl) (fun k j => by rw [chS, sA_u, if_neg (by omega), sA_u, if_neg (by omega)]) (fun j _ => by rw [puR, rA_u, if_neg (by omega), rA_u, if_neg (by omega)])
theorem Rel.chs (h : Rel x y c) {d : Nat} (hd : d < 6) : ∀ n, n ≤ 8 → Rel (foS (kpS d) x n) (foR (cmS d) y n) c
  | 0, _ => h
  | n + 1, hn => by
    have ih := Rel.chs h hd n (by omega)
    rw [foS, foR, kpS, cmS, ih.writes hd]
    by_cases q : hasB (rA (foR (cmS d) y n) 10 d) (nI n) = true
    · rw [if_pos q, if_pos q, ih.wv hd (by omega)]
      exact ih.ch n _
    · rw [if_neg q, if_neg q]; exact ih
/-! the log -/
def LG (y : Rg) (c0 : Nat) (v0 v1 v2 v3 v4 w : Int32) (ns wv : Nat → Int32) : Rg := qA (lg0 y c0 v0 v1 v2 v3 v4 w) 3 (lgL (rA (lg0 y c0 v0 v1 v2 v3 v4 w) 3) ns wv (22 * c0) 8)
theorem LG_o {c0 k : Nat} {v0 v1 v2 v3 v4 w : Int32} {ns wv : Nat → Int32} (hk : ¬ k = 3) : rA (LG y c0 v0 v1 v2 v3 v4 w ns wv) k = rA y k := by
  simp only [LG, lg0, rA_qA, rA_qI, hk, if_false]
theorem LG_I (y : Rg) (c0 k : Nat) (v0 v1 v2 v3 v4 w : Int32) (ns wv : Nat → Int32) : rI (LG y c0 v0 v1 v2 v3 v4 w ns wv) k = if k = 2 then nI (c0 + 1) else rI y k := rfl
theorem LG_3 (y : Rg) (c0 j : Nat) (v0 v1 v2 v3 v4 w : Int32) (ns wv : Nat → Int32) : rA (LG y c0 v0 v1 v2 v3 v4 w ns wv) 3 j = if 22 * c0 + 6 ≤ j ∧ j < 22 * c0 + 6 + 8 then ns (j - (22 * c0 + 6)) else if 22 * c0 + 14 ≤ j ∧ j < 22 * c0 + 14 + 8 then wv (j - (22 * c0 + 14)) else if j = 22 * c0 + 5 then w else if j = 22 * c0 + 4 then v4 else if j = 22 * c0 + 3 then v3 else if j = 22 * c0 + 2 then v2 else if j = 22 * c0 + 1 then v1 else if j = 22 * c0 then v0 else rA y 3 j := rfl
theorem nxS_E {c0 n : Nat} (hn : n < c0) (hcs : c0 ≤ sN x) : (∀ k, sI (nxS x c0) (8 + n) k = sI x (8 + n) k) ∧ ∀ k, sA (nxS x c0) (8 + n) k = sA x (8 + n) k := by
  unfold nxS
  split
  · exact ⟨fun k => sI_ne (by omega), fun k => rfl⟩
  · exact ⟨fun k => by rw [sI_ne (by omega), sI_addE, if_neg (by omega)], fun k => by rw [sA_pI, sA_addE, if_neg (by omega)]⟩
/-- an entry more: what stays -/
theorem Rel.en (h : Rel x y c) (hcs : c ≤ sN x) {v0 v1 v2 v3 v4 w : Int32} {ns wv : Nat → Int32} (hI : ∀ o k, ¬ o = 8 + c → sI x' o k = sI (nxS x c) o k) (hA : ∀ o k j, ¬ o = 8 + c → sA x' o k j = sA (nxS x c) o k j) (hy : ∀ k, ¬ k = 3 → rA y' k = rA y k) (hr : ∀ k, rI y' k = if k = 2 then nI (c + 1) else rI y k) (h3 : ∀ j, j < 22 * c → rA y' 3 j = rA y 3 j) (hE : ER x' y' c) : Rel x' y' (c + 1) := by
  have hI8 : ∀ o k, o < 8 → sI x' o k = if o = 0 ∧ k = 5 then nI (c + 1) else sI x o k := fun o k ho => by rw [hI o k (by omega), nxS_I ho]
  have hA8 : ∀ o k, o < 8 → sA x' o k = sA x o k := fun o k ho => funext fun j => by rw [hA o k j (by omega), nxS_A ho]
  have h0 := h.1.1
  refine ⟨⟨?_, ?_⟩, ?_, fun e he => ?_, fun n hn => ?_⟩
  · simp [hI8, hr, h0]
  · rw [hA8 0 _ (by decide), hA8 0 _ (by decide), hy 0 (by decide), hy 1 (by decide)]; exact h.1.2
  · unfold RT
    rw [hA8 1 _ (by decide), hy 22 (by decide), hy 29 (by decide), hr, if_neg (by decide), hI8 1 _ (by decide), if_neg (by decide)]; exact h.2.1
  · exact (h.d he).cg (fun k _ => by rw [hI8 _ _ (by omega), if_neg (by omega)]) (fun k j _ _ => by rw [hA8 _ _ (by omega)]) (fun k _ _ _ => by rw [hy k (by omega)]) (fun k i _ _ _ => by rw [hy k (by omega)]) (fun v _ => by rw [hy 15 (by decide)])
  · by_cases q : n = c
    · subst q; exact hE
    · exact (h.2.2.2 n (by omega)).cg (fun k => by rw [hI _ _ (by omega), (nxS_E (by omega) hcs).1]) (fun k j => by rw [hA _ _ _ (by omega), (nxS_E (by omega) hcs).2]) (fun j _ => h3 _ (by omega))
theorem kd0_I {n d o k : Nat} {w : Int32} : sI (kd0 x n d w) o k = if o = 8 + n then (if k = 5 then w else if k = 4 then sI x (2 + d) 6 else if k = 3 then sI x (2 + d) 5 else if k = 2 then sI x (2 + d) 4 else if k = 1 then sI x (2 + d) 3 else if k = 0 then sI x (2 + d) 0 else sI x o k) else sI x o k := by
  simp only [kd0, sI_pI]
  by_cases h : o = 8 + n
  · simp only [h, true_and, if_true]
  · simp only [h, false_and, if_false]
theorem kdE_A {n d o k j : Nat} {w : Int32} : sA (kdE x n d w) o k j = if o = 8 + n ∧ k = 7 then (if j < 8 then sA x (2 + d) 11 j else sA x (8 + n) 7 j) else if o = 8 + n ∧ k = 6 then (if j < 8 then sA x (2 + d) 10 j else sA x (8 + n) 6 j) else sA x o k j := by
  rw [kdE, sA_pA]
  split
  · rfl
  · rw [sA_pA]
    split
    · rfl
    · rfl
theorem Rel.kd (h : Rel x y c) (hcs : c ≤ sN x) {d : Nat} (hd : d < 6) (w : Int32) : Rel (kdE (nxS x c) c d w) (lgD y c d w) (c + 1) := by
  have hI8 : ∀ k, sI (nxS x c) (2 + d) k = sI x (2 + d) k := fun k => by rw [nxS_I (by omega), if_neg (by omega)]
  have hA8 : ∀ k, sA (nxS x c) (2 + d) k = sA x (2 + d) k := fun k => nxS_A (by omega)
  have hL : lgD y c d w = LG y c (nI d) (rA y 6 d) (rA y 7 d) (rA y 9 d) (rA y 10 d) w (nsR y d) (wvR y d) := rfl
  have eI : ∀ o k, sI (kdE (nxS x c) c d w) o k = sI (kd0 (nxS x c) c d w) o k := fun _ _ => rfl
  rw [hL]
  refine h.en (y' := LG y c (nI d) (rA y 6 d) (rA y 7 d) (rA y 9 d) (rA y 10 d) w (nsR y d) (wvR y d)) (v0 := 0) (v1 := 0) (v2 := 0) (v3 := 0) (v4 := 0) (w := 0) (ns := fun _ => 0) (wv := fun _ => 0) hcs (fun o k q => by rw [eI, kd0_I, if_neg q]) (fun o k j q => by rw [kdE_A, if_neg (fun z => q z.1), if_neg (fun z => q z.1)]) (fun k hk => LG_o hk) (fun k => LG_I _ _ _ _ _ _ _ _ _ _ _) (fun j hj => by rw [LG_3, if_neg (by omega), if_neg (by omega), if_neg (by omega), if_neg (by omega), if_neg (by omega), if_neg (by omega), if_neg (by omega), if_neg (by omega)]) ?_
  have h1 := h.d hd
  refine ⟨fun k hk => ?_, fun i hi => ⟨?_, ?_⟩⟩
  · rw [eI, kd0_I, if_pos rfl, LG_3, if_neg (show ¬ (22 * c + 6 ≤ 22 * c + k ∧ 22 * c + k < 22 * c + 6 + 8) by omega), if_neg (show ¬ (22 * c + 14 ≤ 22 * c + k ∧ 22 * c + k < 22 * c + 14 + 8) by omega)]
    rcases (show k = 0 ∨ k = 1 ∨ k = 2 ∨ k = 3 ∨ k = 4 ∨ k = 5 by omega) with rfl | rfl | rfl | rfl | rfl | rfl
    · simp [hI8, h1.1]
    · simp [hI8, h1.1]
    · simp [hI8, h1.1]
    · simp [hI8, h1.1]
    · simp [hI8, h1.1]
    · simp
  · rw [LG_3, if_pos (by omega), show 22 * c + 6 + i - (22 * c + 6) = i by omega, eI, kd0_I, if_pos rfl]
    simp only [kdE_A]
    simp [hI8, hA8, nsR, h.reads hd, hi, h.ns hd hi]
  · rw [LG_3, if_neg (by omega), if_pos (by omega), show 22 * c + 14 + i - (22 * c + 14) = i by omega, eI, kd0_I, if_pos rfl]
    simp only [kdE_A]
    simp [hI8, hA8, wvR, h.writes hd, hi, h.wv hd hi]
theorem Rel.ke (h : Rel x y c) (hcs : c ≤ sN x) {d : Nat} (hd : d < 6) (w : Int32) : Rel (keS x c d w) (coR y c d w) (c + 1) := ((h.kd hcs hd w).chs hd 8 (by decide)).fr hd false
/-! what the reference keeps -/
theorem Inv.cmt (h : Inv y c T) (hc : c + 1 ≤ 512) (h2 : rI y' 2 = nI (c + 1)) (h17 : rI y' 17 = rI y 17) (hy : ∀ k, 4 ≤ k → k ≤ 14 → rA y' k = rA y k) (h3 : ∀ n, n < c → rA y' 3 (22 * n + 4) = rA y 3 (22 * n + 4)) (h1 : ∀ i, i < 8 → rA y' 1 i = if hasB (rA y' 3 (22 * c + 4)) (nI i) = true then nI (c + 1) else rA y 1 i) : Inv y' (c + 1) T := by
  refine ⟨⟨h2, h17.trans h.1.2.1, hc, h.1.2.2.2⟩, fun e he => ?_, fun i hi => ?_, ?_⟩
  · obtain ⟨a, b, g, ⟨s, s1, s2, s3⟩, f, z⟩ := h.2.1 e he
    refine ⟨?_, ?_, ?_, ⟨s, by omega, ?_, fun i hi hb => ?_⟩, ?_, ?_⟩
    · rw [hy 4 (by decide) (by decide)]; exact a
    · rw [hy 4 (by decide) (by decide), hy 9 (by decide) (by decide), hy 10 (by decide) (by decide)]; exact b
    · rw [hy 4 (by decide) (by decide), hy 8 (by decide) (by decide)]; exact g
    · rw [hy 5 (by decide) (by decide)]; exact s2
    · rw [hy 9 (by decide) (by decide)] at hb
      rw [h1 i hi, hy 12 (by decide) (by decide)]
      by_cases q : hasB (rA y' 3 (22 * c + 4)) (nI i) = true
      · rw [if_pos q]; exact Or.inr ⟨c + 1, Nat.le_refl _, rfl, by omega⟩
      · rw [if_neg q]
        rcases s3 i hi hb with r | ⟨k, k1, k2, k3⟩
        · exact Or.inl r
        · exact Or.inr ⟨k, by omega, k2, k3⟩
    · rw [hy 9 (by decide) (by decide), hy 10 (by decide) (by decide)]; exact f
    · rw [hy 4 (by decide) (by decide), hy 14 (by decide) (by decide)]; exact z
  · by_cases q : hasB (rA y' 3 (22 * c + 4)) (nI i) = true
    · exact ⟨c + 1, Nat.le_refl _, by rw [h1 i hi, if_pos q], Or.inr q, fun n a b => by omega⟩
    · obtain ⟨k, k1, k2, k3, k4⟩ := h.2.2.1 i hi
      refine ⟨k, by omega, by rw [h1 i hi, if_neg q]; exact k2, ?_, fun n a b => ?_⟩
      · rcases k3 with k3 | k3
        · exact Or.inl k3
        · by_cases k0 : k = 0
          · exact Or.inl k0
          · right; rw [h3 (k - 1) (by omega)]; exact k3
      · by_cases z : n = c
        · subst z; simpa using q
        · rw [h3 n (by omega)]; exact k4 n a (by omega)
  · unfold TD; rw [hy 4 (by decide) (by decide), hy 14 (by decide) (by decide)]; exact h.2.2.2
theorem cm_k (d : Nat) (z : Rg) (k : Nat) (hk : 2 ≤ k) : ∀ n, rA (foR (cmS d) z n) k = rA z k
  | 0 => rfl
  | n + 1 => by
    rw [foR, cmS]
    split
    · rw [puR, rA_ne (by omega), rA_ne (by omega)]; exact cm_k d z k hk n
    · exact cm_k d z k hk n
theorem cm_1 (d : Nat) (z : Rg) (j : Nat) : ∀ n, rA (foR (cmS d) z n) 1 j = if j < n ∧ hasB (rA z 10 d) (nI j) = true then rI z 2 else rA z 1 j
  | 0 => by rw [if_neg (by omega)]; rfl
  | n + 1 => by
    have ih := cm_1 d z j n
    rw [foR, cmS, cm_k d z 10 (by decide)]
    by_cases q : hasB (rA z 10 d) (nI n) = true
    · rw [if_pos q, puR, rA_u, if_pos rfl, rI_cm]
      by_cases g : j = n
      · subst g; rw [if_pos rfl, if_pos ⟨by omega, q⟩]
      · rw [if_neg g, ih]
        by_cases r : j < n ∧ hasB (rA z 10 d) (nI j) = true
        · rw [if_pos r, if_pos ⟨by omega, r.2⟩]
        · rw [if_neg r, if_neg (fun w => r ⟨by omega, w.2⟩)]
    · rw [if_neg q, ih]
      by_cases r : j < n ∧ hasB (rA z 10 d) (nI j) = true
      · rw [if_pos r, if_pos ⟨by omega, r.2⟩]
      · rw [if_neg r, if_neg (fun w => r ⟨by have : ¬ j = n := fun t => q (by rw [← t]; exact w.2); omega, w.2⟩)]
theorem Inv.co (h : Inv y c T) (hc : c + 1 ≤ 512) {d : Nat} (hd : d < 6) (w : Int32) : Inv (coR y c d w) (c + 1) T := by
  have hL : lgD y c d w = LG y c (nI d) (rA y 6 d) (rA y 7 d) (rA y 9 d) (rA y 10 d) w (nsR y d) (wvR y d) := rfl
  have e4 : rA (foR (cmS d) (lgD y c d w) 8) 3 (22 * c + 4) = rA y 10 d := by
    rw [cm_k _ _ _ (by decide), hL, LG_3, if_neg (by omega), if_neg (by omega), if_neg (by omega), if_pos rfl]
  refine Inv.fr (Inv.cmt h hc ?_ ?_ (fun k k1 k2 => ?_) (fun n hn => ?_) (fun i hi => ?_)) hd false
  · rw [rI_cm, hL, LG_I, if_pos rfl]
  · rw [rI_cm, hL, LG_I, if_neg (by decide)]
  · rw [cm_k _ _ _ (by omega), hL, LG_o (by omega)]
  · rw [cm_k _ _ _ (by decide), hL, LG_3, if_neg (by omega), if_neg (by omega), if_neg (by omega), if_neg (by omega), if_neg (by omega), if_neg (by omega), if_neg (by omega), if_neg (by omega)]
  · rw [e4, cm_1, hL, LG_o (by decide), LG_o (by decide), LG_I, if_pos rfl]
    by_cases q : hasB (rA y 10 d) (nI i) = true
    · rw [if_pos ⟨hi, q⟩, if_pos q]
    · rw [if_neg (fun z => q z.2), if_neg q]
end TC
