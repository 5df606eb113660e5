/-! ===== what only asks, and the votes ===== -/
theorem cntB_le {p q : Nat → Bool} : ∀ {n : Nat}, (∀ j, j < n → p j = true → q j = true) → cntB p n ≤ cntB q n
  | 0, _ => Nat.le_refl _
  | n + 1, h => by
    have ih := cntB_le (fun j hj => h j (by omega)) (p := p) (q := q) (n := n)
    rw [cntB, cntB]
    cases hp : p n
    · simp; omega
    · rw [h n (by omega) hp]; simp; omega
theorem cntB_lt {p q : Nat → Bool} {i : Nat} (hp : p i = false) (hq : q i = true) : ∀ {n : Nat}, i < n → (∀ j, j < n → p j = true → q j = true) → cntB p n < cntB q n
  | 0, hi, _ => absurd hi (by omega)
  | n + 1, hi, h => by
    rw [cntB, cntB]
    by_cases e : i = n
    · subst e
      have ih := cntB_le (fun j hj => h j (by omega)) (p := p) (q := q) (n := i)
      rw [hp, hq]; simp; omega
    · have ih := cntB_lt hp hq (n := n) (by omega) (fun j hj => h j (by omega))
      cases hp2 : p n
      · simp; omega
      · rw [h n (by omega) hp2]; simp; omega
theorem cntB_n {p : Nat → Bool} : ∀ {n : Nat}, cntB p n ≤ n
  | 0 => Nat.le_refl _
  | n + 1 => by
    have := cntB_n (p := p) (n := n)
    rw [cntB]
    split <;> omega
theorem fstI_val {p : Nat → Bool} : ∀ {n : Nat}, fstN p n < n → p (fstN p n) = true ∧ ∀ j, j < fstN p n → p j = false
  | 0, h => absurd h (by omega)
  | n + 1, h => by
    rw [fstN] at h ⊢
    by_cases q : fstN p n < n
    · rw [if_pos q]; exact fstI_val q
    · rw [if_neg q] at h ⊢
      have hn : ∀ j, j < n → p j = false := by
        intro j hj
        cases g : p j
        · rfl
        · exfalso
          have key : ∀ m, j < m → m ≤ n → fstN p m < m := by
            intro m
            induction m with
            | zero => intro a; omega
            | succ m ih =>
              intro a b
              rw [fstN]
              by_cases r : fstN p m < m
              · rw [if_pos r]; omega
              · rw [if_neg r]
                by_cases s : j < m
                · exact absurd (ih s (by omega)) r
                · have : j = m := by omega
                  subst this
                  rw [if_pos g]; omega
          exact q (key n hj (Nat.le_refl _))
      cases g : p n
      · rw [g] at h; simp at h
      · simp only [if_true]; exact ⟨g, hn⟩
theorem amR_no {y : Rg} {p : Nat → Bool} : ∀ {n : Nat}, n < 2 ^ 31 → amR y p n = -1 → ∀ j, j < n → p j = false
  | 0, _, _, j, hj => absurd hj (by omega)
  | n + 1, hn, h, j, hj => by
    rw [amR] at h
    by_cases q : p n = true ∧ (amR y p n = -1 ∨ ¬ rA y 14 (amR y p n).toNatClampNeg ≤ rA y 14 n)
    · rw [if_pos q] at h; exact absurd h (nI_m1 (by omega))
    · rw [if_neg q] at h
      by_cases e : j = n
      · subst e
        cases g : p j
        · rfl
        · exact absurd ⟨g, Or.inl h⟩ q
      · exact amR_no (by omega) h j (by omega)
theorem amR_min {y : Rg} {p : Nat → Bool} : ∀ {n d : Nat}, n < 2 ^ 31 → d < n → amR y p n = nI d → p d = true ∧ ∀ j, j < n → p j = true → rA y 14 d ≤ rA y 14 j
  | 0, d, _, hd, _ => absurd hd (by omega)
  | n + 1, d, hn, hd, h => by
    rw [amR] at h
    by_cases q : p n = true ∧ (amR y p n = -1 ∨ ¬ rA y 14 (amR y p n).toNatClampNeg ≤ rA y 14 n)
    · rw [if_pos q] at h
      have e : n = d := (nI_eq (by omega) (by omega)).mp h
      subst e
      refine ⟨q.1, fun j hj hp => ?_⟩
      by_cases e2 : j = n
      · subst e2; exact Int32.le_refl _
      · rcases amR_or y p n with z | ⟨k, k1, k2⟩
        · have := amR_no (by omega) z j (by omega)
          rw [this] at hp; cases hp
        · rcases q.2 with z | z
          · rw [z] at k2; exact absurd k2.symm (nI_m1 (by omega))
          · rw [k2, nI_clamp (by omega)] at z
            have m := (amR_min (by omega) k1 k2).2 j (by omega) hp
            have z' : rA y 14 n < rA y 14 k := Int32.not_le.mp z
            exact Int32.le_of_lt (Int32.lt_of_lt_of_le z' m)
    · rw [if_neg q] at h
      rcases amR_or y p n with z | ⟨k, k1, k2⟩
      · rw [z] at h; exact absurd h.symm (nI_m1 (by omega))
      · have e : k = d := (nI_eq (by omega) (by omega)).mp (k2.symm.trans h)
        subst e
        have m := amR_min (by omega) k1 k2
        refine ⟨m.1, fun j hj hp => ?_⟩
        by_cases e2 : j = n
        · subst e2
          refine Classical.byContradiction (fun z => q ⟨hp, Or.inr ?_⟩)
          rw [k2, nI_clamp (by omega)]; exact z
        · exact m.2 j (by omega) hp
section TV
variable {x : Sg} {y : Rg} {c T : Nat}
theorem Gd.sb (h : Gd x y c T) {d : Nat} (hd : d < 6) (h3 : rA y 4 d = 3) : sbN x d = abN y d := by
  refine cntB_cg (fun e he => ?_)
  rw [h.1.st he, h.1.tk hd h3]
  by_cases g : rA y 4 e = 3
  · rw [h.1.tk he g]
  · rw [decide_eq_false g, Bool.false_and, Bool.false_and]
theorem Gd.sa (h : Gd x y c T) (k : Int32) : saI x k = fstI (seP y k) 6 := by
  have e : fstN (fun d => decide (sI x (2 + d) 1 = 3) && decide (nI (sbN x d) = k)) 6 = fstN (seP y k) 6 := by
    refine fstN_cg (fun d hd => ?_)
    show (decide (sI x (2 + d) 1 = 3) && decide (nI (sbN x d) = k)) = (decide (rA y 4 d = 3) && decide (nI (abN y d) = k))
    rw [h.1.st hd]
    by_cases g : rA y 4 d = 3
    · rw [h.sb hd g]
    · rw [decide_eq_false g, Bool.false_and, Bool.false_and]
  unfold saI fstI
  rw [e]
theorem Gd.gSe (h : Gd x y c T) (k : Int32) : seC x k = seR y k := by
  unfold seC seR
  rw [h.sa k, fstI]
  by_cases g : fstN (seP y k) 6 < 6
  · rw [if_pos g, if_neg (nI_m1 (by omega)), if_pos g]
  · rw [if_neg g, if_pos rfl, if_neg g]
/-- ranks of sent deals -/
theorem ab_lt {d e : Nat} (he : e < 6) (h3 : rA y 4 e = 3) (hl : rA y 14 e < rA y 14 d) : abN y e < abN y d := by
  refine cntB_lt (i := e) ?_ ?_ he (fun j hj hp => ?_)
  · rw [decide_eq_true (Int32.le_refl _)]; simp
  · rw [decide_eq_true h3, decide_eq_false (Int32.not_le.mpr hl)]; rfl
  · simp only [Bool.and_eq_true, decide_eq_true_eq, Bool.not_eq_true', decide_eq_false_iff_not] at hp ⊢
    exact ⟨hp.1, fun z => hp.2 (Int32.le_trans (Int32.le_of_lt hl) z)⟩
theorem ab_6 {d : Nat} (hd : d < 6) : abN y d < 6 := by
  have h := cntB_lt (p := fun j => decide (rA y 4 j = 3) && !decide (rA y 14 d ≤ rA y 14 j)) (q := fun _ => true) (i := d) (by rw [decide_eq_true (Int32.le_refl _)]; simp) rfl hd (fun _ _ _ => rfl)
  have h2 := cntB_n (p := fun _ => true) (n := 6)
  unfold abN
  omega
theorem tick_lt (hT : TD y) {d e : Nat} (hd : d < 6) (he : e < 6) (hde : ¬ d = e) (h3 : rA y 4 d = 3) (g3 : rA y 4 e = 3) : rA y 14 d < rA y 14 e ∨ rA y 14 e < rA y 14 d := by
  have n := hT d e hd he hde h3 g3
  by_cases z : rA y 14 d ≤ rA y 14 e
  · left
    rw [Int32.le_iff_toInt_le] at z
    rw [Int32.lt_iff_toInt_lt]
    have : ¬ (rA y 14 d).toInt = (rA y 14 e).toInt := fun q => n (Int32.toInt_inj.mp q)
    omega
  · right; exact Int32.not_le.mp z
theorem ab_inj (hT : TD y) {d e : Nat} (hd : d < 6) (he : e < 6) (h3 : rA y 4 d = 3) (g3 : rA y 4 e = 3) (ha : abN y d = abN y e) : d = e := by
  refine Classical.byContradiction (fun z => ?_)
  rcases tick_lt hT hd he z h3 g3 with q | q
  · have := ab_lt hd h3 q; omega
  · have := ab_lt he g3 q; omega
/-- the deal of a rank -/
theorem Gd.sa_at (h : Gd x y c T) {d : Nat} (hd : d < 6) (h3 : rA y 4 d = 3) : saI x (nI (abN y d)) = nI d := by
  rw [h.sa]
  have hp : seP y (nI (abN y d)) d = true := by rw [seP, decide_eq_true h3, decide_eq_true rfl]; rfl
  refine fstI_at hp (fun j hj => ?_) hd
  cases g : seP y (nI (abN y d)) j
  · rfl
  · exfalso
    simp only [seP, Bool.and_eq_true, decide_eq_true_eq] at g
    have a1 := ab_6 (y := y) (d := j) (by omega)
    have a2 := ab_6 (y := y) hd
    have := ab_inj h.2.1.2.2.2 (by omega) hd g.1 h3 ((nI_eq (by omega) (by omega)).mp g.2)
    omega
theorem Gd.sa_of (h : Gd x y c T) {k : Nat} (hk : k < 6) (hi : inB 6 (saI x (nI k)) = true) : ∃ e, e < 6 ∧ saI x (nI k) = nI e ∧ rA y 4 e = 3 ∧ abN y e = k := by
  rw [h.sa, fstI] at hi ⊢
  by_cases g : fstN (seP y (nI k)) 6 < 6
  · have v := (fstI_val g).1
    simp only [seP, Bool.and_eq_true, decide_eq_true_eq] at v
    have a1 := ab_6 (y := y) g
    exact ⟨_, g, if_pos g, v.1, (nI_eq (by omega) (by omega)).mp v.2⟩
  · rw [if_neg g] at hi; exact absurd hi (by decide)
theorem Gd.fn (h : Gd x y c T) : saI x 0 = fnR y := by
  rcases amR_or y (fun d => decide (rA y 4 d = 3)) 6 with q | ⟨d, hd, q⟩
  · have n := amR_no (by decide) q
    rw [h.sa, fnR, q]
    refine fstI_no (fun j hj => ?_)
    have := n j hj
    rw [seP, this]; rfl
  · have m := amR_min (by decide) hd q
    have h3 : rA y 4 d = 3 := decide_eq_true_eq.mp m.1
    have a0 : abN y d = 0 := by
      have : ∀ n, n ≤ 6 → cntB (fun j => decide (rA y 4 j = 3) && !decide (rA y 14 d ≤ rA y 14 j)) n = 0 := by
        intro n
        induction n with
        | zero => intro _; rfl
        | succ n ih =>
          intro hn
          rw [cntB, ih (by omega)]
          by_cases g : rA y 4 n = 3
          · rw [decide_eq_true (m.2 n (by omega) (decide_eq_true g))]; simp
          · rw [decide_eq_false g]; rfl
      exact this 6 (Nat.le_refl _)
    have e := h.sa_at hd h3
    rw [a0] at e
    rw [fnR, q]; exact e
theorem Gd.fv (h : Gd x y c T) {v : Nat} (hv : v < 2) : fwI x v = fvR y v := by
  have vote : ∀ e, e < 6 → rA y 4 e = 3 → (sA x (2 + e) 12 v = -1 ↔ rA y 15 (6 * v + e) = 0) := by
    intro e he h3
    rw [h.1.vt he h3 hv]
    constructor
    · intro z
      have := congrArg (fun w => w + 1) z
      simpa using this
    · intro z; rw [z]; rfl
  rcases amR_or y (fun d => decide (rA y 4 d = 3) && decide (rA y 15 (6 * v + d) = 0)) 6 with q | ⟨d, hd, q⟩
  · have n := amR_no (by decide) q
    rw [fvR, q]
    refine fwI_no (fun k hk => ?_)
    cases g : fwP x v k
    · rfl
    · exfalso
      simp only [fwP, Bool.and_eq_true, decide_eq_true_eq] at g
      obtain ⟨e, he, e1, e2, -⟩ := h.sa_of hk g.1
      rw [e1, nI_clamp (by omega)] at g
      have r := n e he
      rw [decide_eq_true e2, decide_eq_true ((vote e he e2).mp g.2)] at r
      cases r
  · have m := amR_min (by decide) hd q
    simp only [Bool.and_eq_true, decide_eq_true_eq] at m
    rw [fvR, q]
    have s := h.sa_at hd m.1.1
    have a6 := ab_6 (y := y) hd
    rw [fwI_at (i := abN y d) ?_ (fun k hk => ?_) a6]
    · exact s
    · rw [fwP, s, inB_nI (n := 6) (N := 6) d hd rfl (by decide), nI_clamp (by omega), decide_eq_true ((vote d hd m.1.1).mpr m.1.2)]; rfl
    · cases g : fwP x v k
      · rfl
      · exfalso
        simp only [fwP, Bool.and_eq_true, decide_eq_true_eq] at g
        obtain ⟨e, he, e1, e2, e3⟩ := h.sa_of (by omega) g.1
        rw [e1, nI_clamp (by omega)] at g
        have r := m.2 e he ⟨e2, (vote e he e2).mp g.2⟩
        by_cases z : d = e
        · subst z; omega
        · have n := h.2.1.2.2.2 d e hd he z m.1.1 e2
          have l : rA y 14 d < rA y 14 e := by
            rw [Int32.le_iff_toInt_le] at r
            rw [Int32.lt_iff_toInt_lt]
            have : ¬ (rA y 14 d).toInt = (rA y 14 e).toInt := fun q => n (Int32.toInt_inj.mp q)
            omega
          have := ab_lt (y := y) (e := d) (d := e) hd m.1.1 l
          omega
theorem it_15 : ∀ v, v < 2 → itO (nI v) = (15 : Int32) <<< ((4 * nI v) &&& 31) := by decide +kernel
theorem Gd.op (h : Gd x y c T) {v d : Nat} (hv : v < 2) (hd : d < 6) (h3 : rA y 4 d = 3) : opI x v d = vyR y v d := by
  have e : prI x v d = bfR y v d := by
    refine foI_cg (fun e b he => ?_)
    rw [h.1.st he, h.1.tk hd h3, h.1.writes he]
    by_cases g : rA y 4 e = 3
    · rw [h.1.tk he g, h.1.vt he g hv]
      have k : rA y 15 (6 * v + e) - 1 = 1 ↔ rA y 15 (6 * v + e) = 2 := by
        constructor
        · intro z
          have := congrArg (fun w => w + 1) z
          simpa using this
        · intro z; rw [z]; rfl
      by_cases r : rA y 4 e = 3 ∧ ¬ rA y 14 d ≤ rA y 14 e ∧ rA y 15 (6 * v + e) = 2
      · rw [if_pos ⟨r.1, r.2.1, k.mpr r.2.2⟩, if_pos r]
      · rw [if_neg (fun z => r ⟨z.1, z.2.1, k.mp z.2.2⟩), if_neg r, or0]
    · rw [if_neg (fun z => g z.1), if_neg (fun z => g z.1), or0]
  unfold opI vyR
  rw [e, h.1.stlE hd, h.1.reads hd, it_15 v hv, Int32.and_comm]
theorem Gd.gVo (h : Gd x y c T) (v : Int32) : Sm y c T (voC x v) (voR y v) := by
  unfold voC voR
  by_cases q : inB 2 v = true
  · obtain ⟨k, hk, rfl, e⟩ := in2 q
    rw [if_pos q, if_pos q]
    simp only [e]
    rw [h.fv hk]
    rcases amR_or y (fun d => decide (rA y 4 d = 3) && decide (rA y 15 (6 * k + d) = 0)) 6 with g | ⟨d, hd, g⟩
    · have g' : fvR y k = -1 := g
      rw [g', if_neg (by decide), if_pos rfl]; exact h.eq _
    · have m := amR_min (by decide) hd g
      simp only [Bool.and_eq_true, decide_eq_true_eq] at m
      have g' : fvR y k = nI d := g
      rw [g', if_pos (inB_nI (n := 6) (N := 6) d hd rfl (by decide)), if_neg (nI_m1 (by omega)), nI_clamp (by omega), h.op hk hd m.1.1]
      exact ⟨rfl, rfl, c, T, by omega, by omega, h.1.vo hd hk _, h.2.1.vo, h.2.2⟩
  · rw [if_neg q, if_neg q]; exact h.eq _
theorem Gd.gZe (h : Gd x y c T) (hc : c < 512) : Sm y c T (stC x c) (zeR y c) := by
  unfold stC zeR
  rw [h.fn]
  rcases amR_or y (fun d => decide (rA y 4 d = 3)) 6 with g | ⟨d, hd, g⟩
  · have g' : fnR y = -1 := g
    rw [g', if_neg (by decide), if_pos rfl]; exact h.eq _
  · have m := amR_min (by decide) hd g
    have h3 : rA y 4 d = 3 := decide_eq_true_eq.mp m.1
    have g' : fnR y = nI d := g
    rw [g', if_pos (inB_nI (n := 6) (N := 6) d hd rfl (by decide)), if_neg (nI_m1 (by omega))]
    simp only [nI_clamp (show d < 2 ^ 31 by omega)]
    have v0 := h.1.vt hd h3 (v := 0) (by decide)
    have v1 := h.1.vt hd h3 (v := 1) (by decide)
    rw [show 6 * 0 + d = d by omega] at v0
    rw [show 6 * 1 + d = 6 + d by omega] at v1
    have k1 : ∀ a b : Int32, a = b - 1 → (a = -1 ↔ b = 0) := fun a b z => by
      subst z
      constructor
      · intro z
        have := congrArg (fun w => w + 1) z
        simpa using this
      · intro z; rw [z]; rfl
    have k2 : ∀ a b : Int32, a = b - 1 → (a = 1 ↔ b = 2) := fun a b z => by
      subst z
      constructor
      · intro z
        have := congrArg (fun w => w + 1) z
        simpa using this
      · intro z; rw [z]; rfl
    have ha : haB x d = true ↔ ¬ (rA y 15 d = 0 ∨ rA y 15 (6 + d) = 0) := by
      rw [← k1 _ _ v0, ← k1 _ _ v1]
      simp [haB, exB]
    have ho : hoB x d = true ↔ (rA y 15 d = 2 ∧ rA y 15 (6 + d) = 2) := by
      rw [← k2 _ _ v0, ← k2 _ _ v1]
      simp [hoB, exB]
    by_cases q : rA y 15 d = 0 ∨ rA y 15 (6 + d) = 0
    · rw [if_neg (fun z => ha.mp z q), if_pos q]; exact h.eq _
    · rw [if_pos (ha.mpr q), if_neg q]
      by_cases r : rA y 15 d = 2 ∧ rA y 15 (6 + d) = 2
      · rw [if_pos (ho.mpr r), if_pos r]
        exact ⟨rfl, co_23 _ _ _ _, c + 1, T, by omega, by omega, h.1.ke h.2.2 hd 3, h.2.1.co (by omega) hd 3, ke_N h.2.2⟩
      · rw [if_neg (fun z => r (ho.mp z)), if_neg r, h.1.stlE hd]
        by_cases s : slR y d = 0
        · rw [if_pos s, if_pos s]
          exact ⟨rfl, rfl, c, T, by omega, by omega, h.1.lo hd Iff.rfl Iff.rfl, h.2.1.fa hd _, by rw [lo_N]; exact h.2.2⟩
        · rw [if_neg s, if_neg s]
          exact ⟨rfl, rfl, c, T, by omega, by omega, h.1.lo hd Iff.rfl Iff.rfl, h.2.1.fa hd _, by rw [lo_N]; exact h.2.2⟩
/-! what only asks -/
theorem Gd.gDe (h : Gd x y c T) (a w : Int32) : deC x a w = deR y c a w := by
  unfold deC deR
  by_cases q : inB 6 a = true
  · obtain ⟨d, hd, rfl, e⟩ := in6 q
    rw [if_pos q, if_pos q, e]
    have e11 : sI x (2 + d) 7 = if rA y 4 d = 3 then rA y 14 d else -1 := by
      by_cases g : rA y 4 d = 3
      · rw [if_pos g]; exact h.1.tk hd g
      · rw [if_neg g]; exact (h.1.d hd).2.2.2 g
    unfold dlC dlR
    rw [h.1.st hd, h.1.start hd, h.1.age hd, h.1.tries hd, h.1.reads hd, h.1.writes hd, h.1.lost hd, h.1.stbE hd, h.1.stlE hd, h.cr hd, h.1.rivE hd, e11]
  · rw [if_neg q, if_neg q]
theorem Gd.gNt (h : Gd x y c T) (a b w : Int32) : ntC x a b w = ntR y a b w := by
  unfold ntC ntR
  by_cases q : inB 6 a = true ∧ inB 8 b = true
  · obtain ⟨d, hd, rfl, e⟩ := in6 q.1
    obtain ⟨i, hi, rfl, e2⟩ := in8 q.2
    rw [if_pos q, if_pos q, e, e2, h.1.reads hd, h.1.writes hd, h.1.nv hd hi, h.1.ns hd hi, h.1.wv hd hi]
  · rw [if_neg q, if_neg q]
theorem Gd.gBa (h : Gd x y c T) (v a : Int32) : baC x v a = baR y v a := by
  unfold baC baR
  by_cases q : inB 2 v = true ∧ inB 6 a = true
  · obtain ⟨d, hd, rfl, e⟩ := in6 q.2
    obtain ⟨i, hi, rfl, e2⟩ := in2 q.1
    rw [if_pos q, if_pos q, e, e2, h.1.st hd]
    by_cases g : rA y 4 d = 3
    · rw [if_pos g, if_pos g]; exact h.1.vt hd g hi
    · rw [if_neg g, if_neg g]
  · rw [if_neg q, if_neg q]
theorem Gd.gLo (h : Gd x y c T) (k w : Int32) : lgC x c k w = loR y c k w := by
  unfold lgC loR
  have hc := h.2.1.1.2.2.1
  by_cases q : okE c k = true
  · rw [if_pos q, if_pos q]
    obtain ⟨n, hn, rfl⟩ := okE_of q hc
    simp only [nI_clamp (show n + 1 < 2 ^ 31 by omega), Nat.add_sub_cancel]
    have E := (h.1.2.2.2 n hn).1
    by_cases g : inB 6 w = true
    · obtain ⟨j, hj, rfl, e⟩ := in6 g
      rw [if_pos g, e, ← E j hj]
      rcases (show j = 0 ∨ j = 1 ∨ j = 2 ∨ j = 3 ∨ j = 4 ∨ j = 5 by omega) with rfl | rfl | rfl | rfl | rfl | rfl
      · rw [if_pos (by decide)]
      · rw [if_neg (by decide), if_pos (by decide)]
      · rw [if_neg (by decide), if_neg (by decide), if_pos (by decide)]
      · rw [if_neg (by decide), if_neg (by decide), if_neg (by decide), if_pos (by decide)]
      · rw [if_neg (by decide), if_neg (by decide), if_neg (by decide), if_neg (by decide), if_pos (by decide)]
      · rw [if_neg (by decide), if_neg (by decide), if_neg (by decide), if_neg (by decide), if_neg (by decide), if_pos (by decide)]
    · rw [if_neg g]
      have n : ∀ m : Int32, inB 6 m = true → ¬ w = m := fun m hm z => g (z ▸ hm)
      rw [if_neg (n 0 (by decide)), if_neg (n 1 (by decide)), if_neg (n 2 (by decide)), if_neg (n 3 (by decide)), if_neg (n 4 (by decide)), if_neg (n 5 (by decide))]
  · rw [if_neg q, if_neg q]
theorem Gd.gLd (h : Gd x y c T) (k b w : Int32) : ldC x c k b w = ldR y c k b w := by
  unfold ldC ldR
  have hc := h.2.1.1.2.2.1
  by_cases q : okE c k = true ∧ inB 8 b = true
  · rw [if_pos q, if_pos q]
    obtain ⟨n, hn, rfl⟩ := okE_of q.1 hc
    obtain ⟨i, hi, rfl, e2⟩ := in8 q.2
    simp only [nI_clamp (show n + 1 < 2 ^ 31 by omega), Nat.add_sub_cancel, e2]
    have E := (h.1.2.2.2 n hn).2 i hi
    rw [show 22 * n + i + 6 = 22 * n + 6 + i by omega, show 22 * n + i + 14 = 22 * n + 14 + i by omega, E.1, E.2]
  · rw [if_neg q, if_neg q]
theorem fo_ex (f : Nat → Int32) (v : Int32) : ∀ n, foI (fun i a => a ||| (if f i = v then 1 else 0)) 0 n = bI (exB (fun i => decide (f i = v)) n)
  | 0 => rfl
  | n + 1 => by
    rw [foI, exB, fo_ex f v n]
    by_cases g : f n = v
    · rw [if_pos g, decide_eq_true g, Bool.or_true]
      cases exB (fun i => decide (f i = v)) n <;> decide
    · rw [if_neg g, decide_eq_false g, Bool.or_false, or0]
theorem Gd.gBh (h : Gd x y c T) (k j : Int32) : bhC x c k j = bhR y c k j := by
  unfold bhC bhR
  have hc := h.2.1.1.2.2.1
  by_cases q : okE c k = true ∧ okE c j = true ∧ j < k
  · rw [if_pos q, if_pos q]
    obtain ⟨n, hn, rfl⟩ := okE_of q.1 hc
    obtain ⟨m, hm, rfl⟩ := okE_of q.2.1 hc
    simp only [nI_clamp (show n + 1 < 2 ^ 31 by omega), nI_clamp (show m + 1 < 2 ^ 31 by omega), Nat.add_sub_cancel]
    have E := h.1.2.2.2 n hn
    have F := h.1.2.2.2 m hm
    unfold bhX
    rw [fo_ex (fun i => rA y 3 (22 * n + 6 + i)) (nI (m + 1))]
    have e1 : exB (fun i => decide (rA y 3 (22 * n + 6 + i) = nI (m + 1))) 8 = hnB x n (nI (m + 1)) := by
      refine exB_cg (fun i hi => ?_)
      rw [(E.2 i hi).1]
      cases g : hasB (sI x (8 + n) 3) (nI i)
      · rw [if_neg (by decide), decide_eq_false (fun z => nI_m1 (by omega) z.symm)]; rfl
      · rw [if_pos rfl]; rfl
    rw [e1, ← E.1 4 (by decide), ← F.1 4 (by decide), ← F.1 3 (by decide)]
    by_cases g1 : sI x (8 + n) 4 &&& sI x (8 + m) 4 = 0
    · rw [if_pos g1, if_pos g1, or0]
      by_cases g2 : sI x (8 + n) 4 &&& sI x (8 + m) 3 = 0
      · rw [if_pos g2, if_pos g2, or0]
      · rw [if_neg g2, if_neg g2]
    · rw [if_neg g1, if_neg g1]
      by_cases g2 : sI x (8 + n) 4 &&& sI x (8 + m) 3 = 0
      · rw [if_pos g2, if_pos g2, or0]
      · rw [if_neg g2, if_neg g2]
  · rw [if_neg q, if_neg q]
theorem Gd.gCo (h : Gd x y c T) (w : Int32) : coC x w = cnR y w := by
  have h0 := h.1.1.1
  unfold coC cnR
  rw [h0.1, h.1.how 1, h.1.how 3, h.1.how 2, h0.2.2.2.2.1, h0.2.2.2.2.2.1, h0.2.2.2.2.2.2, h0.2.2.1, h0.2.1, h.1.2.1.2.1, h.1.av]
/-! the letters -/
theorem Gd.gWr (h : Gd x y c T) {t : Nat} (ht : rI y 23 = nI t) (v : Int32) : (wrC x t v).1 = (wrR y t v).1 ∧ Gd (wrC x t v).2 (wrR y t v).2 c T ∧ ∃ t', rI (wrR y t v).2 23 = nI t' ∧ t' ≤ t + 1 ∧ (t ≤ 200 → t' ≤ 200) := by
  unfold wrC wrR
  have e : inL v.toInt64 0 255 = true ↔ ¬ (v < 0 ∨ ¬ v ≤ 255) := inL_nn v 0 255
  by_cases q : v < 0 ∨ ¬ v ≤ 255
  · rw [if_pos q, if_neg (fun z => (e.mp z) q)]; exact ⟨rfl, h, t, ht, by omega, fun z => z⟩
  · rw [if_neg q, if_pos (e.mpr q)]
    by_cases g : t < 200
    · rw [if_pos g, if_pos g]
      refine ⟨rfl, ⟨h.1.tx (fun o k z => ?_) (fun o k z => ?_) (fun k z => ?_) (fun k z => ?_) ⟨?_, rfl, h.1.2.1.2.2⟩, h.2.1.tx (fun k z => ?_) (fun k z => ?_), h.2.2⟩, t + 1, rfl, by omega, fun _ => by omega⟩
      · rw [apC, sI_ne (by omega)]; rfl
      · rw [apC, sA_pI, sA_ne (by omega)]
      · exact rI_ne (by omega)
      · exact rA_ne (by omega)
      · show upd (sA x 1 0) t v = upd (rA y 22) t v
        rw [h.1.2.1.1]
      · exact rI_ne (by omega)
      · exact rA_ne (by omega)
    · rw [if_neg g, if_neg g]; exact ⟨rfl, h, t, ht, by omega, fun z => z⟩
theorem Gd.gEr (h : Gd x y c T) : Gd (pI x 1 1 0) (qI y 23 0) c T :=
  ⟨h.1.tx (fun o k z => sI_ne (by omega)) (fun o k z => rfl) (fun k z => rI_ne (by omega)) (fun k z => rfl) ⟨h.1.2.1.1, rfl, h.1.2.1.2.2⟩, h.2.1.tx (fun k z => rI_ne (by omega)) (fun k z => rfl), h.2.2⟩
end TV
