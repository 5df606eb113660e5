/-! ===== put, all anew, sweep, the text ===== -/
section TA
variable {x x' : Sg} {y y' : Rg} {c T : Nat}
theorem kwE_I {n i o k : Nat} {v : Int32} : sI (kwE x n i v) o k = if o = 8 + n then (if k = 5 then 4 else if k = 4 then bt (nI i) else if k = 3 then 0 else if k = 2 then 0 else if k = 1 then 0 else if k = 0 then -1 else sI x o k) else sI x o k := by
  simp only [kwE, sI_pA, sI_pI]
  by_cases h : o = 8 + n
  · simp only [h, true_and, if_true]
  · simp only [h, false_and, if_false]
theorem kwE_A {n i o k j : Nat} {v : Int32} : sA (kwE x n i v) o k j = if o = 8 + n ∧ k = 7 then (if j = i then v else sA x (8 + n) 7 j) else sA x o k j := by simp only [kwE, sA_u, sA_pI]
def ptZ (y : Rg) (c0 i : Nat) (v : Int32) : Rg :=
  let f := rA (lgN y c0 4) 3
  qA (qA (lgN y c0 4) 3 (upd f (22 * c0 + 4) (bt (nI i)))) 3 (upd (upd f (22 * c0 + 4) (bt (nI i))) (22 * c0 + 14 + i) v)
theorem ptY_eq (y : Rg) (c0 i : Nat) (v : Int32) : ptY y c0 i v = puR (ptZ y c0 i v) i v := rfl
theorem ptZ_o {c0 i k : Nat} {v : Int32} (hk : ¬ k = 3) : rA (ptZ y c0 i v) k = rA y k := by
  rw [ptZ, rA_ne hk, rA_ne hk]
  exact LG_o hk
theorem ptZ_3 {c0 i j : Nat} {v : Int32} : rA (ptZ y c0 i v) 3 j = if j = 22 * c0 + 14 + i then v else if j = 22 * c0 + 4 then bt (nI i) else rA (LG y c0 (-1) 0 0 0 0 4 (fun _ => -1) (fun _ => -1)) 3 j := rfl
theorem Rel.pt (h : Rel x y c) (hcs : c ≤ sN x) {i : Nat} (hi : i < 8) (v : Int32) : Rel (puS x c i v) (ptY y c i v) (c + 1) := by
  rw [ptY_eq]
  refine Rel.ch (x := kwE (nxS x c) c i v) ?_ i v
  refine h.en (v0 := 0) (v1 := 0) (v2 := 0) (v3 := 0) (v4 := 0) (w := 0) (ns := fun _ => 0) (wv := fun _ => 0) hcs (fun o k q => by rw [kwE_I, if_neg q]) (fun o k j q => by rw [kwE_A, if_neg (fun z => q z.1)]) (fun k hk => ptZ_o hk) (fun k => rfl) (fun j hj => ?_) ?_
  · rw [ptZ_3, if_neg (by omega), if_neg (by omega), LG_3, if_neg (by omega), if_neg (by omega), if_neg (by omega), if_neg (by omega), if_neg (by omega), if_neg (by omega), if_neg (by omega), if_neg (by omega)]
  · refine ⟨fun k hk => ?_, fun j hj => ⟨?_, ?_⟩⟩
    · rw [kwE_I, if_pos rfl, ptZ_3, if_neg (show ¬ 22 * c + k = 22 * c + 14 + i by omega), LG_3, if_neg (show ¬ (22 * c + 6 ≤ 22 * c + k ∧ 22 * c + k < 22 * c + 6 + 8) by omega), if_neg (show ¬ (22 * c + 14 ≤ 22 * c + k ∧ 22 * c + k < 22 * c + 14 + 8) by omega)]
      rcases (show k = 0 ∨ k = 1 ∨ k = 2 ∨ k = 3 ∨ k = 4 ∨ k = 5 by omega) with rfl | rfl | rfl | rfl | rfl | rfl <;> simp
    · rw [kwE_I, if_pos rfl, ptZ_3, if_neg (by omega), if_neg (by omega), LG_3, if_pos (by omega)]
      rw [if_neg (show ¬ (3 : Nat) = 5 by decide), if_neg (show ¬ (3 : Nat) = 4 by decide), if_pos rfl, hasB_0 (by omega)]
      rfl
    · have h4 : sI (kwE (nxS x c) c i v) (8 + c) 4 = bt (nI i) := by rw [kwE_I, if_pos rfl, if_neg (by decide), if_pos rfl]
      have h7 : sA (kwE (nxS x c) c i v) (8 + c) 7 j = if j = i then v else sA (nxS x c) (8 + c) 7 j := by rw [kwE_A, if_pos ⟨rfl, rfl⟩]
      rw [h4, h7, hasB_bt (by omega) (by omega), ptZ_3]
      by_cases e : j = i
      · subst e; simp
      · rw [if_neg (show ¬ 22 * c + 14 + j = 22 * c + 14 + i by omega), if_neg (show ¬ 22 * c + 14 + j = 22 * c + 4 by omega), LG_3, if_neg (by omega), if_pos (by omega), decide_eq_false e]; rfl
theorem Inv.pt (h : Inv y c T) (hc : c + 1 ≤ 512) {i : Nat} (hi : i < 8) (v : Int32) : Inv (ptY y c i v) (c + 1) T := by
  rw [ptY_eq]
  have e3 : ∀ j, rA (puR (ptZ y c i v) i v) 3 j = rA (ptZ y c i v) 3 j := fun j => by rw [puR, rA_ne (by decide), rA_ne (by decide)]
  refine h.cmt hc rfl rfl (fun k k1 k2 => ?_) (fun n hn => ?_) (fun j hj => ?_)
  · rw [puR, rA_ne (by omega), rA_ne (by omega), ptZ_o (by omega)]
  · rw [e3, ptZ_3, if_neg (by omega), if_neg (by omega), LG_3, if_neg (by omega), if_neg (by omega), if_neg (by omega), if_neg (by omega), if_neg (by omega), if_neg (by omega), if_neg (by omega), if_neg (by omega)]
  · have e4 : rA (puR (ptZ y c i v) i v) 3 (22 * c + 4) = bt (nI i) := by rw [e3, ptZ_3, if_neg (by omega), if_pos rfl]
    have e1 : rA (puR (ptZ y c i v) i v) 1 j = if j = i then nI (c + 1) else rA y 1 j := by
      rw [puR, rA_u, if_pos rfl, ptZ_o (by decide)]; rfl
    rw [e4, e1, hasB_bt (by omega) (by omega)]
    by_cases e : j = i
    · rw [if_pos e, if_pos (by rw [decide_eq_true e])]
    · rw [if_neg e, if_neg (by rw [decide_eq_false e]; decide)]
theorem pt_N {c0 i : Nat} {v : Int32} (h : c0 ≤ sN x) : c0 + 1 ≤ sN (puS x c0 i v) := nxS_N h
theorem foS_N {f : Sg → Nat → Sg} (hf : ∀ z i, sN (f z i) = sN z) (z : Sg) : ∀ n, sN (foS f z n) = sN z
  | 0 => rfl
  | n + 1 => by rw [foS, hf, foS_N hf z n]
theorem frD_N (x : Sg) (d : Nat) (b : Bool) : sN (frD x d b) = sN x := by cases b <;> rfl
theorem ke_N {c0 d : Nat} {w : Int32} (h : c0 ≤ sN x) : c0 + 1 ≤ sN (keS x c0 d w) := by
  rw [keS, frD_N, foS_N (fun z i => by rw [kpS]; split <;> rfl)]
  exact nxS_N h
/-! all anew -/
theorem Rel.frs (h : Rel x y c) : ∀ n, n ≤ 6 → Rel (foS (fun y d => frD y d false) x n) (foR (fun y d => frR y d false) y n) c
  | 0, _ => h
  | n + 1, hn => (Rel.frs h n (by omega)).fr (by omega) false
def anC (z : Sg) : Sg := pI (pI (pI (pI (pI (pI (pI z 0 5 0) 0 6 3) 0 7 0) 0 8 0) 0 9 0) 0 10 0) 0 11 0
def anD (z : Rg) : Rg := qI (qI (qI (qI (qI (qI (qI z 2 0) 16 3) 17 0) 18 0) 19 0) 20 0) 21 0
theorem anS_eq (x : Sg) : anS x = anC (foS (fun y d => frD y d false) (pA (pA x 0 1 (cpZ (sA x 0 1) 8)) 0 2 (cpZ (sA x 0 2) 8)) 6) := by unfold anS anC; rfl
theorem anR_eq (y : Rg) : anR y = anD (foR (fun y d => frR y d false) (qA (qA y 0 (cpZ (rA y 0) 8)) 1 (cpZ (rA y 1) 8)) 6) := by unfold anR anD; rfl
theorem Rel.anZ (h : Rel x y c) : Rel (anC x) (anD y) c := by
  refine h.i0 (fun o k q => ?_) (fun o k => rfl) (fun k => rfl) rfl ⟨⟨rfl, rfl, rfl, rfl, rfl, rfl, rfl⟩, h.1.2⟩
  unfold anC
  rw [sI_ne (by omega), sI_ne (by omega), sI_ne (by omega), sI_ne (by omega), sI_ne (by omega), sI_ne (by omega), sI_ne (by omega)]
theorem Rel.an (h : Rel x y c) : Rel (anS x) (anR y) 0 := by
  have h1 : Rel (pA (pA x 0 1 (cpZ (sA x 0 1) 8)) 0 2 (cpZ (sA x 0 2) 8)) (qA (qA y 0 (cpZ (rA y 0) 8)) 1 (cpZ (rA y 1) 8)) c := by
    have a1 : ∀ o k j, ¬ o = 0 → sA (pA (pA x 0 1 (cpZ (sA x 0 1) 8)) 0 2 (cpZ (sA x 0 2) 8)) o k j = sA x o k j := fun o k j q => by rw [sA_ne (by omega), sA_ne (by omega)]
    have a2 : ∀ k j, 2 ≤ k → rA (qA (qA y 0 (cpZ (rA y 0) 8)) 1 (cpZ (rA y 1) 8)) k j = rA y k j := fun k j q => by rw [rA_ne (by omega), rA_ne (by omega)]
    refine ⟨⟨h.1.1, ?_, ?_⟩, h.2.1, fun e he => ?_, fun n hn => ?_⟩
    · show cpZ (sA x 0 1) 8 = cpZ (rA y 0) 8
      rw [h.val]
    · show cpZ (sA x 0 2) 8 = cpZ (rA y 1) 8
      rw [h.stp]
    · exact (h.d he).cg (fun k _ => rfl) (fun k j _ _ => a1 _ _ _ (by omega)) (fun k _ _ _ => a2 _ _ (by omega)) (fun k i _ _ _ => a2 _ _ (by omega)) (fun v _ => a2 _ _ (by omega))
    · exact (h.2.2.2 n hn).cg (fun k => rfl) (fun k j => a1 _ _ _ (by omega)) (fun j _ => a2 _ _ (by decide))
  have h2 := h1.frs 6 (by decide)
  have h3 : Rel (anS x) (anR y) c := by
    rw [anS_eq, anR_eq]
    exact h2.anZ
  exact ⟨h3.1, h3.2.1, h3.2.2.1, fun n hn => by omega⟩
theorem fo_fr (y : Rg) (d : Nat) : ∀ n, d < n → rA (foR (fun y d => frR y d false) y n) 4 d = 0 ∧ rA (foR (fun y d => frR y d false) y n) 5 d = 0 ∧ rA (foR (fun y d => frR y d false) y n) 8 d = 0 ∧ rA (foR (fun y d => frR y d false) y n) 9 d = 0 ∧ rA (foR (fun y d => frR y d false) y n) 10 d = 0
  | 0, h => by omega
  | n + 1, h => by
    rw [foR]
    by_cases e : d = n
    · subst e; simp [frR, rA_u, bI]
    · rw [frR_o (by omega), frR_o (by omega), frR_o (by omega), frR_o (by omega), frR_o (by omega)]
      exact fo_fr y d n (by omega)
theorem fo_3 (y : Rg) (k : Nat) (hk : k < 4) : ∀ n, rA (foR (fun y d => frR y d false) y n) k = rA y k
  | 0 => rfl
  | n + 1 => by rw [foR, frR_3 _ _ _ _ (by omega)]; exact fo_3 y k hk n
theorem Inv.an (y : Rg) : Inv (anR y) 0 0 := by
  have e0 : ∀ (z : Rg) k, rA (anD z) k = rA z k := fun _ _ => rfl
  have e : ∀ k, rA (anR y) k = rA (foR (fun y d => frR y d false) (qA (qA y 0 (cpZ (rA y 0) 8)) 1 (cpZ (rA y 1) 8)) 6) k := fun k => by rw [anR_eq, e0]
  have e2 : ∀ z : Rg, rI (anD z) 2 = nI 0 ∧ rI (anD z) 17 = nI 0 := fun _ => ⟨rfl, rfl⟩
  refine ⟨⟨by rw [anR_eq]; exact (e2 _).1, by rw [anR_eq]; exact (e2 _).2, by decide, by decide⟩, fun d hd => ?_, fun i hi => ?_, fun d f hd hf _ z => ?_⟩
  · obtain ⟨a, b, g, p, q⟩ := fo_fr (qA (qA y 0 (cpZ (rA y 0) 8)) 1 (cpZ (rA y 1) 8)) d 6 hd
    refine ⟨Or.inl ?_, fun _ => ⟨?_, ?_⟩, fun z => ?_, ⟨0, Nat.le_refl _, ?_, fun i hi hb => ?_⟩, ⟨⟨0, by decide, ?_⟩, 0, by decide, ?_⟩, fun z => ?_⟩
    · rw [e]; exact a
    · rw [e]; exact p
    · rw [e]; exact q
    · rw [e] at z; exact absurd g z
    · rw [e]; exact b
    · rw [e, p, hasB_0 (by omega)] at hb; cases hb
    · rw [e]; exact p
    · rw [e]; exact q
    · rw [e, a] at z; exact absurd z (by decide)
  · refine ⟨0, Nat.le_refl _, ?_, Or.inl rfl, fun n _ h => by omega⟩
    rw [e, fo_3 _ _ (by decide), rA_eq, cpZ, cpF, if_pos hi]; rfl
  · rw [e, (fo_fr _ d 6 hd).1] at z; exact absurd z (by decide)
theorem anC_N (z : Sg) : sN (anC z) = sN z := rfl
theorem an_N (x : Sg) : sN (anS x) = sN x := by
  rw [anS_eq, anC_N, foS_N (fun z i => frD_N z i false)]; rfl
/-! sweep -/
theorem sw_sim (h : Rel x y c) (hI : Inv y c T) : ∀ n, n ≤ 6 → Rel (swF x n).1 (swR y n).1 c ∧ Inv (swR y n).1 c T ∧ (swF x n).2 = (swR y n).2 ∧ sN (swF x n).1 = sN x
  | 0, _ => ⟨h, hI, rfl, rfl⟩
  | n + 1, hn => by
    obtain ⟨a, b, e, f⟩ := sw_sim h hI n (by omega)
    rw [swF, swR, a.st (by omega), a.stlE (by omega)]
    by_cases q : rA (swR y n).1 4 n = 1 ∧ ¬ slR (swR y n).1 n = 0
    · rw [if_pos q, if_pos q]
      exact ⟨a.lo (by omega) (by decide) (by decide), b.fa (by omega) 0, by rw [e], by rw [lo_N]; exact f⟩
    · rw [if_neg q, if_neg q]; exact ⟨a, b, e, f⟩
/-! the text -/
theorem Rel.tx (h : Rel x y c) (hI : ∀ o k, ¬ o = 1 → sI x' o k = sI x o k) (hA : ∀ o k, ¬ o = 1 → sA x' o k = sA x o k) (hr : ∀ k, k < 22 → rI y' k = rI y k) (hy : ∀ k, k ≤ 15 → rA y' k = rA y k) (hT : RT x' y') : Rel x' y' c := by
  refine ⟨?_, hT, fun e he => ?_, fun n hn => ?_⟩
  · simp only [R0, hI 0 _ (by decide), hA 0 _ (by decide), hr 2 (by decide), hr 16 (by decide), hr 18 (by decide), hr 17 (by decide), hr 19 (by decide), hr 20 (by decide), hr 21 (by decide), hy 0 (by decide), hy 1 (by decide)]; exact h.1
  · exact (h.d he).cg (fun k _ => hI _ _ (by omega)) (fun k j _ _ => by rw [hA _ _ (by omega)]) (fun k _ _ _ => by rw [hy k (by omega)]) (fun k i _ _ _ => by rw [hy k (by omega)]) (fun v _ => by rw [hy 15 (by decide)])
  · exact (h.2.2.2 n hn).cg (fun k => hI _ _ (by omega)) (fun k j => by rw [hA _ _ (by omega)]) (fun j _ => by rw [hy 3 (by decide)])
theorem Inv.tx (h : Inv y c T) (hr : ∀ k, k < 22 → rI y' k = rI y k) (hy : ∀ k, k ≤ 15 → rA y' k = rA y k) : Inv y' c T := by
  refine ⟨by rw [hr 2 (by decide), hr 17 (by decide)]; exact h.1, fun e he => (h.2.1 e he).cg (fun k _ _ _ => by rw [hy k (by omega)]) (fun i _ => by rw [hy 1 (by decide)]) (fun i _ => by rw [hy 12 (by decide)]), fun i hi => ?_, ?_⟩
  · unfold SI'; rw [hy 1 (by decide), hy 3 (by decide)]; exact h.2.2.1 i hi
  · unfold TD; rw [hy 4 (by decide), hy 14 (by decide)]; exact h.2.2.2
end TA
