/-! ===== every call, on both: the same answer, and they go on alike ===== -/
def Al (x : Sg) (y : Rg) (k : Nat) : Prop := ∃ c T t, Gd x y c T ∧ rI y 23 = nI t ∧ t ≤ 200 ∧ c + t ≤ k ∧ T ≤ 24 * k
def Duo (l : Launch) (G : Cx) (g : Nat → Nat → Nat) (h : Nat → Nat) (yC : MethodName) (coC : ByteArray) (nC : Nat) (rmC : Room) (yR : MethodName) (coR : ByteArray) (nR : Nat) (rmR : Room) (As : List Value) (x : Sg) (y : Rg) (k : Nat) : Prop :=
  ∃ (pC : Int32 → Sg → Prop) (pR : Int32 → Rg → Prop), Ci l G yC coC nC .int rmC (cw G g) (.ref (g 0 0) :: As) x pC ∧ Ci l G yR coR nR .int rmR (rw' G h) (.ref (h 0) :: As) y pR ∧ ∀ r u r' w, pC r u → pR r' w → r = r' ∧ Al u w (k + 1)
section DU
variable {x : Sg} {y : Rg} {c T t k : Nat}
theorem Gd.hS (h : Gd x y c T) : ∀ d, d < 6 → rA y 5 d = nI ((rA y 5 d).toNatClampNeg) ∧ (rA y 5 d).toNatClampNeg ≤ c := fun d hd => by
  obtain ⟨s, s1, s2, -⟩ := (h.2.1.2.1 d hd).2.2.2.1
  have hc := h.2.1.1.2.2.1
  rw [s2, nI_clamp (by omega)]; exact ⟨rfl, s1⟩
theorem Gd.same (h : Gd x y c T) (ht : rI y 23 = nI t) (ht2 : t ≤ 200) (h1 : c + t ≤ k) (h2 : T ≤ 24 * k) {a b r r' : Int32} {u : Sg} {w : Rg} (e : a = b) (p : r = a ∧ u = x) (q : r' = b ∧ w = y) : r = r' ∧ Al u w (k + 1) := by
  obtain ⟨rfl, rfl⟩ := p
  obtain ⟨rfl, rfl⟩ := q
  exact ⟨e, c, T, t, h, ht, ht2, by omega, by omega⟩
theorem Sm.al {p : Int32 × Sg} {q : Int32 × Rg} (s : Sm y c T p q) (ht : rI y 23 = nI t) (ht2 : t ≤ 200) (h1 : c + t ≤ k) (h2 : T ≤ 24 * k) {r r' : Int32} {u : Sg} {w : Rg} (e : r = p.1 ∧ ∃ ad, u = wA ad p.2) (f : r' = q.1 ∧ w = q.2) : r = r' ∧ Al u w (k + 1) := by
  obtain ⟨s1, s2, c', T', s3, s4, s5⟩ := s
  obtain ⟨rfl, ad, rfl⟩ := e
  obtain ⟨rfl, rfl⟩ := f
  exact ⟨s1, c', T', t, s5.w ad, s2.trans ht, ht2, by omega, by omega⟩
theorem sw_al {u2 : Sg × Nat} {v2 : Rg × Nat} (s : Sm y c T (nI u2.2, u2.1) (nI v2.2, v2.1)) (ht : rI y 23 = nI t) (ht2 : t ≤ 200) (h1 : c + t ≤ k) (h2 : T ≤ 24 * k) {r r' : Int32} {u : Sg} {w : Rg} (p : r = nI u2.2 ∧ u = u2.1) (q : r' = nI v2.2 ∧ w = v2.1) : r = r' ∧ Al u w (k + 1) :=
  s.al ht ht2 h1 h2 ⟨p.1, u2.1.1, p.2⟩ q
theorem wA_me {r v : Int32} {u z : Sg} (e : r = v ∧ u = z) : r = v ∧ ∃ ad, u = wA ad z := ⟨e.1, z.1, e.2⟩
end DU
section DV
variable (l : Launch) (G : Cx) (g : Nat → Nat → Nat) (h : Nat → Nat) {x : Sg} {y : Rg} {k : Nat} (hk : k ≤ 511) (H : Al x y k)
theorem duo_write (a : Int32) (H : Al x y k) : Duo l G g h yX3_write cX3_write 2 (Rm 1 21) yX4_write cX4_write 2 (Rm 1 25) [.int a] x y k := by
  obtain ⟨c, T, t, hG, ht, ht2, h1, h2⟩ := H
  refine ⟨_, _, kX3_write l G g x t (hG.1.2.1.2.1.trans ht) ht2 a, kX4_write l G h y t ht ht2 a, fun r u r' w p q => ?_⟩
  obtain ⟨rfl, rfl⟩ := p
  obtain ⟨rfl, rfl⟩ := q
  obtain ⟨e, g', t', a1, a2, a3⟩ := hG.gWr ht a
  exact ⟨e, c, T, t', g', a1, a3 ht2, by omega, by omega⟩
theorem duo_erase (H : Al x y k) : Duo l G g h yX3_erase cX3_erase 2 (Rm 0 0) yX4_erase cX4_erase 2 (Rm 0 0) [] x y k := by
  obtain ⟨c, T, t, hG, ht, ht2, h1, h2⟩ := H
  refine ⟨_, _, kX3_erase l G g x, kX4_erase l G h y, fun r u r' w p q => ?_⟩
  obtain ⟨rfl, rfl⟩ := p
  obtain ⟨rfl, rfl⟩ := q
  exact ⟨hG.1.2.1.2.1, c, T, 0, hG.gEr, rfl, by omega, by omega, by omega⟩
theorem duo_item (a w : Int32) (H : Al x y k) : Duo l G g h yX3_item cX3_item 3 (Rm 1 20) yX4_item cX4_item 3 (Rm 2 45) [.int a, .int w] x y k := by
  obtain ⟨c, T, t, hG, ht, ht2, h1, h2⟩ := H
  exact ⟨_, _, kX3_item l G g x a w, kX4_item l G h y a w, fun r u r' w' p q => hG.same ht ht2 h1 h2 (hG.gIt a w) p q⟩
theorem duo_put (a v : Int32) (hk : k ≤ 511) (H : Al x y k) : Duo l G g h yX3_put cX3_put 3 ({ frames := 3, cells := 3, slots := 24, locals := 53 } : Room) yX4_put cX4_put 4 (Rm 2 45) [.int a, .int v] x y k := by
  obtain ⟨c, T, t, hG, ht, ht2, h1, h2⟩ := H
  exact ⟨_, _, kX3_put l G g x c hG.c5 hG.2.2 (by omega) a v, kX4_put l G h y c hG.2.1.1.1 (by omega) a v, fun r u r' w' p q => (hG.gPu (by omega) a v).al ht ht2 h1 h2 p q⟩
theorem duo_limit (n : Int32) (H : Al x y k) : Duo l G g h yX3_limit cX3_limit 3 (Rm 0 0) yX4_limit cX4_limit 3 (Rm 1 25) [.int n] x y k := by
  obtain ⟨c, T, t, hG, ht, ht2, h1, h2⟩ := H
  exact ⟨_, _, kX3_limit l G g x n, kX4_limit l G h y n, fun r u r' w' p q => (hG.gLi n).al ht ht2 h1 h2 (wA_me p) q⟩
theorem duo_begin (a : Int32) (H : Al x y k) : Duo l G g h yX3_begin cX3_begin 3 (Rm 1 23) yX4_begin cX4_begin 2 (Rm 2 45) [.int a] x y k := by
  obtain ⟨c, T, t, hG, ht, ht2, h1, h2⟩ := H
  exact ⟨_, _, kX3_begin l G g x a, kX4_begin l G h y a, fun r u r' w' p q => (hG.gBe a).al ht ht2 h1 h2 (wA_me p) q⟩
theorem duo_retry (a : Int32) (H : Al x y k) : Duo l G g h yX3_retry cX3_retry 3 (Rm 1 23) yX4_retry cX4_retry 2 (Rm 2 45) [.int a] x y k := by
  obtain ⟨c, T, t, hG, ht, ht2, h1, h2⟩ := H
  exact ⟨_, _, kX3_retry l G g x a, kX4_retry l G h y a, fun r u r' w' p q => (hG.gRe a).al ht ht2 h1 h2 (wA_me p) q⟩
theorem duo_read (a b : Int32) (H : Al x y k) : Duo l G g h yX3_read cX3_read 4 (Rm 2 43) yX4_read cX4_read 4 (Rm 2 45) [.int a, .int b] x y k := by
  obtain ⟨c, T, t, hG, ht, ht2, h1, h2⟩ := H
  exact ⟨_, _, kX3_read l G g x a b, kX4_read l G h y a b, fun r u r' w' p q => (hG.gRd a b).al ht ht2 h1 h2 (wA_me p) q⟩
theorem duo_lay (a b v : Int32) (H : Al x y k) : Duo l G g h yX3_lay cX3_lay 5 (Rm 1 20) yX4_lay cX4_lay 4 (Rm 2 45) [.int a, .int b, .int v] x y k := by
  obtain ⟨c, T, t, hG, ht, ht2, h1, h2⟩ := H
  exact ⟨_, _, kX3_lay l G g x a b v, kX4_lay l G h y a b v, fun r u r' w' p q => (hG.gLa a b v).al ht ht2 h1 h2 (wA_me p) q⟩
theorem duo_commit (a w : Int32) (hk : k ≤ 511) (H : Al x y k) : Duo l G g h yX3_commit cX3_commit 5 ({ frames := 4, cells := 3, slots := 24, locals := 94 } : Room) yX4_commit cX4_commit 7 (Rm 3 69) [.int a, .int w] x y k := by
  obtain ⟨c, T, t, hG, ht, ht2, h1, h2⟩ := H
  exact ⟨_, _, kX3_commit l G g x c hG.c5 hG.2.2 (by omega) hG.1.num a w, kX4_commit l G h y c hG.2.1.1.1 (by omega) hG.hS a w, fun r u r' w' p q => (hG.gCm (by omega) a w).al ht ht2 h1 h2 p q⟩
theorem duo_peek (a w : Int32) (hk : k ≤ 511) (H : Al x y k) : Duo l G g h yX3_peek cX3_peek 3 (Rm 4 94) yX4_peek cX4_peek 5 (Rm 3 69) [.int a, .int w] x y k := by
  obtain ⟨c, T, t, hG, ht, ht2, h1, h2⟩ := H
  exact ⟨_, _, kX3_peek l G g x hG.1.num a w, kX4_peek l G h y c hG.2.1.1.1 (by omega) hG.hS a w, fun r u r' w' p q => hG.same ht ht2 h1 h2 (hG.gPe (by omega) a w) p q⟩
theorem duo_abort (a : Int32) (H : Al x y k) : Duo l G g h yX3_abort cX3_abort 3 (Rm 2 43) yX4_abort cX4_abort 2 (Rm 2 45) [.int a] x y k := by
  obtain ⟨c, T, t, hG, ht, ht2, h1, h2⟩ := H
  exact ⟨_, _, kX3_abort l G g x a, kX4_abort l G h y a, fun r u r' w' p q => (hG.gAb a).al ht ht2 h1 h2 (wA_me p) q⟩
theorem duo_sweep (H : Al x y k) : Duo l G g h yX3_sweep cX3_sweep 6 (Rm 3 64) yX4_sweep cX4_sweep 3 (Rm 2 44) [] x y k := by
  obtain ⟨c, T, t, hG, ht, ht2, h1, h2⟩ := H
  exact ⟨_, _, kX3_sweep l G g x, kX4_sweep l G h y, fun r u r' w' p q => sw_al (u2 := swF x 6) (v2 := swR y 6) hG.gSw ht ht2 h1 h2 p q⟩
theorem duo_send (a : Int32) (hk : k ≤ 511) (H : Al x y k) : Duo l G g h yX3_send cX3_send 3 (Rm 1 22) yX4_send cX4_send 2 (Rm 2 45) [.int a] x y k := by
  obtain ⟨c, T, t, hG, ht, ht2, h1, h2⟩ := H
  exact ⟨_, _, kX3_send l G g x a, kX4_send l G h y a, fun r u r' w' p q => (hG.gSn (by omega) a).al ht ht2 h1 h2 (wA_me p) q⟩
theorem duo_vote (v : Int32) (H : Al x y k) : Duo l G g h yX3_vote cX3_vote 4 (Rm 4 87) yX4_vote cX4_vote 6 (Rm 2 44) [.int v] x y k := by
  obtain ⟨c, T, t, hG, ht, ht2, h1, h2⟩ := H
  exact ⟨_, _, kX3_vote l G g x hG.1.num v, kX4_vote l G h y v, fun r u r' w' p q => (hG.gVo v).al ht ht2 h1 h2 (wA_me p) q⟩
theorem duo_settle (hk : k ≤ 511) (H : Al x y k) : Duo l G g h yX3_settle cX3_settle 3 ({ frames := 4, cells := 3, slots := 24, locals := 76 } : Room) yX4_settle cX4_settle 3 (Rm 3 68) [] x y k := by
  obtain ⟨c, T, t, hG, ht, ht2, h1, h2⟩ := H
  exact ⟨_, _, kX3_settle l G g x c hG.c5 hG.2.2 (by omega) hG.1.num, kX4_settle l G h y c hG.2.1.1.1 (by omega), fun r u r' w' p q => (hG.gZe (by omega)).al ht ht2 h1 h2 p q⟩
theorem duo_deal (a w : Int32) (hk : k ≤ 511) (H : Al x y k) : Duo l G g h yX3_deal cX3_deal 4 (Rm 3 64) yX4_deal cX4_deal 3 (Rm 2 45) [.int a, .int w] x y k := by
  obtain ⟨c, T, t, hG, ht, ht2, h1, h2⟩ := H
  exact ⟨_, _, kX3_deal l G g x hG.1.num a w, kX4_deal l G h y c hG.2.1.1.1 (by omega) hG.hS a w, fun r u r' w' p q => hG.same ht ht2 h1 h2 (hG.gDe a w) p q⟩
theorem duo_noted (a b w : Int32) (H : Al x y k) : Duo l G g h yX3_noted cX3_noted 5 (Rm 2 41) yX4_noted cX4_noted 5 (Rm 2 45) [.int a, .int b, .int w] x y k := by
  obtain ⟨c, T, t, hG, ht, ht2, h1, h2⟩ := H
  exact ⟨_, _, kX3_noted l G g x a b w, kX4_noted l G h y a b w, fun r u r' w' p q => hG.same ht ht2 h1 h2 (hG.gNt a b w) p q⟩
theorem duo_sent (n : Int32) (H : Al x y k) : Duo l G g h yX3_sent cX3_sent 3 (Rm 2 51) yX4_sent cX4_sent 5 (Rm 0 0) [.int n] x y k := by
  obtain ⟨c, T, t, hG, ht, ht2, h1, h2⟩ := H
  exact ⟨_, _, kX3_sent l G g x hG.1.num n, kX4_sent l G h y n, fun r u r' w' p q => hG.same ht ht2 h1 h2 (hG.gSe n) p q⟩
theorem duo_ballot (v a : Int32) (H : Al x y k) : Duo l G g h yX3_ballot cX3_ballot 4 (Rm 1 20) yX4_ballot cX4_ballot 3 (Rm 2 45) [.int v, .int a] x y k := by
  obtain ⟨c, T, t, hG, ht, ht2, h1, h2⟩ := H
  exact ⟨_, _, kX3_ballot l G g x v a, kX4_ballot l G h y v a, fun r u r' w' p q => hG.same ht ht2 h1 h2 (hG.gBa v a) p q⟩
theorem duo_log (n w : Int32) (hk : k ≤ 511) (H : Al x y k) : Duo l G g h yX3_log cX3_log 4 (Rm 1 21) yX4_log cX4_log 3 (Rm 2 46) [.int n, .int w] x y k := by
  obtain ⟨c, T, t, hG, ht, ht2, h1, h2⟩ := H
  exact ⟨_, _, kX3_log l G g x c hG.c5 hG.2.2 (by omega) n w, kX4_log l G h y c hG.2.1.1.1 (by omega) n w, fun r u r' w' p q => hG.same ht ht2 h1 h2 (hG.gLo n w) p q⟩
theorem duo_logged (n b w : Int32) (hk : k ≤ 511) (H : Al x y k) : Duo l G g h yX3_logged cX3_logged 5 (Rm 2 41) yX4_logged cX4_logged 5 (Rm 2 46) [.int n, .int b, .int w] x y k := by
  obtain ⟨c, T, t, hG, ht, ht2, h1, h2⟩ := H
  exact ⟨_, _, kX3_logged l G g x c hG.c5 hG.2.2 (by omega) n b w, kX4_logged l G h y c hG.2.1.1.1 (by omega) n b w, fun r u r' w' p q => hG.same ht ht2 h1 h2 (hG.gLd n b w) p q⟩
theorem duo_behind (n j : Int32) (hk : k ≤ 511) (H : Al x y k) : Duo l G g h yX3_behind cX3_behind 6 (Rm 3 63) yX4_behind cX4_behind 7 (Rm 2 46) [.int n, .int j] x y k := by
  obtain ⟨c, T, t, hG, ht, ht2, h1, h2⟩ := H
  exact ⟨_, _, kX3_behind l G g x c hG.c5 hG.2.2 (by omega) n j, kX4_behind l G h y c hG.2.1.1.1 (by omega) n j, fun r u r' w' p q => hG.same ht ht2 h1 h2 (hG.gBh n j) p q⟩
theorem duo_count (w : Int32) (H : Al x y k) : Duo l G g h yX3_count cX3_count 2 (Rm 1 26) yX4_count cX4_count 2 (Rm 1 23) [.int w] x y k := by
  obtain ⟨c, T, t, hG, ht, ht2, h1, h2⟩ := H
  exact ⟨_, _, kX3_count l G g x w, kX4_count l G h y w, fun r u r' w' p q => hG.same ht ht2 h1 h2 (hG.gCo w) p q⟩
/-! the text -/
theorem sk_p {L : Nat → Int32} {t : Nat} : ∀ m n z, z ≤ t → (sk L t m n z).2.1 ≤ t
  | 0, n, z, hz => hz
  | m + 1, n, z, hz => by
    have h2 := clT_t (L := L) hz
    rw [sk]
    split
    · split
      · exact h2
      · split
        · exact sk_p m (n + 1) _ (nxK_t' h2)
        · exact h2
    · exact h2
theorem Px.p6 (y : Sg) (n : Nat) (v : Int32) : Px y (pI y 1 6 v) n := ⟨fun o k q => sI_ne (by omega), fun _ _ _ => rfl, fun _ _ => rfl, fun _ _ => rfl, rfl⟩
theorem pa_all (x : Sg) (t : Nat) : (paC x t).1 = (if (sk (sA x 1 0) t 24 0 (tkS (sA x 1 0) t 0)).1 = true then -1 else nI (sk (sA x 1 0) t 24 0 (tkS (sA x 1 0) t 0)).2.1) ∧ sI (paC x t).2 1 4 = nI (sk (sA x 1 0) t 24 0 (tkS (sA x 1 0) t 0)).2.2 ∧ Px x (paC x t).2 0 ∧ RW (sA x 1 0) t (paC x t).2 24 0 (tkS (sA x 1 0) t 0) := by
  have P0 : Px x (paS x t 0).2 0 := ((Px.p4 x 0 0).tr (Px.p6 _ 0 0) (Nat.le_refl _)).tr (Px.st _ 0 _ _) (Nat.le_refl _)
  have h4 : sI (paS x t 0).2 1 4 = nI 0 := (stT_I _ _ _ _ _ (by decide)).trans ((sI_ne (by decide)).trans sI_eq)
  have q := pa_sim (sA x 1 0) t 24 0 (tkS (sA x 1 0) t 0) (paS x t 0).2 rfl (paS_L x t 0) h4
  exact ⟨q.1, q.2.1, P0.tr q.2.2.1 (Nat.le_refl _), q.2.2.2⟩
theorem rs_k (y : Rg) (L : Nat → Int32) (t : Nat) (b : Bool) : (∀ k, k < 24 → rI (rsS y L t b 0).2 k = rI y k) ∧ ∀ k, rA (rsS y L t b 0).2 k = rA y k := by
  refine ⟨fun k hk => ?_, fun k => rfl⟩
  show rI (nxR (qI (qI (qI y 27 (bI b)) 25 0) 26 1) L t (tkS L t 0)) k = _
  rw [nxR, rI_ne (by omega), rI_ne (by omega), rI_ne (by omega), rI_ne (by omega), rI_ne (by omega)]
theorem ra_all {y : Rg} {L : Nat → Int32} {t : Nat} (hB : TB y L t) : (raC y L t false).1 = (sk L t 24 0 (tkS L t 0)).1 ∧ rI (raC y L t false).2 24 = nI (sk L t 24 0 (tkS L t 0)).2.1 ∧ (∀ k, k < 24 → rI (raC y L t false).2 k = rI y k) ∧ ∀ k, ¬ k = 28 → rA (raC y L t false).2 k = rA y k := by
  have q := ra_sim L t 24 0 (tkS L t 0) (rsS y L t false 0).2 rfl (rsS_tk hB false 0)
  have s := rs_k y L t false
  exact ⟨q.1, q.2.1, fun k hk => (q.2.2.1.1 k (Or.inl hk)).trans (s.1 k hk), fun k hk => (q.2.2.1.2 k hk).trans (s.2 k)⟩
theorem duo_fault (hk : k ≤ 511) (H : Al x y k) : Duo l G g h yX3_fault cX3_fault 1 (Rm 8 174) yX4_fault cX4_fault 1 (Rm 7 156) [] x y k := by
  obtain ⟨c, T, t, hG, ht, ht2, h1, h2⟩ := H
  have hB : TB y (sA x 1 0) t := ⟨ht, hG.1.2.1.1.symm, hG.1.2.1.2.2⟩
  have P := pa_all x t
  have R := ra_all hB
  have hc := hG.2.1.1.2.2.1
  refine ⟨_, _, kX3_fault l G g x t (hG.1.2.1.2.1.trans ht) ht2, kX4_fault l G h y (sA x 1 0) t ht2 hB (fun n _ => ?_), fun r u r' w p q => ?_⟩
  · have e : rI (rsS y (sA x 1 0) t false n).2 2 = nI c := (rs_f y (sA x 1 0) t n).trans hG.2.1.1.1
    rw [cR, e, nI_clamp (by omega)]; exact ⟨rfl, hc⟩
  · obtain ⟨rfl, rfl⟩ := p
    obtain ⟨rfl, rfl⟩ := q
    refine ⟨?_, c, T, t, (hG.px P.2.2.1).ty R.2.2.1 R.2.2.2, (R.2.2.1 23 (by decide)).trans ht, ht2, by omega, by omega⟩
    rw [P.1, R.1, R.2.1]
theorem duo_tell (hk : k ≤ 511) (H : Al x y k) : Duo l G g h yX3_tell cX3_tell 3 ({ frames := 8, cells := 72, slots := 576, locals := 174 } : Room) yX4_tell cX4_tell 1 (Rm 7 156) [] x y k := by
  obtain ⟨c, T, t, hG, ht, ht2, h1, h2⟩ := H
  have hB : TB y (sA x 1 0) t := ⟨ht, hG.1.2.1.1.symm, hG.1.2.1.2.2⟩
  have P := pa_all x t
  have R := ra_all hB
  have hc := hG.2.1.1.2.2.1
  have hz := tkS_b (L := sA x 1 0) (t := t) (b := 0) (Nat.zero_le _)
  have hn := sk_n (L := sA x 1 0) ht2 24 0 (tkS (sA x 1 0) t 0) hz.2
  have hp := sk_p (L := sA x 1 0) 24 0 (tkS (sA x 1 0) t 0) hz.2
  have hB1 : TB (raC y (sA x 1 0) t false).2 (sA x 1 0) t := ⟨(R.2.2.1 23 (by decide)).trans ht, (R.2.2.2 22 (by decide)).trans hB.2.1, (R.2.2.2 29 (by decide)).trans hB.2.2⟩
  have G0 : Gd (paC x t).2 y c T := hG.px P.2.2.1
  have G1 : Gd (paC x t).2 (raC y (sA x 1 0) t false).2 c T := G0.ty R.2.2.1 R.2.2.2
  generalize hL : sA x 1 0 = L at *
  generalize hS : sk L t 24 0 (tkS L t 0) = S at *
  refine ⟨_, _, kX3_tell l G g x t (hG.1.2.1.2.1.trans ht) ht2 (paC x t).2 rfl S.2.2 P.2.1 (by omega) (fun i hi => ?_), kX4_tell l G h y L t ht2 hB (fun n _ => ?_) hB1 (fun n _ => ?_), fun r u r' w p q => ?_⟩
  · obtain ⟨w, c', T', e1, e2, e3⟩ := Gd.te G0 (N := S.2.2) (by omega) (by omega) i (by omega)
    rw [e1.c5, nI_clamp (by omega)]
    exact ⟨rfl, e1.2.2, by omega⟩
  · have e : rI (rsS y L t false n).2 2 = nI c := (rs_f y L t n).trans hG.2.1.1.1
    rw [cR, e, nI_clamp (by omega)]; exact ⟨rfl, hc⟩
  · obtain ⟨c', e, e2⟩ := rs_t (raC y L t false).2 L t ht2 ((R.2.2.1 2 (by decide)).trans hG.2.1.1.1) (by omega) n
    have e3 := rsS_t (raC y L t false).2 L t true n
    rw [cR, e, nI_clamp (by omega)]; exact ⟨rfl, by omega⟩
  · obtain ⟨p1, p2⟩ := p
    obtain ⟨q1, q2⟩ := q
    rw [R.1] at q1 q2
    by_cases s : S.1 = true
    · rw [if_pos s] at q1 q2
      have s0 : (paC x t).1 = -1 := by rw [P.1, if_pos s]
      obtain ⟨r1, ad, r2⟩ := p1 s0
      have K := rs_k (raC y L t false).2 L t true
      have TS := te_sim L t ht2 (paC x t).2 24 0 (tkS L t 0) (rsS (raC y L t false).2 L t true 0).2 c T rfl hz.2 (rsS_tk hB1 true 0) (G1.ty K.1 (fun k _ => K.2 k)) (by omega) (by omega) P.2.2.2 (by rw [hS]; exact s)
      rw [hS] at TS
      obtain ⟨c', T', t1, t2, t3, t4⟩ := TS
      refine ⟨?_, c', T', 0, ?_, ?_, by omega, by omega, by omega⟩
      · rw [r1, q1]; exact t2.symm
      · rw [r2, q2]; exact t1.gEr.w ad
      · rw [q2]; rfl
    · rw [if_neg s] at q1 q2
      have s0 : ¬ (paC x t).1 = -1 := by rw [P.1, if_neg s]; exact nI_m1 (by omega)
      obtain ⟨r1, r2⟩ := p2 s0
      refine ⟨by rw [r1, q1], c, T, t, ?_, ?_, ht2, by omega, by omega⟩
      · rw [r2, q2]; exact G1
      · rw [q2]; exact (R.2.2.1 23 (by decide)).trans ht
end DV
/-! the start -/
theorem foS_Ao {f : Sg → Nat → Sg} (o k : Nat) (hf : ∀ z i, sA (f z i) o k = sA z o k) (z : Sg) : ∀ n, sA (foS f z n) o k = sA z o k
  | 0 => rfl
  | n + 1 => by rw [foS, hf, foS_Ao o k hf z n]
theorem an0_A (k : Nat) (hk : k = 1 ∨ k = 2) : sA (anS x0C) 0 k = fun _ => 0 := by
  rw [anS_eq, anC_A, foS_Ao 0 k (fun z i => frD_A z i false 0 k)]
  funext j
  rcases hk with rfl | rfl
  · rw [sA_ne (by decide), sA_eq, cpZ, cpF]
    split <;> rfl
  · rw [sA_eq, cpZ, cpF]
    split <;> rfl
theorem rel0 : Rel (anS x0C) x0R 0 := by
  refine ⟨⟨?_, ?_⟩, ⟨?_, ?_, rfl⟩, ?_, fun n hn => absurd hn (Nat.not_lt_zero n)⟩
  · decide +kernel
  · exact ⟨an0_A 1 (Or.inl rfl), an0_A 2 (Or.inr rfl)⟩
  · rw [an_1]; rfl
  · decide +kernel
  · unfold DR
    decide +kernel
theorem inv0 : Inv x0R 0 0 := by
  have z : ∀ k j, ¬ k = 29 → rA x0R k j = 0 := fun k j hk => by
    show (if k = 29 then wdT else fun _ => 0) j = 0
    rw [if_neg hk]
  refine ⟨⟨rfl, rfl, by decide, by decide⟩, fun d hd => ⟨Or.inl (z _ _ (by decide)), fun _ => ⟨z _ _ (by decide), z _ _ (by decide)⟩, fun q => absurd (z _ _ (by decide)) q, ⟨0, Nat.le_refl _, z _ _ (by decide), fun i hi q => ?_⟩, ⟨⟨0, by decide, z _ _ (by decide)⟩, 0, by decide, z _ _ (by decide)⟩, fun q => ?_⟩, fun i hi => ⟨0, Nat.le_refl _, z _ _ (by decide), Or.inl rfl, fun n _ q => absurd q (Nat.not_lt_zero n)⟩, fun d e _ _ _ q => ?_⟩
  · rw [z 9 d (by decide), hasB_0 (by omega)] at q; cases q
  · rw [z 4 d (by decide)] at q; exact absurd q (by decide)
  · rw [z 4 d (by decide)] at q; exact absurd q (by decide)
theorem al0 : Al (anS x0C) x0R 0 := ⟨0, 0, 0, ⟨rel0, inv0, Nat.zero_le _⟩, rfl, by decide, by decide, by decide⟩
