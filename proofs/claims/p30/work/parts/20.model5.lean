/-! what does not depend on more than the text; what a millimeter leaves -/
theorem v_dg_no {T : Int → Int} {p : Int} (h : v_nok T p = true) : v_dig (T p) = true := by
  unfold v_nok at h
  simp only [Bool.and_eq_true] at h
  exact h.1
theorem v_n_cg {T T' : Int → Int} {p : Int} (h0 : 0 ≤ p) (hok : v_nok T p = true) (hb : (v_n T p).2 < 80) (hT : ∀ i : Int, 0 ≤ i → i < 80 → T' i = T i) : v_n T' p = v_n T p ∧ v_nok T' p = true := by
  have hd := v_dg_no hok
  unfold v_nok at hok ⊢
  simp only [v_n, v_num] at hb ⊢
  have e0 : p < 80 → T' p = T p := fun h => hT _ (by omega) h
  have e1 : p + 1 < 80 → T' (p + 1) = T (p + 1) := fun h => hT _ (by omega) h
  have e2 : p + 1 + 1 < 80 → T' (p + 1 + 1) = T (p + 1 + 1) := fun h => hT _ (by omega) h
  have e3 : p + 1 + 1 + 1 < 80 → T' (p + 1 + 1 + 1) = T (p + 1 + 1 + 1) := fun h => hT _ (by omega) h
  rw [show p + 2 = p + 1 + 1 by omega, show p + 3 = p + 1 + 1 + 1 by omega] at hok ⊢
  simp only [hd, if_true, Bool.true_and] at hok hb
  by_cases h1 : v_dig (T (p + 1)) = true
  · simp only [h1, if_true, Bool.true_and] at hok hb
    by_cases h2 : v_dig (T (p + 1 + 1)) = true
    · simp only [h2, if_true, Bool.true_and] at hok hb
      by_cases h3 : v_dig (T (p + 1 + 1 + 1)) = true
      · simp [h3] at hok
      · simp only [Bool.not_eq_true] at h3
        simp only [h3, Bool.false_eq_true, if_false] at hb
        simp [e0 (by omega), e1 (by omega), e2 (by omega), e3 (by omega), hd, h1, h2, h3]
    · simp only [Bool.not_eq_true] at h2
      simp only [h2, Bool.false_eq_true, if_false] at hb
      simp [e0 (by omega), e1 (by omega), e2 (by omega), hd, h1, h2]
  · simp only [Bool.not_eq_true] at h1
    simp only [h1, Bool.false_eq_true, if_false] at hb
    simp [e0 (by omega), e1 (by omega), hd, h1]
theorem v_c_cg {T T' : Int → Int} {p : Int} (h0 : 0 ≤ p) (hok : v_cok T p = true) (hb : v_cend T p ≤ 80) (hT : ∀ i : Int, 0 ≤ i → i < 80 → T' i = T i) : v_cok T' p = true ∧ v_cend T' p = v_cend T p ∧ ∀ c s, v_chold T' p c s = v_chold T p c s := by
  obtain ⟨k1, k2, k3, k4⟩ := v_cok_k hok
  have b := v_cend_bd hok
  have bn := v_n_cases k2
  have ep : T' p = T p := hT p h0 (by omega)
  unfold v_cok v_chold
  unfold v_cend at hb ⊢
  by_cases h9 : T p = 109
  · obtain ⟨m1, m2, m3, m4⟩ := k3 h9
    have bm := v_n_cases m3
    simp only [h9, if_true] at hb
    obtain ⟨q1, q2⟩ := v_n_cg (T' := T') (by omega) k2 (by omega) hT
    obtain ⟨q3, q4⟩ := v_n_cg (T' := T') (by omega) m3 (by omega) hT
    simp only [ep, h9, if_true, q1, q2, q3, q4, hT _ (show 0 ≤ (v_n T (p + 1)).2 by omega) (by omega), hT _ (show 0 ≤ (v_n T ((v_n T (p + 1)).2 + 1)).2 by omega) (by omega), m1, m2, m4]
    simp
  · have m1 := k4 h9
    simp only [h9, if_false] at hb
    obtain ⟨q1, q2⟩ := v_n_cg (T' := T') (by omega) k2 (by omega) hT
    simp only [ep, h9, if_false, q1, q2, hT _ (show 0 ≤ (v_n T (p + 1)).2 by omega) (by omega), m1]
    simpa [h9] using k1
theorem v_r_cg {T T' : Int → Int} (hT : ∀ i : Int, 0 ≤ i → i < 80 → T' i = T i) : ∀ (f : Nat) (p e : Int), 0 ≤ p → e ≤ 80 → v_rend T f p = some e → v_rend T' f p = some e ∧ ∀ c s, v_rev T' f p c s = v_rev T f p c s := by
  intro f
  induction f with
  | zero => intro p e _ _ h; simp [v_rend] at h
  | succ f ih =>
    intro p e h0 he h
    have bd := v_rend_bd _ _ _ h
    have ep : T' p = T p := hT p h0 (by omega)
    unfold v_rend v_rev
    unfold v_rend at h
    by_cases hl : T p = 120 ∨ (48 ≤ T p ∧ T p ≤ 53)
    · rw [if_pos hl] at h
      have hne : ¬ T p = 63 := by omega
      simp only [ep, hne, if_false]
      rw [if_pos hl]
      exact ⟨h, fun _ _ => trivial⟩
    · rw [if_neg hl] at h
      by_cases hq : T p = 63 ∧ v_cok T (p + 1) = true
      · rw [if_pos hq] at h
        have hbc := v_cend_bd hq.2
        cases hr1 : v_rend T f (v_cend T (p + 1)) with
        | none => simp [hr1] at h
        | some q =>
          simp only [hr1, Option.bind_some] at h
          have b1 := v_rend_bd _ _ _ hr1
          have b2 := v_rend_bd _ _ _ h
          obtain ⟨c1, c2, c3⟩ := v_c_cg (T' := T') (by omega) hq.2 (by omega) hT
          obtain ⟨i1, i2⟩ := ih _ q (by omega) (by omega) hr1
          obtain ⟨j1, j2⟩ := ih _ e (by omega) he h
          simp only [ep, c1, c2, c3, i1, i2, j1, hr1, Option.bind_some, Option.getD_some, j2, hq.1, if_true, and_self, implies_true]
          rw [if_neg (by decide)]
          exact ⟨rfl, trivial⟩
      · rw [if_neg hq] at h; cases h
/-- what a millimeter leaves as it is -/
def v_same (W W' : Int → Int) : Prop := ∀ i : Int, 0 < i → ¬ (34 ≤ i ∧ i < 46) → ¬ (500 ≤ i ∧ i < 1100) → ¬ (2600 ≤ i ∧ i < 2900) → W' i = W i
theorem v_same.rf {W : Int → Int} : v_same W W := fun _ _ _ _ _ => rfl
theorem v_same.tr {W W1 W2 : Int → Int} (h : v_same W W1) (h2 : v_same W1 W2) : v_same W W2 := fun i a b c e => (h2 i a b c e).trans (h i a b c e)
theorem v_pl_cg {W W' : Int → Int} {c : Int} (hs : ∀ k : Int, 0 ≤ k → k < 30 → W' (46 + k) = W (46 + k)) : ∀ (m : Nat) (k : Int), 0 ≤ k → k + m ≤ 30 → v_pl W' c m k = v_pl W c m k
  | 0, k, _, _ => rfl
  | m + 1, k, h, h2 => by
    unfold v_pl
    rw [hs k h (by omega), v_pl_cg hs m (k + 1) (by omega) (by omega)]
theorem v_G.lby_cg {W W' : Int → Int} (hG : v_G W) (h7 : W' 7 = W 7) (h8 : W' 8 = W 8) (hr : ∀ i : Int, 46 ≤ i → i < 186 → W' i = W i) {c s : Int} : v_lby W' c s = v_lby W c s := by
  have g8 := hG.r8
  have e1 : v_place W' c = v_place W c := by
    show v_pl W' c (W' 8).toNat 0 = v_pl W c (W 8).toNat 0
    rw [h8]
    exact v_pl_cg (fun k h1 h2 => hr _ (by omega) (by omega)) _ _ (by omega) (by omega)
  obtain ⟨e, he, hr2⟩ := hG.rl
  have e2 := (v_r_cg (T := v_T W) (T' := v_T W') (fun i h1 h2 => hr _ (by omega) (by omega)) 50 0 e (by omega) he hr2).2 c s
  have b := v_place_bd g8.1 c
  unfold v_lby v_byR v_has
  rw [e1, e2, h7, h8]
  by_cases hl : v_place W c < W 8
  · rw [hr (46 + v_place W c) (by omega) (by omega), hr (76 + v_place W c) (by omega) (by omega)]
  · simp [hl]
theorem v_G.lo_cg {W W' : Int → Int} (hG : v_G W) (hs : v_same W W') {p : Int} (h0 : 0 ≤ p) (h1 : p < 300) : v_lo W' p = v_lo W p := by
  unfold v_lo
  rw [hs (1100 + p) (by omega) (by omega) (by omega) (by omega), hs (1400 + p) (by omega) (by omega) (by omega) (by omega), hs (1700 + p) (by omega) (by omega) (by omega) (by omega), hs (200 + p) (by omega) (by omega) (by omega) (by omega), hG.lby_cg (hs 7 (by omega) (by omega) (by omega) (by omega)) (hs 8 (by omega) (by omega) (by omega) (by omega)) (fun i a b => hs i (by omega) (by omega) (by omega) (by omega))]
theorem v_G.same {W W' : Int → Int} (hG : v_G W) (hs : v_same W W') (h0 : 0 ≤ W' 0) (hc : ∀ l, 0 ≤ l → l < W 7 → 0 ≤ W' (34 + l) ∧ W' (34 + l) ≤ W (28 + l)) (hl : ∀ l, W 7 ≤ l → l < 6 → W' (34 + l) = 0 ∧ W' (40 + l) = 0) (hp : ∀ p, 0 ≤ p → p < W 9 → (0 ≤ W' (500 + p) ∧ W' (500 + p) ≤ 5000) ∧ (W' (2600 + p) = 0 ∨ W' (2600 + p) = 5 ∨ W' (2600 + p) = 6) ∧ (0 ≤ W' (800 + p) ∧ W' (800 + p) ≤ 15)) (ho : ∀ p q, 0 ≤ p → p < q → q < W 9 → W' (800 + p) = 0 → W' (800 + q) = 0 → W' (500 + q) ≤ W' (500 + p) - W (200 + p)) : v_G W' := by
  have s : ∀ i : Int, 0 < i → (i < 34 ∨ (46 ≤ i ∧ i < 500) ∨ (1100 ≤ i ∧ i < 2600)) → W' i = W i := fun i a b => hs i a (by omega) (by omega) (by omega)
  have e7 := s 7 (by omega) (by omega)
  have e8 := s 8 (by omega) (by omega)
  have e9 := s 9 (by omega) (by omega)
  have g7 := hG.l7
  have g8 := hG.r8
  have g9 := hG.n9
  refine v_G.mk h0 ?_ ?_ ?_ ?_ ?_ ?_ ?_ ?_ ?_ ?_ ?_ ?_ ?_ ?_ ?_
  · rw [s 1 (by omega) (by omega)]; exact hG.s1
  · rw [s 2 (by omega) (by omega)]; exact hG.s2
  · rw [s 3 (by omega) (by omega)]; exact hG.s3
  · rw [s 4 (by omega) (by omega)]; exact hG.s4
  · rw [s 5 (by omega) (by omega)]; exact hG.s5
  · rw [s 6 (by omega) (by omega)]; exact hG.s6
  · rw [e7]; exact hG.l7
  · rw [e8]; exact hG.r8
  · rw [e9]; exact hG.n9
  · intro l a b
    rw [e7] at b
    have := hG.ln l a b
    rw [s (16 + l) (by omega) (by omega), s (22 + l) (by omega) (by omega), s (28 + l) (by omega) (by omega)]
    exact ⟨this.1, this.2.1, this.2.2.1, hc l a b⟩
  · rw [e7]; exact hl
  · intro k a b
    rw [e8] at b
    rw [e7, s (46 + k) (by omega) (by omega), s (76 + k) (by omega) (by omega)]
    exact hG.rt k a b
  · obtain ⟨e, he, hr⟩ := hG.rl
    exact ⟨e, he, (v_r_cg (T := v_T W) (T' := v_T W') (fun i h1 h2 => s _ (by omega) (by omega)) 50 0 e (by omega) he hr).1⟩
  · intro p a b
    rw [e9] at b
    have g := hG.pt p a b
    have q := hp p a b
    rw [s (200 + p) (by omega) (by omega), s (1100 + p) (by omega) (by omega), s (1400 + p) (by omega) (by omega), s (1700 + p) (by omega) (by omega)]
    exact ⟨g.1, q.1, g.2.2.1, g.2.2.2.1, g.2.2.2.2.1, q.2.1, q.2.2⟩
  · intro p q a b c
    rw [e9] at c
    rw [s (200 + p) (by omega) (by omega)]
    exact ho p q a b c
