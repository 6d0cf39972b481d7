/-! trying out -/
theorem v_cnt_le {f g : Int → Bool} : ∀ n : Nat, (∀ p : Int, 0 ≤ p → p < n → g p = true → f p = true) → v_cnt g n ≤ v_cnt f n ∧ (v_cnt g n = v_cnt f n → ∀ p : Int, 0 ≤ p → p < n → f p = true → g p = true)
  | 0, _ => ⟨Int.le_refl _, fun _ p h1 h2 => absurd h2 (by omega)⟩
  | n + 1, h => by
    obtain ⟨h1, h2⟩ := v_cnt_le (f := f) (g := g) n (fun p a b => h p a (by omega))
    have h3 := h n (by omega) (by omega)
    unfold v_cnt
    cases hf : f n <;> cases hg : g n
    · simp only [Bool.false_eq_true, if_false]
      refine ⟨by omega, fun e p a b hh => ?_⟩
      by_cases q : p = n
      · subst q; rw [hf] at hh; cases hh
      · exact h2 (by omega) p a (by omega) hh
    · rw [hf, hg] at h3; simp at h3
    · simp only [Bool.false_eq_true, if_false, if_true]
      exact ⟨by omega, fun e => absurd e (by omega)⟩
    · simp only [if_true]
      refine ⟨by omega, fun e p a b hh => ?_⟩
      by_cases q : p = n
      · subst q; exact hg
      · exact h2 (by omega) p a (by omega) hh
theorem v_cnt_ex {f : Int → Bool} : ∀ n : Nat, ¬ v_cnt f n = 0 → ∃ p : Int, 0 ≤ p ∧ p < n ∧ f p = true
  | 0, h => (h rfl).elim
  | n + 1, h => by
    cases hf : f n
    · unfold v_cnt at h
      rw [hf] at h
      obtain ⟨p, a, b, e⟩ := v_cnt_ex n (by simpa using h)
      exact ⟨p, a, by omega, e⟩
    · exact ⟨n, by omega, by omega, hf⟩
abbrev v_ce (W : Int → Int) : Prop := v_ah W (W 9).toNat = -1 ∨ W 6 ≤ v_tl W (v_ah W (W 9).toNat)
theorem v_it_len {W : Int → Int} (hG : v_G W) (hF : v_F W) (k : Nat) {p : Int} (p0 : 0 ≤ p) (p1 : p < W 9) : (v_it k W) (200 + p) = W (200 + p) := (v_it_G hG hF k).2.2.1 _ (by omega) (by have := hG.n9; omega) (by have := hG.n9; omega) (by have := hG.n9; omega)
theorem v_it_lat {W : Int → Int} (hG : v_G W) (hF : v_F W) : ∀ k : Nat, ¬ v_prev (v_on (v_it k W)) (W 9).toNat = -1 → (k : Int) - 400 ≤ v_tl (v_it k W) (v_prev (v_on (v_it k W)) (W 9).toNat)
  | 0 => fun h => by
    have b := v_prev_bd (v_on W) (W 9).toNat
    have h' : ¬ v_prev (v_on W) (W 9).toNat = -1 := h
    have g := hG.pt (v_prev (v_on W) (W 9).toNat) (by omega) (by omega)
    simp only [v_it, v_tl]
    omega
  | k + 1 => fun h => by
    have g9 := hG.n9
    obtain ⟨i1, i2, i3, i4⟩ := v_it_G hG hF k
    have b := v_prev_bd (v_on (v_it (k + 1) W)) (W 9).toNat
    have hon := v_prev_on (v_on (v_it (k + 1) W)) (W 9).toNat h
    generalize v_prev (v_on (v_it (k + 1) W)) (W 9).toNat = q2 at *
    have hon2 : v_go (v_it k W) (800 + q2) = 0 := of_decide_eq_true hon
    obtain ⟨e1, e2⟩ := (v_go_on i1 i2 (q := q2) (by omega) (by rw [i3.n9]; omega)).1 hon2
    have ih := v_it_lat hG hF k
    have b2 := v_prev_bd (v_on (v_it k W)) (W 9).toNat
    have no := v_prev_no (v_on (v_it k W)) (W 9).toNat q2
    have on2 := v_prev_on (v_on (v_it k W)) (W 9).toNat
    generalize v_prev (v_on (v_it k W)) (W 9).toNat = q1 at *
    have hge : q2 ≤ q1 := by
      rcases (show q2 ≤ q1 ∨ q1 < q2 by omega) with r | r
      · exact r
      · have := no r (by omega)
        simp [v_on, e1] at this
    have ih2 := ih (by omega)
    have l1 := v_it_len hG hF k (p := q1) (by omega) (by omega)
    have l2 := v_it_len hG hF k (p := q2) (by omega) (by omega)
    have l3 := v_it_len hG hF (k + 1) (p := q2) (by omega) (by omega)
    have gp := hG.pt q1 (by omega) (by omega)
    have e3 : v_it (k + 1) W (500 + q2) = v_it k W (500 + q2) + 1 := e2
    simp only [v_tl] at ih2 ⊢
    rw [e3, l3]
    rw [l1] at ih2
    by_cases r : q2 = q1
    · subst r; omega
    · have o1 : v_it k W (800 + q1) = 0 := of_decide_eq_true (on2 (by omega))
      have := i1.od q2 q1 (by omega) (by omega) (by rw [i3.n9]; omega) e1 o1
      rw [l2] at this
      omega
section
variable {d : Nat} {K N : Nat → Nat} {I I1 : Nat → Nat → Int} {P : Nat → Nat → Option Nat} {z : Nat} {Q : am_V → am_T} {W : Int → Int} {S : Int → Int → Int} {c : Int} {T : Int → Int} {n : Int}
theorem sp_fateOf (hd : 8 ≤ d) (hm : MS K N P) (hA : MA I W S c T n) (hG : v_G W) (hF : v_F W) (h0 : W 0 ≤ 50000) {x : Int} (h1 : ¬ (0 ≤ x ∧ x < W 9) → OM K N I P z Q 1 (am_i 0) W S c T n) (h2 : 0 ≤ x ∧ x < W 9 → ∀ k : Nat, ¬ (v_it k W) (800 + x) = 0 → OM K N I P z Q 0 (am_i ((v_it k W) (800 + x))) W S c T n) : am_C d m_X8_fateOf [am_r 284, am_i x] K N I P z Q am_nx := by
  have hFF := hF
  clear hF
  refine wf_X8_fateOf (by omega) ⟨hm.1, ?_⟩
  rintro I2 rfl; replace hA := hA.th (x := 0); have hF : FM I (am_u2 I 284 7 0) := FM.rf.put (by omega); have ht : am_u2 I 284 7 0 284 7 = 0 := am_u2_s; have hW := hA.w; generalize am_u2 I 284 7 0 = I1 at *
  have g9 := hG.n9
  have g0 := hG.d0
  have g5 := hG.s5
  refine sp_isPart (by omega) hm hW hG.n9 ?_
  simp only [am_iv, ite_z]
  refine ⟨fun q => ⟨hm.1, sp_beginTrial hm hA ?_⟩, fun q => ⟨hm.1, sp_no hm hF hA (h1 q)⟩⟩
  simp only [Decidable.not_not] at q
  intro I2 hF2 hA2 ht3 ht2
  have key : ∀ (m k : Nat) (I' : Nat → Nat → Int), k + m = 5000 → FM I I' → MA I' (v_it k W) S c T n → I' 284 7 = 0 → (∀ i : Int, 0 ≤ i → i < 3200 → I' 287 i.toNat = W i) → L_X8_fateOf_23 d 284 x K N I' P z Q := by
    intro m
    induction m with
    | zero =>
      intro k I' hk hF hA ht ht3
      obtain ⟨i1, i2, i3, i4⟩ := v_it_G hG hFF k
      refine wf_X8_fateOf_23 (by omega) ⟨hm.1, sp_isOn hm hA.w (by omega) (by omega) ?_⟩
      simp only [am_iv, ite_z]
      refine ⟨fun r => ⟨hm.1, ?_⟩, fun r => ?_⟩
      · have hw := hA.w.all
        obtain ⟨k0, p0, p1, p2, p3, p4, k1, n1, k2, n2, k3, n3, k4, n4, k5, n5⟩ := id hm
        simp (disch := omega) only [k0, p0, p1, p2, p3, p4, k1, n1, k2, n2, k3, n3, k4, n4, k5, n5, true_and, and_true, Option.some.injEq, exists_eq_left', am_wE, and_dr, imp_dr, imp_df, true_imp_iff, false_imp_iff, not_true_eq_false, not_false_eq_true, hw]
        refine sp_endTrial hm hA ht3 ?_
        intro I3 hF3 hA3 ht4
        exact h2 q k r _ (hF.tr hF3) hA3 (ht4.trans ht)
      · simp only [Decidable.not_not] at r
        have a1 := v_it_on hG hFF q.1 q.2 k r
        have a2 := i2 x q.1 (by rw [i3.n9]; exact q.2) r
        have a3 := i1.s5
        have a4 := hG.pt x q.1 q.2
        omega
    | succ m ih =>
      intro k I' hk hF hA ht ht3
      obtain ⟨i1, i2, i3, i4⟩ := v_it_G hG hFF k
      refine wf_X8_fateOf_23 (by omega) ⟨hm.1, sp_isOn hm hA.w (by omega) (by omega) ?_⟩
      simp only [am_iv, ite_z]
      refine ⟨fun r => ⟨hm.1, ?_⟩, fun r => ⟨hm.1, ?_⟩⟩
      · have hw := hA.w.all
        obtain ⟨k0, p0, p1, p2, p3, p4, k1, n1, k2, n2, k3, n3, k4, n4, k5, n5⟩ := id hm
        simp (disch := omega) only [k0, p0, p1, p2, p3, p4, k1, n1, k2, n2, k3, n3, k4, n4, k5, n5, true_and, and_true, Option.some.injEq, exists_eq_left', am_wE, and_dr, imp_dr, imp_df, true_imp_iff, false_imp_iff, not_true_eq_false, not_false_eq_true, hw]
        refine sp_endTrial hm hA ht3 ?_
        intro I3 hF3 hA3 ht4
        exact h2 q k r _ (hF.tr hF3) hA3 (ht4.trans ht)
      · refine sp_go (by omega) hm hA.w i1 i2 (by omega) ?_
        intro I3 hI3 hW3
        exact ih (k + 1) I3 (by omega) (hF.tr hI3.FM) (hA.fr hI3 hW3) ((hI3 284 7 (by omega) (by omega)).trans ht) (fun i a b => (hI3 287 _ (by omega) (by omega)).trans (ht3 i a b))
  exact key 5000 0 I2 (by omega) (hF.tr hF2) hA2 (ht2.trans ht) ht3
theorem sp_canEnter (hd : 3 ≤ d) (hm : MS K N P) (hW : MW I W) (hG : v_G W) (h : Q (am_i (if v_ce W then 1 else 0)) K N I P z) : am_C d m_X8_canEnter [am_r 284] K N I P z Q am_nx := by
  have g9 := hG.n9
  have g6 := hG.s6
  refine wf_X8_canEnter (by omega) ⟨hm.1, sp_latest (by omega) hm hW (n := (W 9).toNat) (by omega) (by omega) ?_⟩
  have b := v_prev_bd (v_on W) (W 9).toNat
  obtain ⟨q, hq⟩ : ∃ q, q = v_prev (v_on W) (W 9).toNat := ⟨_, rfl⟩
  simp only [v_ce, v_ah, ← hq] at h b ⊢
  simp only [am_iv]
  refine ⟨fun c => ?_, fun c => ?_⟩
  · rw [if_pos (Or.inl c)] at h; exact h
  refine ⟨hm.1, sp_tailG hm hW hG (by omega) (by omega) ?_⟩
  simp only [am_iv]
  simp only [v_tl] at h
  refine ⟨fun c2 => ?_, fun c2 => ⟨hm.1, sp_tailG hm hW hG (by omega) (by omega) ?_⟩⟩
  · rw [if_neg (by omega)] at h; exact h
  simp only [am_iv]
  obtain ⟨k0, p0, p1, p2, p3, p4, k1, n1, k2, n2, k3, n3, k4, n4, k5, n5⟩ := id hm
  obtain ⟨w0, w1, w2, w3, w4, w5, w6, w7, w8, w9, w10, w11⟩ := hW.lits; have hw := hW.all
  simp (disch := omega) only [k0, p0, p1, p2, p3, p4, k1, n1, k2, n2, k3, n3, k4, n4, k5, n5, true_and, and_true, Option.some.injEq, exists_eq_left', am_wE, and_dr, imp_dr, imp_df, true_imp_iff, false_imp_iff, not_true_eq_false, not_false_eq_true, hw, w0, w1, w2, w3, w4, w5, w6, w7, w8, w9, w10, w11 ]
  refine ⟨fun c3 => ?_, fun c3 => ?_⟩
  · rw [if_neg (by omega)] at h; exact h
  · rw [if_pos (by omega)] at h; exact h
theorem sp_entryIn (hd : 8 ≤ d) (hm : MS K N P) (hA : MA I W S c T n) (hG : v_G W) (hF : v_F W) (h0 : W 0 ≤ 50000) (h2 : ∀ k : Nat, (∀ j : Nat, j < k → ¬ v_ce (v_it j W)) → v_ce (v_it k W) → OM K N I P z Q 0 (am_i k) W S c T n) : am_C d m_X8_entryIn [am_r 284] K N I P z Q am_nx := by
  have hFF := hF
  clear hF
  refine wf_X8_entryIn (by omega) ⟨hm.1, ?_⟩
  rintro I2 rfl; replace hA := hA.th (x := 0); have hF : FM I (am_u2 I 284 7 0) := FM.rf.put (by omega); have ht : am_u2 I 284 7 0 284 7 = 0 := am_u2_s; have hW := hA.w; generalize am_u2 I 284 7 0 = I1 at *
  have g9 := hG.n9
  have g0 := hG.d0
  refine sp_beginTrial hm hA ?_
  intro I2 hF2 hA2 ht3 ht2
  have key : ∀ (m k : Nat) (I' : Nat → Nat → Int), k + m = 600 → (∀ j : Nat, j < k → ¬ v_ce (v_it j W)) → FM I I' → MA I' (v_it k W) S c T n → I' 284 7 = 0 → (∀ i : Int, 0 ≤ i → i < 3200 → I' 287 i.toNat = W i) → L_X8_entryIn_11 d 284 k K N I' P z Q := by
    intro m
    induction m with
    | zero =>
      intro k I' hk hpre hF hA ht ht3
      obtain ⟨i1, i2, i3, i4⟩ := v_it_G hG hFF k
      refine wf_X8_entryIn_11 (by omega) ⟨hm.1, sp_canEnter (by omega) hm hA.w i1 ?_⟩
      simp only [am_iv, ite_z]
      have hc : v_ce (v_it k W) := by
        by_cases e : v_prev (v_on (v_it k W)) (W 9).toNat = -1
        · refine Or.inl ?_
          show v_prev (v_on (v_it k W)) ((v_it k W) 9).toNat = -1
          rw [i3.n9]; exact e
        · refine Or.inr ?_
          show (v_it k W) 6 ≤ v_tl (v_it k W) (v_prev (v_on (v_it k W)) ((v_it k W) 9).toNat)
          have := v_it_lat hG hFF k e
          have g6 := i1.s6
          rw [i3.n9]
          omega
      refine ⟨fun r => ⟨hm.1, sp_endTrial hm hA ht3 ?_⟩, fun r => (r hc).elim⟩
      intro I3 hF3 hA3 ht4
      exact h2 k hpre hc _ (hF.tr hF3) hA3 (ht4.trans ht)
    | succ m ih =>
      intro k I' hk hpre hF hA ht ht3
      obtain ⟨i1, i2, i3, i4⟩ := v_it_G hG hFF k
      refine wf_X8_entryIn_11 (by omega) ⟨hm.1, sp_canEnter (by omega) hm hA.w i1 ?_⟩
      simp only [am_iv, ite_z]
      refine ⟨fun r => ⟨hm.1, sp_endTrial hm hA ht3 ?_⟩, fun r => ⟨hm.1, ?_⟩⟩
      · intro I3 hF3 hA3 ht4
        exact h2 k hpre (Decidable.not_not.mp r) _ (hF.tr hF3) hA3 (ht4.trans ht)
      · refine sp_go (by omega) hm hA.w i1 i2 (by omega) ?_
        intro I3 hI3 hW3
        rw [am_wE (by omega) (by omega)]
        refine ih (k + 1) I3 (by omega) ?_ (hF.tr hI3.FM) (hA.fr hI3 hW3) ((hI3 284 7 (by omega) (by omega)).trans ht) (fun i a b => (hI3 287 _ (by omega) (by omega)).trans (ht3 i a b))
        intro j hj
        rcases (show j < k ∨ j = k by omega) with e | e
        · exact hpre j e
        · subst e; exact r
  exact key 600 0 I2 (by omega) (fun j hj => absurd hj (by omega)) (hF.tr hF2) hA2 (ht2.trans ht) ht3
end
