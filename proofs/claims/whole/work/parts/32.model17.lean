abbrev v_fts (W : Int → Int) (a b : Int) : Int := v_cnt (fun p => decide (a ≤ W (800 + p) ∧ W (800 + p) ≤ b)) (W 9).toNat
section
variable {d : Nat} {K N : Nat → Nat} {I I1 : Nat → Nat → Int} {P : Nat → Nat → Option Nat} {z : Nat} {Q : am_V → am_T} {W : Int → Int} {S : Int → Int → Int} {c : Int} {T : Int → Int} {n : Int}
theorem sp_fates (hd : 1 ≤ d) (hm : MS K N P) (hW : MW I W) (hl : 0 ≤ W 9 ∧ W 9 ≤ 300) {a b : Int} (h : Q (am_i (v_fts W a b)) K N I P z) : am_C d m_X8_fates [am_r 284, am_i a, am_i b] K N I P z Q am_nx := by
  refine wf_X8_fates ?_
  have key : ∀ (m j : Nat), (j : Int) + m = W 9 → L_X8_fates_5 d 284 a b (v_cnt (fun p => decide (a ≤ W (800 + p) ∧ W (800 + p) ≤ b)) j) j K N I P z Q := by
    intro m
    induction m with
    | zero =>
      intro j hj
      refine wf_X8_fates_5 (by omega) ?_
      obtain ⟨k0, p0, p1, p2, p3, p4, k1, n1, k2, n2, k3, n3, k4, n4, k5, n5⟩ := id hm
      obtain ⟨w0, w1, w2, w3, w4, w5, w6, w7, w8, w9, w10, w11⟩ := hW.lits; have hw := hW.all
      simp (disch := omega) only [k0, p0, p1, p2, p3, p4, k1, n1, k2, n2, k3, n3, k4, n4, k5, n5, true_and, and_true, Option.some.injEq, exists_eq_left', am_wE, and_dr, imp_dr, imp_df, true_imp_iff, false_imp_iff, not_true_eq_false, not_false_eq_true, hw, w0, w1, w2, w3, w4, w5, w6, w7, w8, w9, w10, w11 ]
      rw [show j = (W 9).toNat by omega]; exact h
    | succ m ih =>
      intro j hj
      have ih2 := ih (j + 1) (by omega)
      have bd := v_cnt_bd (fun p => decide (a ≤ W (800 + p) ∧ W (800 + p) ≤ b)) j
      rw [v_cnt] at ih2
      generalize v_cnt (fun p => decide (a ≤ W (800 + p) ∧ W (800 + p) ≤ b)) j = e at *
      refine wf_X8_fates_5 (by omega) ?_
      obtain ⟨k0, p0, p1, p2, p3, p4, k1, n1, k2, n2, k3, n3, k4, n4, k5, n5⟩ := id hm
      obtain ⟨w0, w1, w2, w3, w4, w5, w6, w7, w8, w9, w10, w11⟩ := hW.lits; have hw := hW.all
      simp (disch := omega) only [k0, p0, p1, p2, p3, p4, k1, n1, k2, n2, k3, n3, k4, n4, k5, n5, true_and, and_true, Option.some.injEq, exists_eq_left', am_wE, and_dr, imp_dr, imp_df, true_imp_iff, false_imp_iff, not_true_eq_false, not_false_eq_true, hw, w0, w1, w2, w3, w4, w5, w6, w7, w8, w9, w10, w11 ]
      refine sp_in ?_
      simp only [am_iv]
      refine sp_one ?_
      simp only [am_iv, ite_z, decide_eq_true_eq, Int.natCast_add, Int.cast_ofNat_Int] at ih2 ⊢
      by_cases q : a ≤ W (800 + (j : Int)) ∧ W (800 + (j : Int)) ≤ b
      · simp only [q, not_true_eq_false, and_self, if_true, if_false] at ih2 ⊢
        rw [am_wE (by omega) (by omega)]
        exact ih2
      · simp only [q, not_false_eq_true, if_true, if_false] at ih2 ⊢
        rw [am_wE (by omega) (by omega)]
        exact ih2
  exact key (W 9).toNat 0 (by omega)
theorem sp_lost (hd : 2 ≤ d) (hm : MS K N P) (hA : MA I W S c T n) (hG : v_G W) {x : Int} (h1 : ¬ (1 ≤ x ∧ x ≤ 6) → OM K N I P z Q 1 (am_i 0) W S c T n) (h2 : 1 ≤ x ∧ x ≤ 6 → OM K N I P z Q 0 (am_i (v_fts W x x)) W S c T n) : am_C d m_X8_lost [am_r 284, am_i x] K N I P z Q am_nx := by
  refine wf_X8_lost (by omega) ⟨hm.1, ?_⟩
  rintro I2 rfl; replace hA := hA.th (x := 0); have hF : FM I (am_u2 I 284 7 0) := FM.rf.put (by omega); have ht : am_u2 I 284 7 0 284 7 = 0 := am_u2_s; have hW := hA.w; generalize am_u2 I 284 7 0 = I1 at *
  refine sp_in ?_
  simp only [am_iv, ite_z]
  refine ⟨fun q => ⟨hm.1, sp_no hm hF hA (h1 q)⟩, fun q => ⟨hm.1, sp_fates (by omega) hm hW hG.n9 ?_⟩⟩
  simp only [Decidable.not_not] at q
  exact h2 q _ hF hA ht
theorem sp_routeAt (hd : 1 ≤ d) (hm : MS K N P) (hA : MA I W S c T n) (hG : v_G W) {x : Int} (h1 : x < 0 → OM K N I P z Q 1 (am_i 0) W S c T n) (h2 : 0 ≤ x → W 8 ≤ x → OM K N I P z Q 0 (am_i (-1)) W S c T n) (h3 : 0 ≤ x → x < W 8 → OM K N I P z Q 0 (am_i (10 * W (46 + x) + W (76 + x))) W S c T n) : am_C d m_X8_routeAt [am_r 284, am_i x] K N I P z Q am_nx := by
  refine wf_X8_routeAt (by omega) ⟨hm.1, ?_⟩
  rintro I2 rfl; replace hA := hA.th (x := 0); have hF : FM I (am_u2 I 284 7 0) := FM.rf.put (by omega); have ht : am_u2 I 284 7 0 284 7 = 0 := am_u2_s; have hW := hA.w; generalize am_u2 I 284 7 0 = I1 at *
  have g8 := hG.r8
  have g7 := hG.l7
  refine ⟨fun q => ?_, fun q => sp_no hm hF hA (h1 (by omega))⟩
  obtain ⟨k0, p0, p1, p2, p3, p4, k1, n1, k2, n2, k3, n3, k4, n4, k5, n5⟩ := id hm
  have w8 : I1 285 8 = W 8 := hW.lit 8 (by decide)
  simp (disch := omega) only [k0, p0, p1, p2, p3, p4, k1, n1, k2, n2, k3, n3, k4, n4, k5, n5, true_and, and_true, Option.some.injEq, exists_eq_left', am_wE, and_dr, imp_dr, imp_df, true_imp_iff, false_imp_iff, not_true_eq_false, not_false_eq_true, w8]
  refine ⟨fun r => h2 q r _ hF hA ht, fun r => ?_⟩
  have g := hG.rt x q (by omega)
  obtain ⟨w0, w1, w2, w3, w4, w5, w6, w7, w8, w9, w10, w11⟩ := hW.lits; have hw := hW.all
  simp (disch := omega) only [k0, p0, p1, p2, p3, p4, k1, n1, k2, n2, k3, n3, k4, n4, k5, n5, true_and, and_true, Option.some.injEq, exists_eq_left', am_wE, and_dr, imp_dr, imp_df, true_imp_iff, false_imp_iff, not_true_eq_false, not_false_eq_true, hw, w0, w1, w2, w3, w4, w5, w6, w7, w8, w9, w10, w11 ]
  exact h3 q (by omega) _ hF hA ht
theorem sp_gapAhead (hd : 2 ≤ d) (hm : MS K N P) (hA : MA I W S c T n) (hG : v_G W) {x : Int} (h1 : ¬ (0 ≤ x ∧ x < W 9) → OM K N I P z Q 1 (am_i 0) W S c T n) (h2 : 0 ≤ x ∧ x < W 9 → ¬ W (800 + x) = 0 → OM K N I P z Q 2 (am_i 0) W S c T n)
    (h3 : 0 ≤ x ∧ x < W 9 → W (800 + x) = 0 → v_ah W x.toNat = -1 → OM K N I P z Q 0 (am_i (-1)) W S c T n) (h4 : 0 ≤ x ∧ x < W 9 → W (800 + x) = 0 → ¬ v_ah W x.toNat = -1 → OM K N I P z Q 0 (am_i (v_tl W (v_ah W x.toNat) - W (500 + x))) W S c T n) : am_C d m_X8_gapAhead [am_r 284, am_i x] K N I P z Q am_nx := by
  refine wf_X8_gapAhead (by omega) ⟨hm.1, ?_⟩
  rintro I2 rfl; replace hA := hA.th (x := 0); have hF : FM I (am_u2 I 284 7 0) := FM.rf.put (by omega); have ht : am_u2 I 284 7 0 284 7 = 0 := am_u2_s; have hW := hA.w; generalize am_u2 I 284 7 0 = I1 at *
  have g9 := hG.n9
  refine sp_isPart (by omega) hm hW hG.n9 ?_
  simp only [am_iv, ite_z]
  refine ⟨fun q => ⟨hm.1, ?_⟩, fun q => ⟨hm.1, sp_no hm hF hA (h1 q)⟩⟩
  simp only [Decidable.not_not] at q
  refine sp_isOn hm hW (by omega) (by omega) ?_
  simp only [am_iv, ite_z]
  refine ⟨fun q2 => ⟨hm.1, ?_⟩, fun q2 => ⟨hm.1, sp_no hm hF hA (h2 q q2)⟩⟩
  simp only [Decidable.not_not] at q2
  refine sp_ahead (by omega) hm hW (n := x.toNat) (by omega) (by omega) ?_
  simp only [am_iv]
  have b := v_prev_bd (v_on W) x.toNat
  refine ⟨fun q3 => ⟨hm.1, ?_⟩, fun q3 => h3 q q2 q3 _ hF hA ht⟩
  have h4 := h4 q q2 q3
  simp only [v_tl, v_ah] at h4 q3 ⊢
  generalize v_prev (v_on W) x.toNat = a at *
  have ga := hG.pt a (by omega) (by omega)
  have gx := hG.pt x q.1 q.2
  refine sp_tailG hm hW hG (by omega) (by omega) ?_
  simp only [am_iv]
  obtain ⟨k0, p0, p1, p2, p3, p4, k1, n1, k2, n2, k3, n3, k4, n4, k5, n5⟩ := id hm
  obtain ⟨w0, w1, w2, w3, w4, w5, w6, w7, w8, w9, w10, w11⟩ := hW.lits; have hw := hW.all
  simp (disch := omega) only [k0, p0, p1, p2, p3, p4, k1, n1, k2, n2, k3, n3, k4, n4, k5, n5, true_and, and_true, Option.some.injEq, exists_eq_left', am_wE, and_dr, imp_dr, imp_df, true_imp_iff, false_imp_iff, not_true_eq_false, not_false_eq_true, hw, w0, w1, w2, w3, w4, w5, w6, w7, w8, w9, w10, w11 ]
  exact h4 _ hF hA ht
end
