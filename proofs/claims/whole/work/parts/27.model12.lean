section
variable {d : Nat} {K N : Nat → Nat} {I I1 : Nat → Nat → Int} {P : Nat → Nat → Option Nat} {z : Nat} {Q : am_V → am_T} {W : Int → Int} {S : Int → Int → Int} {c : Int} {T : Int → Int} {n : Int}
theorem sp_addLane (hd : 1 ≤ d) (hm : MS K N P) (hA : MA I W S c T n) (hG : v_G W) {x y u : Int} (h1 : ¬ ((1 ≤ x ∧ x ≤ 4999) ∧ (1 ≤ y ∧ y ≤ 200) ∧ (1 ≤ u ∧ u ≤ 50)) → OM K N I P z Q 1 (am_i 0) W S c T n)
    (h2 : (1 ≤ x ∧ x ≤ 4999) ∧ (1 ≤ y ∧ y ≤ 200) ∧ (1 ≤ u ∧ u ≤ 50) → W 7 = 6 → OM K N I P z Q 2 (am_i 0) W S c T n)
    (h3 : (1 ≤ x ∧ x ≤ 4999) ∧ (1 ≤ y ∧ y ≤ 200) ∧ (1 ≤ u ∧ u ≤ 50) → ¬ W 7 = 6 → OM K N I P z Q 0 (am_i (W 7)) (v_u (v_u (v_u (v_u W (16 + W 7) x) (22 + W 7) y) (28 + W 7) u) 7 (W 7 + 1)) (v_svS S c W) (v_svc c) T n) : am_C d m_X8_addLane [am_r 284, am_i x, am_i y, am_i u] K N I P z Q am_nx := by
  refine wf_X8_addLane (by omega) ⟨hm.1, ?_⟩
  rintro I2 rfl; replace hA := hA.th (x := 0); have hF : FM I (am_u2 I 284 7 0) := FM.rf.put (by omega); have ht : am_u2 I 284 7 0 284 7 = 0 := am_u2_s; have hW := hA.w; generalize am_u2 I 284 7 0 = I1 at *
  refine sp_in ?_
  simp only [am_iv, ite_z]
  refine ⟨fun q => ⟨hm.1, sp_no hm hF hA (h1 (fun r => q r.1))⟩, fun q => ?_⟩
  simp only [Decidable.not_not] at q
  refine sp_in ?_
  simp only [am_iv, ite_z]
  refine ⟨fun q2 => ⟨hm.1, sp_no hm hF hA (h1 (fun r => q2 r.2.1))⟩, fun q2 => ?_⟩
  simp only [Decidable.not_not] at q2
  refine sp_in ?_
  simp only [am_iv, ite_z]
  refine ⟨fun q3 => ?_, fun q3 => ⟨hm.1, sp_no hm hF hA (h1 (fun r => q3 r.2.2))⟩⟩
  simp only [Decidable.not_not] at q3
  have g7 := hG.l7
  obtain ⟨k0, p0, p1, p2, p3, p4, k1, n1, k2, n2, k3, n3, k4, n4, k5, n5⟩ := id hm
  have w7 : I1 285 7 = W 7 := hW.lit 7 (by decide)
  simp (disch := omega) only [k0, p0, p1, p2, p3, p4, k1, n1, k2, n2, k3, n3, k4, n4, k5, n5, true_and, and_true, Option.some.injEq, exists_eq_left', am_wE, and_dr, imp_dr, imp_df, true_imp_iff, false_imp_iff, not_true_eq_false, not_false_eq_true, w7]
  refine ⟨fun r => sp_save hm hA ?_, fun r => sp_no hm hF hA (h2 ⟨q, q2, q3⟩ r)⟩
  intro I2 hF2 hA2 ht2; replace hF := hF.tr hF2; replace ht := ht2.trans ht; have hW := hA2.w; clear hF2 ht2
  obtain ⟨w0, w1, w2, w3, w4, w5, w6, w7, w8, w9, w10, w11⟩ := hW.lits; have hw := hW.all
  simp (disch := omega) only [k0, p0, p1, p2, p3, p4, k1, n1, k2, n2, k3, n3, k4, n4, k5, n5, true_and, and_true, Option.some.injEq, exists_eq_left', am_wE, and_dr, imp_dr, imp_df, true_imp_iff, false_imp_iff, not_true_eq_false, not_false_eq_true, hw, w0, w1, w2, w3, w4, w5, w6, w7, w8, w9, w10, w11 , forall_eq, am_u2_o285]
  have := (((hA2.put (i := 16 + W 7) (x := x) (by omega)).put (i := 22 + W 7) (x := y) (by omega)).put (i := 28 + W 7) (x := u) (by omega)).put (i := 7) (x := W 7 + 1) (by omega)
  exact h3 ⟨q, q2, q3⟩ r _ ((((hF.put (by omega)).put (by omega)).put (by omega)).put (by omega)) this ((am_u2_o (by omega)).trans ((am_u2_o (by omega)).trans ((am_u2_o (by omega)).trans ((am_u2_o (by omega)).trans ht))))
theorem sp_emptyLane (hd : 2 ≤ d) (hm : MS K N P) (hA : MA I W S c T n) (hG : v_G W) {x : Int} (h1 : ¬ (0 ≤ x ∧ x < W 7) → OM K N I P z Q 1 (am_i 0) W S c T n)
    (h2 : 0 ≤ x ∧ x < W 7 → OM K N I P z Q 0 (am_i (W (34 + x))) (v_u W (34 + x) 0) (v_svS S c W) (v_svc c) T n) : am_C d m_X8_emptyLane [am_r 284, am_i x] K N I P z Q am_nx := by
  refine wf_X8_emptyLane (by omega) ⟨hm.1, ?_⟩
  rintro I2 rfl; replace hA := hA.th (x := 0); have hF : FM I (am_u2 I 284 7 0) := FM.rf.put (by omega); have ht : am_u2 I 284 7 0 284 7 = 0 := am_u2_s; have hW := hA.w; generalize am_u2 I 284 7 0 = I1 at *
  have g7 := hG.l7
  refine sp_isLane (by omega) hm hW hG.l7 ?_
  simp only [am_iv, ite_z]
  refine ⟨fun q => ⟨hm.1, sp_save hm hA ?_⟩, fun q => ⟨hm.1, sp_no hm hF hA (h1 q)⟩⟩
  simp only [Decidable.not_not] at q
  intro I2 hF2 hA2 ht2; replace hF := hF.tr hF2; replace ht := ht2.trans ht; have hW := hA2.w; clear hF2 ht2
  obtain ⟨k0, p0, p1, p2, p3, p4, k1, n1, k2, n2, k3, n3, k4, n4, k5, n5⟩ := id hm
  obtain ⟨w0, w1, w2, w3, w4, w5, w6, w7, w8, w9, w10, w11⟩ := hW.lits; have hw := hW.all
  simp (disch := omega) only [k0, p0, p1, p2, p3, p4, k1, n1, k2, n2, k3, n3, k4, n4, k5, n5, true_and, and_true, Option.some.injEq, exists_eq_left', am_wE, and_dr, imp_dr, imp_df, true_imp_iff, false_imp_iff, not_true_eq_false, not_false_eq_true, hw, w0, w1, w2, w3, w4, w5, w6, w7, w8, w9, w10, w11 , forall_eq]
  exact h2 q _ (hF.put (by omega)) (hA2.put (by omega)) ((am_u2_o (by omega)).trans ht)
theorem sp_takeOff (hd : 2 ≤ d) (hm : MS K N P) (hA : MA I W S c T n) (hG : v_G W) {x : Int} (h1 : ¬ (0 ≤ x ∧ x < W 9) → OM K N I P z Q 1 (am_i 0) W S c T n) (h2 : 0 ≤ x ∧ x < W 9 → ¬ W (800 + x) = 0 → OM K N I P z Q 2 (am_i 0) W S c T n)
    (h3 : 0 ≤ x ∧ x < W 9 → W (800 + x) = 0 → OM K N I P z Q 0 (am_i (W (500 + x))) (v_u W (800 + x) 9) (v_svS S c W) (v_svc c) T n) : am_C d m_X8_takeOff [am_r 284, am_i x] K N I P z Q am_nx := by
  refine wf_X8_takeOff (by omega) ⟨hm.1, ?_⟩
  rintro I2 rfl; replace hA := hA.th (x := 0); have hF : FM I (am_u2 I 284 7 0) := FM.rf.put (by omega); have ht : am_u2 I 284 7 0 284 7 = 0 := am_u2_s; have hW := hA.w; generalize am_u2 I 284 7 0 = I1 at *
  have g9 := hG.n9
  refine sp_isPart (by omega) hm hW hG.n9 ?_
  simp only [am_iv, ite_z]
  refine ⟨fun q => ⟨hm.1, ?_⟩, fun q => ⟨hm.1, sp_no hm hF hA (h1 q)⟩⟩
  simp only [Decidable.not_not] at q
  refine sp_isOn hm hW (by omega) (by omega) ?_
  simp only [am_iv, ite_z]
  refine ⟨fun q2 => ⟨hm.1, sp_save hm hA ?_⟩, fun q2 => ⟨hm.1, sp_no hm hF hA (h2 q q2)⟩⟩
  simp only [Decidable.not_not] at q2
  intro I2 hF2 hA2 ht2; replace hF := hF.tr hF2; replace ht := ht2.trans ht; have hW := hA2.w; clear hF2 ht2
  obtain ⟨k0, p0, p1, p2, p3, p4, k1, n1, k2, n2, k3, n3, k4, n4, k5, n5⟩ := id hm
  obtain ⟨w0, w1, w2, w3, w4, w5, w6, w7, w8, w9, w10, w11⟩ := hW.lits; have hw := hW.all
  simp (disch := omega) only [k0, p0, p1, p2, p3, p4, k1, n1, k2, n2, k3, n3, k4, n4, k5, n5, true_and, and_true, Option.some.injEq, exists_eq_left', am_wE, and_dr, imp_dr, imp_df, true_imp_iff, false_imp_iff, not_true_eq_false, not_false_eq_true, hw, w0, w1, w2, w3, w4, w5, w6, w7, w8, w9, w10, w11 , forall_eq, am_u2_o285]
  exact h3 q q2 _ (hF.put (by omega)) (hA2.put (by omega)) ((am_u2_o (by omega)).trans ht)
theorem sp_setting (hd : 1 ≤ d) (hm : MS K N P) (hA : MA I W S c T n) {x : Int} (h1 : ¬ (0 ≤ x ∧ x ≤ 5) → OM K N I P z Q 1 (am_i 0) W S c T n) (h2 : 0 ≤ x ∧ x ≤ 5 → OM K N I P z Q 0 (am_i (W (1 + x))) W S c T n) : am_C d m_X8_setting [am_r 284, am_i x] K N I P z Q am_nx := by
  refine wf_X8_setting (by omega) ⟨hm.1, ?_⟩
  rintro I2 rfl; replace hA := hA.th (x := 0); have hF : FM I (am_u2 I 284 7 0) := FM.rf.put (by omega); have ht : am_u2 I 284 7 0 284 7 = 0 := am_u2_s; have hW := hA.w; generalize am_u2 I 284 7 0 = I1 at *
  refine sp_in ?_
  simp only [am_iv, ite_z]
  refine ⟨fun q => ⟨hm.1, sp_no hm hF hA (h1 q)⟩, fun q => ?_⟩
  simp only [Decidable.not_not] at q
  obtain ⟨k0, p0, p1, p2, p3, p4, k1, n1, k2, n2, k3, n3, k4, n4, k5, n5⟩ := id hm
  obtain ⟨w0, w1, w2, w3, w4, w5, w6, w7, w8, w9, w10, w11⟩ := hW.lits; have hw := hW.all
  simp (disch := omega) only [k0, p0, p1, p2, p3, p4, k1, n1, k2, n2, k3, n3, k4, n4, k5, n5, true_and, and_true, Option.some.injEq, exists_eq_left', am_wE, and_dr, imp_dr, imp_df, true_imp_iff, false_imp_iff, not_true_eq_false, not_false_eq_true, hw, w0, w1, w2, w3, w4, w5, w6, w7, w8, w9, w10, w11 ]
  exact h2 q _ hF hA ht
end
