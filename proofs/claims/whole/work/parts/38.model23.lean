section
variable {d : Nat} {K N : Nat → Nat} {I I1 : Nat → Nat → Int} {P : Nat → Nat → Option Nat} {z : Nat} {Q : am_V → am_T} {W : Int → Int} {S : Int → Int → Int} {c : Int} {T : Int → Int} {n : Int}
/-- what part answers of a property -/
def v_pp (W : Int → Int) (x y : Int) : Int := if y = 0 then W (200 + x) else if y = 1 then W (800 + x) else if y = 2 then W (500 + x) else if y = 3 then W (1100 + x) else if y = 4 then W (1400 + x) else if y = 5 then W (1700 + x) else if y = 6 then W (2000 + x) else if y = 7 then W (2300 + x) else if y = 8 then (if W (800 + x) = 0 then v_lo W x else -1) else W (2600 + x)
theorem sp_part (hd : 7 ≤ d) (hm : MS K N P) (hA : MA I W S c T n) (hG : v_G W) {x y : Int} (h1 : ¬ (0 ≤ x ∧ x < W 9) → OM K N I P z Q 1 (am_i 0) W S c T n) (h2 : 0 ≤ x ∧ x < W 9 → ¬ (0 ≤ y ∧ y ≤ 9) → OM K N I P z Q 2 (am_i 0) W S c T n)
    (h3 : 0 ≤ x ∧ x < W 9 → 0 ≤ y ∧ y ≤ 9 → OM K N I P z Q 0 (am_i (v_pp W x y)) W S c T n) : am_C d m_X8_part [am_r 284, am_i x, am_i y] K N I P z Q am_nx := by
  refine wf_X8_part (by omega) ⟨hm.1, ?_⟩
  rintro I2 rfl; replace hA := hA.th (x := 0); have hF : FM I (am_u2 I 284 7 0) := FM.rf.put (by omega); have ht : am_u2 I 284 7 0 284 7 = 0 := am_u2_s; have hW := hA.w; generalize am_u2 I 284 7 0 = I1 at *
  have g9 := hG.n9
  refine sp_isPart (by omega) hm hW hG.n9 ?_
  simp only [am_iv, ite_z]
  refine ⟨fun q => ?_, fun q => ⟨hm.1, sp_no hm hF hA (h1 q)⟩⟩
  simp only [Decidable.not_not] at q
  have h3 := h3 q
  unfold v_pp at h3
  obtain ⟨k0, p0, p1, p2, p3, p4, k1, n1, k2, n2, k3, n3, k4, n4, k5, n5⟩ := id hm
  obtain ⟨w0, w1, w2, w3, w4, w5, w6, w7, w8, w9, w10, w11⟩ := hW.lits; have hw := hW.all
  simp (disch := omega) only [k0, p0, p1, p2, p3, p4, k1, n1, k2, n2, k3, n3, k4, n4, k5, n5, true_and, and_true, Option.some.injEq, exists_eq_left', am_wE, and_dr, imp_dr, imp_df, true_imp_iff, false_imp_iff, not_true_eq_false, not_false_eq_true, hw, w0, w1, w2, w3, w4, w5, w6, w7, w8, w9, w10, w11 ]
  refine ⟨fun e => ?_, fun e => ?_, fun e => ?_, fun e => ?_, fun e => ?_, fun e => ?_, fun e => ?_, fun e => ?_, fun e => ?_, fun e => ?_, fun e => sp_no hm hF hA (h2 q (by omega))⟩
  · subst e; exact h3 (by decide) _ hF hA ht
  · subst e; exact h3 (by decide) _ hF hA ht
  · subst e; exact h3 (by decide) _ hF hA ht
  · subst e; exact h3 (by decide) _ hF hA ht
  · subst e; exact h3 (by decide) _ hF hA ht
  · subst e; exact h3 (by decide) _ hF hA ht
  · subst e; exact h3 (by decide) _ hF hA ht
  · subst e; exact h3 (by decide) _ hF hA ht
  · subst e
    have h3 := h3 (by decide)
    refine sp_isOn hm hW (by omega) (by omega) ?_
    simp only [am_iv, ite_z]
    by_cases r : W (800 + x) = 0
    · simp only [r, not_true_eq_false, not_false_eq_true, true_imp_iff, false_imp_iff, true_and, and_true, if_true] at h3 ⊢
      refine ⟨k0, sp_laneOf (by omega) hm hW hG q.1 q.2 ?_⟩
      intro I2 hI2 hW2
      simp only [am_iv]
      exact h3 _ (hF.tr hI2.FM) (hA.fr hI2 hW2) ((hI2 284 7 (by omega) (by omega)).trans ht)
    · simp only [r, not_true_eq_false, not_false_eq_true, true_imp_iff, false_imp_iff, true_and, and_true, if_false] at h3 ⊢
      exact h3 _ hF hA ht
  · subst e; exact h3 (by decide) _ hF hA ht
def v_tot (W : Int → Int) (c n y : Int) : Int := if y = 0 then W 0 else if y = 1 then W 9 else if y = 2 then v_ob W else if y = 3 then v_fts W 10 15 else if y = 4 then v_fts W 1 6 else if y = 5 then v_fts W 9 9 else if y = 6 then W 7 else if y = 7 then W 8 else if y = 8 then W 10 else if y = 9 then v_sum (fun p => W (2300 + p)) (W 9).toNat else if y = 10 then v_sum (fun p => W (2000 + p)) (W 9).toNat else if y = 11 then v_sum (fun p => W (1400 + p)) (W 9).toNat else if y = 12 then v_sum (fun p => W (1700 + p)) (W 9).toNat else if y = 13 then c else n
theorem sp_total (hd : 3 ≤ d) (hm : MS K N P) (hA : MA I W S c T n) (hG : v_G W) {y : Int} (h1 : ¬ (0 ≤ y ∧ y ≤ 14) → OM K N I P z Q 1 (am_i 0) W S c T n) (h2 : 0 ≤ y ∧ y ≤ 14 → OM K N I P z Q 0 (am_i (v_tot W c n y)) W S c T n) : am_C d m_X8_total [am_r 284, am_i y] K N I P z Q am_nx := by
  refine wf_X8_total (by omega) ⟨hm.1, ?_⟩
  rintro I2 rfl; replace hA := hA.th (x := 0); have hF : FM I (am_u2 I 284 7 0) := FM.rf.put (by omega); have ht : am_u2 I 284 7 0 284 7 = 0 := am_u2_s; have hW := hA.w; generalize am_u2 I 284 7 0 = I1 at *
  have g9 := hG.n9
  unfold v_tot at h2
  obtain ⟨_, a1, a2, _⟩ := id hA
  obtain ⟨k0, p0, p1, p2, p3, p4, k1, n1, k2, n2, k3, n3, k4, n4, k5, n5⟩ := id hm
  obtain ⟨w0, w1, w2, w3, w4, w5, w6, w7, w8, w9, w10, w11⟩ := hW.lits; have hw := hW.all
  simp (disch := omega) only [k0, p0, p1, p2, p3, p4, k1, n1, k2, n2, k3, n3, k4, n4, k5, n5, true_and, and_true, Option.some.injEq, exists_eq_left', am_wE, and_dr, imp_dr, imp_df, true_imp_iff, false_imp_iff, not_true_eq_false, not_false_eq_true, hw, w0, w1, w2, w3, w4, w5, w6, w7, w8, w9, w10, w11 , a1, a2]
  have hh : ∀ e : Int, 0 ≤ y ∧ y ≤ 14 → (e = if y = 0 then W 0 else if y = 1 then W 9 else if y = 2 then v_ob W else if y = 3 then v_fts W 10 15 else if y = 4 then v_fts W 1 6 else if y = 5 then v_fts W 9 9 else if y = 6 then W 7 else if y = 7 then W 8 else if y = 8 then W 10 else if y = 9 then v_sum (fun p => W (2300 + p)) (W 9).toNat else if y = 10 then v_sum (fun p => W (2000 + p)) (W 9).toNat else if y = 11 then v_sum (fun p => W (1400 + p)) (W 9).toNat else if y = 12 then v_sum (fun p => W (1700 + p)) (W 9).toNat else if y = 13 then c else n) → Q (am_i e) K N I1 P z := by
    intro e b q
    rw [q]
    exact h2 b _ hF hA ht
  clear h2
  refine ⟨fun e => ?_, fun e => ?_, fun e => ?_, fun e => ?_, fun e => ?_, fun e => ?_, fun e => ?_, fun e => ?_, fun e => ?_, fun e => ?_, fun e => ?_, fun e => ?_, fun e => ?_, fun e => ?_, fun e => ?_, fun e => sp_no hm hF hA (h1 (by omega))⟩
  · exact hh _ (by omega) (by rw [e]; rfl)
  · exact hh _ (by omega) (by rw [e]; rfl)
  · refine sp_onBelt (by omega) hm hW (n := (W 9).toNat) (by omega) (by omega) ?_
    simp only [am_iv]
    exact hh _ (by omega) (by rw [e]; rfl)
  · refine sp_fates (by omega) hm hW hG.n9 ?_
    simp only [am_iv]
    exact hh _ (by omega) (by rw [e]; rfl)
  · refine sp_fates (by omega) hm hW hG.n9 ?_
    simp only [am_iv]
    exact hh _ (by omega) (by rw [e]; rfl)
  · refine sp_fates (by omega) hm hW hG.n9 ?_
    simp only [am_iv]
    exact hh _ (by omega) (by rw [e]; rfl)
  · exact hh _ (by omega) (by rw [e]; rfl)
  · exact hh _ (by omega) (by rw [e]; rfl)
  · exact hh _ (by omega) (by rw [e]; rfl)
  · refine sp_sum hm hW hG.n9 (by omega) ?_
    simp only [am_iv]
    exact hh _ (by omega) (by rw [e]; rfl)
  · refine sp_sum hm hW hG.n9 (by omega) ?_
    simp only [am_iv]
    exact hh _ (by omega) (by rw [e]; rfl)
  · refine sp_sum hm hW hG.n9 (by omega) ?_
    simp only [am_iv]
    exact hh _ (by omega) (by rw [e]; rfl)
  · refine sp_sum hm hW hG.n9 (by omega) ?_
    simp only [am_iv]
    exact hh _ (by omega) (by rw [e]; rfl)
  · exact hh _ (by omega) (by rw [e]; rfl)
  · exact hh _ (by omega) (by rw [e]; rfl)
end
