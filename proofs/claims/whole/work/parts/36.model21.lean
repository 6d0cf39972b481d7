section
variable {d : Nat} {K N : Nat → Nat} {I I1 : Nat → Nat → Int} {P : Nat → Nat → Option Nat} {z : Nat} {Q : am_V → am_T} {W : Int → Int} {S : Int → Int → Int} {c : Int} {T : Int → Int} {n : Int}
theorem sp_lane (hd : 2 ≤ d) (hm : MS K N P) (hA : MA I W S c T n) (hG : v_G W) {x y : Int} (h1 : ¬ (0 ≤ x ∧ x < W 7) → OM K N I P z Q 1 (am_i 0) W S c T n) (h2 : 0 ≤ x ∧ x < W 7 → (y < 0 ∨ 5 < y) → OM K N I P z Q 2 (am_i 0) W S c T n)
    (h3 : 0 ≤ x ∧ x < W 7 → 0 ≤ y → y ≤ 4 → OM K N I P z Q 0 (am_i (W (16 + 6 * y + x))) W S c T n) (h4 : 0 ≤ x ∧ x < W 7 → y = 5 → OM K N I P z Q 0 (am_i (v_rts W x)) W S c T n) : am_C d m_X8_lane [am_r 284, am_i x, am_i y] K N I P z Q am_nx := by
  refine wf_X8_lane (by omega) ⟨hm.1, ?_⟩
  rintro I2 rfl; replace hA := hA.th (x := 0); have hF : FM I (am_u2 I 284 7 0) := FM.rf.put (by omega); have ht : am_u2 I 284 7 0 284 7 = 0 := am_u2_s; have hW := hA.w; generalize am_u2 I 284 7 0 = I1 at *
  have g7 := hG.l7
  refine sp_isLane (by omega) hm hW hG.l7 ?_
  simp only [am_iv, ite_z]
  refine ⟨fun q => ?_, fun q => ⟨hm.1, sp_no hm hF hA (h1 q)⟩⟩
  simp only [Decidable.not_not] at q
  have h3 := h3 q
  obtain ⟨k0, p0, p1, p2, p3, p4, k1, n1, k2, n2, k3, n3, k4, n4, k5, n5⟩ := id hm
  obtain ⟨w0, w1, w2, w3, w4, w5, w6, w7, w8, w9, w10, w11⟩ := hW.lits; have hw := hW.all
  simp (disch := omega) only [k0, p0, p1, p2, p3, p4, k1, n1, k2, n2, k3, n3, k4, n4, k5, n5, true_and, and_true, Option.some.injEq, exists_eq_left', am_wE, and_dr, imp_dr, imp_df, true_imp_iff, false_imp_iff, not_true_eq_false, not_false_eq_true, hw, w0, w1, w2, w3, w4, w5, w6, w7, w8, w9, w10, w11 ]
  refine ⟨fun e => ?_, fun e => ?_, fun e => ?_, fun e => ?_, fun e => ?_, fun e => sp_routesTo (by omega) hm hW hG.r8 (h4 q e _ hF hA ht), fun e => sp_no hm hF hA (h2 q e)⟩ <;> subst e <;> exact h3 (by decide) (by decide) _ hF hA ht
end
