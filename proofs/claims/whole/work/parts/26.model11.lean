section
variable {d : Nat} {K N : Nat → Nat} {I I1 : Nat → Nat → Int} {P : Nat → Nat → Option Nat} {z : Nat} {Q : am_V → am_T} {W : Int → Int} {S : Int → Int → Int} {c : Int} {T : Int → Int} {n : Int}
theorem sp_append (hd : 1 ≤ d) (hm : MS K N P) (hA : MA I W S c T n) {x : Int} (h1 : ¬ (32 ≤ x ∧ x ≤ 126) → OM K N I P z Q 1 (am_i 0) W S c T n) (h2 : 32 ≤ x ∧ x ≤ 126 → n = 80 → OM K N I P z Q 2 (am_i 0) W S c T n) (h3 : 32 ≤ x ∧ x ≤ 126 → ¬ n = 80 → OM K N I P z Q 0 (am_i (n + 1)) W S c (v_u T n x) (n + 1)) : am_C d m_X8_append [am_r 284, am_i x] K N I P z Q am_nx := by
  refine wf_X8_append hd ⟨hm.1, ?_⟩
  rintro I2 rfl; replace hA := hA.th (x := 0); have hF : FM I (am_u2 I 284 7 0) := FM.rf.put (by omega); have ht : am_u2 I 284 7 0 284 7 = 0 := am_u2_s; have hW := hA.w; generalize am_u2 I 284 7 0 = I1 at *
  refine sp_in ?_
  simp only [am_iv, ite_z]
  refine ⟨fun q => ⟨hm.1, ?_⟩, fun q => ⟨hm.1, sp_no hm hF hA (h1 q)⟩⟩
  simp only [Decidable.not_not] at q
  have hA2 := hA
  obtain ⟨hW, a1, a2, a3, a4, a5, a6⟩ := hA
  rw [a2]
  refine ⟨fun q2 => ?_, fun q2 => sp_no hm hF hA2 (h2 q q2)⟩
  obtain ⟨k0, p0, p1, p2, p3, p4, k1, n1, k2, n2, k3, n3, k4, n4, k5, n5⟩ := id hm
  simp (disch := omega) only [k0, p0, p1, p2, p3, p4, k1, n1, k2, n2, k3, n3, k4, n4, k5, n5, true_and, and_true, Option.some.injEq, exists_eq_left', am_wE, and_dr, imp_dr, imp_df, true_imp_iff, false_imp_iff, not_true_eq_false, not_false_eq_true, forall_eq, am_u2_o, am_u2_s, a2]
  refine h3 q q2 _ ((hF.put (by omega)).put (by omega)) ⟨fun i a b => (am_u2_o (by omega)).trans ((am_u2_o (by omega)).trans (hW i a b)), (am_u2_o (by omega)).trans ((am_u2_o (by omega)).trans a1), am_u2_s, ?_, ?_, a5, by omega⟩ ((am_u2_o (by omega)).trans ((am_u2_o (by omega)).trans ht))
  · intro i k a b e f
    rw [am_u2_o (by omega), am_u2_o (by omega)]
    exact a3 i k a b e f
  · intro k a b
    rw [am_u2_o (by omega)]
    unfold v_u
    by_cases e : k = n
    · subst e; rw [am_u2_s, if_pos rfl]
    · rw [am_u2_o (by omega), if_neg e]; exact a4 k a b
end
