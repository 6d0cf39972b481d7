/-- a row's sum, as the machine adds -/
def v_sum (f : Int → Int) : Nat → Int
  | 0 => 0
  | n + 1 => am_wr (v_sum f n + f n)
abbrev v_rts (W : Int → Int) (l : Int) : Int := v_cnt (fun k => decide (W (76 + k) = l)) (W 8).toNat
section
variable {d : Nat} {K N : Nat → Nat} {I I1 : Nat → Nat → Int} {P : Nat → Nat → Option Nat} {z : Nat} {Q : am_V → am_T} {W : Int → Int} {S : Int → Int → Int} {c : Int} {T : Int → Int} {n : Int}
theorem sp_sum (hm : MS K N P) (hW : MW I W) (hl : 0 ≤ W 9 ∧ W 9 ≤ 300) {a : Int} (ha : 0 ≤ a ∧ a ≤ 2900) (h : Q (am_i (v_sum (fun p => W (a + p)) (W 9).toNat)) K N I P z) : am_C d m_X8_sum [am_r 284, am_i a] K N I P z Q am_nx := by
  refine wf_X8_sum ?_
  have key : ∀ (m j : Nat), (j : Int) + m = W 9 → L_X8_sum_4 d 284 a (v_sum (fun p => W (a + p)) j) j K N I P z Q := by
    intro m
    induction m with
    | zero =>
      intro j hj
      refine wf_X8_sum_4 ?_
      obtain ⟨k0, p0, p1, p2, p3, p4, k1, n1, k2, n2, k3, n3, k4, n4, k5, n5⟩ := id hm
      obtain ⟨w0, w1, w2, w3, w4, w5, w6, w7, w8, w9, w10, w11⟩ := hW.lits; have hw := hW.all
      simp (disch := omega) only [k0, p0, p1, p2, p3, p4, k1, n1, k2, n2, k3, n3, k4, n4, k5, n5, true_and, and_true, Option.some.injEq, exists_eq_left', am_wE, and_dr, imp_dr, imp_df, true_imp_iff, false_imp_iff, not_true_eq_false, not_false_eq_true, hw, w0, w1, w2, w3, w4, w5, w6, w7, w8, w9, w10, w11 ]
      rw [show j = (W 9).toNat by omega]; exact h
    | succ m ih =>
      intro j hj
      have ih2 := ih (j + 1) (by omega)
      rw [v_sum] at ih2
      generalize v_sum (fun p => W (a + p)) j = e at *
      refine wf_X8_sum_4 ?_
      obtain ⟨k0, p0, p1, p2, p3, p4, k1, n1, k2, n2, k3, n3, k4, n4, k5, n5⟩ := id hm
      obtain ⟨w0, w1, w2, w3, w4, w5, w6, w7, w8, w9, w10, w11⟩ := hW.lits; have hw := hW.all
      simp (disch := omega) only [k0, p0, p1, p2, p3, p4, k1, n1, k2, n2, k3, n3, k4, n4, k5, n5, true_and, and_true, Option.some.injEq, exists_eq_left', am_wE, and_dr, imp_dr, imp_df, true_imp_iff, false_imp_iff, not_true_eq_false, not_false_eq_true, hw, w0, w1, w2, w3, w4, w5, w6, w7, w8, w9, w10, w11 ]
      exact ih2
  exact key (W 9).toNat 0 (by omega)
theorem sp_routesTo (hd : 1 ≤ d) (hm : MS K N P) (hW : MW I W) (hl : 0 ≤ W 8 ∧ W 8 ≤ 30) {a : Int} (h : Q (am_i (v_rts W a)) K N I P z) : am_C d m_X8_routesTo [am_r 284, am_i a] K N I P z Q am_nx := by
  refine wf_X8_routesTo ?_
  have key : ∀ (m j : Nat), (j : Int) + m = W 8 → L_X8_routesTo_4 d 284 a (v_cnt (fun k => decide (W (76 + k) = a)) j) j K N I P z Q := by
    intro m
    induction m with
    | zero =>
      intro j hj
      refine wf_X8_routesTo_4 (by omega) ?_
      obtain ⟨k0, p0, p1, p2, p3, p4, k1, n1, k2, n2, k3, n3, k4, n4, k5, n5⟩ := id hm
      obtain ⟨w0, w1, w2, w3, w4, w5, w6, w7, w8, w9, w10, w11⟩ := hW.lits; have hw := hW.all
      simp (disch := omega) only [k0, p0, p1, p2, p3, p4, k1, n1, k2, n2, k3, n3, k4, n4, k5, n5, true_and, and_true, Option.some.injEq, exists_eq_left', am_wE, and_dr, imp_dr, imp_df, true_imp_iff, false_imp_iff, not_true_eq_false, not_false_eq_true, hw, w0, w1, w2, w3, w4, w5, w6, w7, w8, w9, w10, w11 ]
      rw [show j = (W 8).toNat by omega]; exact h
    | succ m ih =>
      intro j hj
      have ih2 := ih (j + 1) (by omega)
      have bd := v_cnt_bd (fun k => decide (W (76 + k) = a)) j
      rw [v_cnt] at ih2
      generalize v_cnt (fun k => decide (W (76 + k) = a)) j = e at *
      simp only [decide_eq_true_eq, Int.natCast_add, Int.cast_ofNat_Int] at ih2
      refine wf_X8_routesTo_4 (by omega) ?_
      obtain ⟨k0, p0, p1, p2, p3, p4, k1, n1, k2, n2, k3, n3, k4, n4, k5, n5⟩ := id hm
      obtain ⟨w0, w1, w2, w3, w4, w5, w6, w7, w8, w9, w10, w11⟩ := hW.lits; have hw := hW.all
      simp (disch := omega) only [k0, p0, p1, p2, p3, p4, k1, n1, k2, n2, k3, n3, k4, n4, k5, n5, true_and, and_true, Option.some.injEq, exists_eq_left', am_wE, and_dr, imp_dr, imp_df, true_imp_iff, false_imp_iff, not_true_eq_false, not_false_eq_true, hw, w0, w1, w2, w3, w4, w5, w6, w7, w8, w9, w10, w11 ]
      refine ⟨fun q => ?_, fun q => ?_⟩
      · refine sp_one ?_
        rw [if_neg q] at ih2
        simp only [am_iv, if_true]
        rw [am_wE (by omega) (by omega)]
        exact ih2
      · refine sp_one ?_
        rw [if_pos q] at ih2
        simp only [am_iv]
        rw [if_neg (by decide), am_wE (by omega) (by omega)]
        exact ih2
  exact key (W 8).toNat 0 (by omega)
end
