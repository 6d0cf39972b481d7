/-- the routes from k on move up by one, so far up to j -/
def v_del (W : Int → Int) (k j : Int) : Int → Int := fun i => if i = 8 then W 8 - 1 else if (46 + k ≤ i ∧ i < 46 + j) ∨ (76 + k ≤ i ∧ i < 76 + j) then W (i + 1) else W i
section
variable {d : Nat} {K N : Nat → Nat} {I I1 : Nat → Nat → Int} {P : Nat → Nat → Option Nat} {z : Nat} {Q : am_V → am_T} {W : Int → Int} {S : Int → Int → Int} {c : Int} {T : Int → Int} {n : Int}
theorem sp_removeRoute (hd : 3 ≤ d) (hm : MS K N P) (hA : MA I W S c T n) (hG : v_G W) {x : Int} (h1 : ¬ (0 ≤ x ∧ x ≤ 999) → OM K N I P z Q 1 (am_i 0) W S c T n) (h2 : 0 ≤ x ∧ x ≤ 999 → ¬ v_has W x → OM K N I P z Q 2 (am_i 0) W S c T n)
    (h3 : 0 ≤ x ∧ x ≤ 999 → v_has W x → OM K N I P z Q 0 (am_i (W (76 + v_place W x))) (v_del W (v_place W x) (W 8 - 1)) (v_svS S c W) (v_svc c) T n) : am_C d m_X8_removeRoute [am_r 284, am_i x] K N I P z Q am_nx := by
  refine wf_X8_removeRoute (by omega) ⟨hm.1, ?_⟩
  rintro I2 rfl; replace hA := hA.th (x := 0); have hF : FM I (am_u2 I 284 7 0) := FM.rf.put (by omega); have ht : am_u2 I 284 7 0 284 7 = 0 := am_u2_s; have hW := hA.w; generalize am_u2 I 284 7 0 = I1 at *
  have g8 := hG.r8
  refine sp_isCode (by omega) ?_
  simp only [am_iv, ite_z]
  refine ⟨fun q => ⟨hm.1, ?_⟩, fun q => ⟨hm.1, sp_no hm hF hA (h1 q)⟩⟩
  simp only [Decidable.not_not] at q
  refine sp_hasRoute (by omega) hm hW hG.r8 ?_
  simp only [am_iv, ite_z]
  refine ⟨fun q2 => ⟨hm.1, sp_save hm hA ?_⟩, fun q2 => ⟨hm.1, sp_no hm hF hA (h2 q q2)⟩⟩
  simp only [Decidable.not_not] at q2
  intro I2 hF2 hA2 ht2; replace hF := hF.tr hF2; replace ht := ht2.trans ht; have hW := hA2.w; clear hF2 ht2
  refine ⟨hm.1, sp_placeOf hm hW hG.r8 ?_⟩
  simp only [am_iv]
  have bk := v_place_bd g8.1 x
  have bl := q2.1
  have h3 := h3 q q2
  generalize v_place W x = k at *
  have key : ∀ (m : Nat) (j : Int) (I' : Nat → Nat → Int), k ≤ j → j + m = W 8 - 1 → FM I I' → MA I' (v_del W k j) (v_svS S c W) (v_svc c) T n → I' 284 7 = 0 → L_X8_removeRoute_66 d 284 (W (76 + k)) j K N I' P z Q := by
    intro m
    induction m with
    | zero =>
      intro j I' j0 j1 hF hA ht
      have hW := hA.w
      have e8 : v_del W k j 8 = W 8 - 1 := if_pos rfl
      refine wf_X8_removeRoute_66 ?_
      obtain ⟨k0, p0, p1, p2, p3, p4, k1, n1, k2, n2, k3, n3, k4, n4, k5, n5⟩ := id hm
      obtain ⟨w0, w1, w2, w3, w4, w5, w6, w7, w8, w9, w10, w11⟩ := hW.lits; have hw := hW.all
      simp (disch := omega) only [k0, p0, p1, p2, p3, p4, k1, n1, k2, n2, k3, n3, k4, n4, k5, n5, true_and, and_true, Option.some.injEq, exists_eq_left', am_wE, and_dr, imp_dr, imp_df, true_imp_iff, false_imp_iff, not_true_eq_false, not_false_eq_true, hw, w0, w1, w2, w3, w4, w5, w6, w7, w8, w9, w10, w11 ]
      rw [show j = W 8 - 1 by omega] at hA
      exact h3 I' hF hA ht
    | succ m ih =>
      intro j I' j0 j1 hF hA ht
      have hW := hA.w
      have e8 : v_del W k j 8 = W 8 - 1 := if_pos rfl
      refine wf_X8_removeRoute_66 ?_
      obtain ⟨k0, p0, p1, p2, p3, p4, k1, n1, k2, n2, k3, n3, k4, n4, k5, n5⟩ := id hm
      obtain ⟨w0, w1, w2, w3, w4, w5, w6, w7, w8, w9, w10, w11⟩ := hW.lits; have hw := hW.all
      simp (disch := omega) only [k0, p0, p1, p2, p3, p4, k1, n1, k2, n2, k3, n3, k4, n4, k5, n5, true_and, and_true, Option.some.injEq, exists_eq_left', am_wE, and_dr, imp_dr, imp_df, true_imp_iff, false_imp_iff, not_true_eq_false, not_false_eq_true, hw, w0, w1, w2, w3, w4, w5, w6, w7, w8, w9, w10, w11 , forall_eq, am_u2_o285]
      have ea : v_del W k j (46 + j + 1) = W (46 + j + 1) := by unfold v_del; rw [if_neg (by omega), if_neg (by omega)]
      have eb : v_del W k j (76 + j + 1) = W (76 + j + 1) := by unfold v_del; rw [if_neg (by omega), if_neg (by omega)]
      rw [ea, eb]
      refine ih (j + 1) _ (by omega) (by omega) ((hF.put (by omega)).put (by omega)) (((hA.put (by omega)).put (by omega)).cg ?_) ((am_u2_o (by omega)).trans ((am_u2_o (by omega)).trans ht))
      intro i _ _
      unfold v_u v_del
      by_cases c1 : i = 76 + j
      · subst c1
        rw [if_pos rfl, if_neg (by omega), if_pos (by omega)]
      rw [if_neg c1]
      by_cases c2 : i = 46 + j
      · subst c2
        rw [if_pos rfl, if_neg (by omega), if_pos (by omega)]
      rw [if_neg c2]
      by_cases c3 : i = 8
      · rw [if_pos c3, if_pos c3]
      rw [if_neg c3, if_neg c3]
      by_cases c4 : (46 + k ≤ i ∧ i < 46 + j) ∨ (76 + k ≤ i ∧ i < 76 + j)
      · rw [if_pos c4, if_pos (by omega)]
      · rw [if_neg c4, if_neg (by omega)]
  obtain ⟨k0, p0, p1, p2, p3, p4, k1, n1, k2, n2, k3, n3, k4, n4, k5, n5⟩ := id hm
  obtain ⟨w0, w1, w2, w3, w4, w5, w6, w7, w8, w9, w10, w11⟩ := hW.lits; have hw := hW.all
  simp (disch := omega) only [k0, p0, p1, p2, p3, p4, k1, n1, k2, n2, k3, n3, k4, n4, k5, n5, true_and, and_true, Option.some.injEq, exists_eq_left', am_wE, and_dr, imp_dr, imp_df, true_imp_iff, false_imp_iff, not_true_eq_false, not_false_eq_true, hw, w0, w1, w2, w3, w4, w5, w6, w7, w8, w9, w10, w11 , forall_eq]
  refine key (W 8 - 1 - k).toNat k _ (by omega) (by omega) (hF.put (by omega)) ((hA2.put (i := 8) (by omega)).cg ?_) ((am_u2_o (by omega)).trans ht)
  intro i _ _
  unfold v_u v_del
  by_cases c3 : i = 8
  · rw [if_pos c3, if_pos c3]
  · rw [if_neg c3, if_neg c3, if_neg (by omega)]
end
