/-- ranked before -/
def v_rb (W : Int → Int) (p q : Int) : Bool := if v_lo W p = -1 ∨ v_lo W q = -1 then decide (¬ v_lo W p = -1 ∨ (v_lo W q = -1 ∧ p < q)) else decide (W (16 + v_lo W p) - v_md W p < W (16 + v_lo W q) - v_md W q ∨ (W (16 + v_lo W p) - v_md W p = W (16 + v_lo W q) - v_md W q ∧ p < q))
abbrev v_rkf (W : Int → Int) (p : Int) : Int → Bool := fun q => decide (W (800 + q) = 0 ∧ ¬ q = p ∧ v_rb W q p = true)
def v_rkd (W : Int → Int) (r : Int) : Nat → Int → Int
  | 0, _ => -1
  | m + 1, p => if W (800 + p) = 0 ∧ v_cnt (v_rkf W p) (W 9).toNat = r then p else v_rkd W r m (p + 1)
section
variable {d : Nat} {K N : Nat → Nat} {I I1 : Nat → Nat → Int} {P : Nat → Nat → Option Nat} {z : Nat} {Q : am_V → am_T} {W : Int → Int} {S : Int → Int → Int} {c : Int} {T : Int → Int} {n : Int}
theorem sp_isRankedBefore (hd : 7 ≤ d) (hm : MS K N P) (hW : MW I W) (hG : v_G W) {p q : Int} (u0 : 0 ≤ p) (u1 : p < W 9) (u2 : 0 ≤ q) (u3 : q < W 9) (h : ∀ I', FR I I' → MW I' W → Q (am_i (if v_rb W p q = true then 1 else 0)) K N I' P z) : am_C d m_X8_isRankedBefore [am_r 284, am_i p, am_i q] K N I P z Q am_nx := by
  refine wf_X8_isRankedBefore (by omega) ⟨hm.1, sp_laneOf (by omega) hm hW hG u0 u1 ?_⟩
  intro I2 f2 hW2
  simp only [am_iv]
  refine ⟨hm.1, sp_laneOf (by omega) hm hW2 hG u2 u3 ?_⟩
  intro I3 f3 hW3
  simp only [am_iv]
  have h := h I3 (f2.tr f3) hW3
  have b1 := hG.lo (p := p)
  have b2 := hG.lo (p := q)
  have g7 := hG.l7
  have gp := hG.pt p u0 u1
  have gq := hG.pt q u2 u3
  unfold v_rb at h
  simp only [v_md] at h
  generalize v_lo W p = a at *
  generalize v_lo W q = b at *
  clear hW hW2
  by_cases ca : a = -1
  · rw [if_pos (Or.inl ca)] at h
    simp only [ca, not_true_eq_false, true_imp_iff, false_imp_iff, true_and, and_true, decide_eq_true_eq, false_or] at h ⊢
    refine ⟨fun cb => ?_, fun cb => ⟨fun cc => ?_, fun cc => ?_⟩⟩
    · rw [if_neg (fun r => cb r.1)] at h; exact h
    · rw [if_neg (fun r => absurd r.2 (by omega))] at h; exact h
    · rw [if_pos ⟨cb, by omega⟩] at h; exact h
  · by_cases cb : b = -1
    · rw [if_pos (Or.inr cb)] at h
      simp only [ca, cb, not_true_eq_false, not_false_eq_true, true_imp_iff, false_imp_iff, true_and, and_true, decide_eq_true_eq, true_or, if_true] at h ⊢
      exact h
    · have hn : ¬ (a = -1 ∨ b = -1) := by omega
      rw [if_neg hn] at h
      have gl := hG.ln a (by omega) (by omega)
      have gl2 := hG.ln b (by omega) (by omega)
      simp only [ca, cb, not_true_eq_false, not_false_eq_true, true_imp_iff, false_imp_iff, true_and, and_true, decide_eq_true_eq] at h ⊢
      obtain ⟨k0, p0, p1, p2, p3, p4, k1, n1, k2, n2, k3, n3, k4, n4, k5, n5⟩ := id hm
      have hw := hW3.all
      simp (disch := omega) only [k0, p0, p1, p2, p3, p4, k1, n1, k2, n2, k3, n3, k4, n4, k5, n5, true_and, and_true, Option.some.injEq, exists_eq_left', am_wE, and_dr, imp_dr, imp_df, true_imp_iff, false_imp_iff, not_true_eq_false, not_false_eq_true, hw]
      refine sp_middleG hm hW3 hG u0 u1 ?_
      simp only [am_iv]
      simp (disch := omega) only [k0, p0, p1, p2, p3, p4, k1, n1, k2, n2, k3, n3, k4, n4, k5, n5, true_and, and_true, Option.some.injEq, exists_eq_left', am_wE, and_dr, imp_dr, imp_df, true_imp_iff, false_imp_iff, not_true_eq_false, not_false_eq_true, hw]
      refine sp_middleG hm hW3 hG u2 u3 ?_
      simp only [am_iv]
      simp (disch := omega) only [k0, p0, p1, p2, p3, p4, k1, n1, k2, n2, k3, n3, k4, n4, k5, n5, true_and, and_true, Option.some.injEq, exists_eq_left', am_wE, and_dr, imp_dr, imp_df, true_imp_iff, false_imp_iff, not_true_eq_false, not_false_eq_true, hw]
      refine ⟨fun cc => ?_, fun cc => ⟨fun ce => ?_, fun ce => ⟨fun cf => ?_, fun cf => ?_⟩⟩⟩
      · rw [if_pos (Or.inl cc)] at h; exact h
      · rw [if_neg (fun r => by rcases r with r | r; exact cc r; exact ce r.1)] at h; exact h
      · rw [if_neg (fun r => by rcases r with r | r; exact cc r; omega)] at h; exact h
      · rw [if_pos (Or.inr ⟨ce, by omega⟩)] at h; exact h
theorem sp_ranked (hd : 8 ≤ d) (hm : MS K N P) (hA : MA I W S c T n) (hG : v_G W) {r : Int} (h1 : r < 0 → OM K N I P z Q 1 (am_i 0) W S c T n) (h2 : 0 ≤ r → OM K N I P z Q 0 (am_i (v_rkd W r (W 9).toNat 0)) W S c T n) : am_C d m_X8_ranked [am_r 284, am_i r] K N I P z Q am_nx := by
  refine wf_X8_ranked (by omega) ⟨hm.1, ?_⟩
  rintro I2 rfl; replace hA := hA.th (x := 0); have hF : FM I (am_u2 I 284 7 0) := FM.rf.put (by omega); have ht : am_u2 I 284 7 0 284 7 = 0 := am_u2_s; have hW := hA.w; generalize am_u2 I 284 7 0 = I1 at *
  have g9 := hG.n9
  refine ⟨fun r0 => ?_, fun r0 => sp_no hm hF hA (h1 (by omega))⟩
  have h2 := h2 r0
  have key : ∀ (m : Nat) (p : Int) (I' : Nat → Nat → Int), 0 ≤ p → p + m = W 9 → FM I I' → MA I' W S c T n → I' 284 7 = 0 → (∀ I'', FM I I'' → MA I'' W S c T n → I'' 284 7 = 0 → Q (am_i (v_rkd W r m p)) K N I'' P z) → L_X8_ranked_17 d 284 r p K N I' P z Q := by
    intro m
    induction m with
    | zero =>
      intro p I' p0 p1 hF hA ht hh
      have hW := hA.w
      refine wf_X8_ranked_17 ?_
      obtain ⟨k0, p0, p1, p2, p3, p4, k1, n1, k2, n2, k3, n3, k4, n4, k5, n5⟩ := id hm
      obtain ⟨w0, w1, w2, w3, w4, w5, w6, w7, w8, w9, w10, w11⟩ := hW.lits; have hw := hW.all
      simp (disch := omega) only [k0, p0, p1, p2, p3, p4, k1, n1, k2, n2, k3, n3, k4, n4, k5, n5, true_and, and_true, Option.some.injEq, exists_eq_left', am_wE, and_dr, imp_dr, imp_df, true_imp_iff, false_imp_iff, not_true_eq_false, not_false_eq_true, hw, w0, w1, w2, w3, w4, w5, w6, w7, w8, w9, w10, w11 ]
      exact hh I' hF hA ht
    | succ m ih =>
      intro p I' p0 p1 hF hA ht hh
      unfold v_rkd at hh
      have key2 : ∀ (k j : Nat) (I' : Nat → Nat → Int), (j : Int) + k = W 9 → FM I I' → MA I' W S c T n → I' 284 7 = 0 → (W (800 + p) = 0 ∨ j = 0) → L_X8_ranked_33 d 284 r p (v_cnt (v_rkf W p) j) j K N I' P z Q := by
        intro k
        have off : ∀ I', FM I I' → MA I' W S c T n → I' 284 7 = 0 → ¬ W (800 + p) = 0 → L_X8_ranked_17 d 284 r (p + 1) K N I' P z Q := by
          intro I' hF hA ht c2
          refine ih (p + 1) I' (by omega) (by omega) hF hA ht ?_
          intro I'' f1 f2 f3
          have := hh I'' f1 f2 f3
          rw [if_neg (fun q => c2 q.1)] at this
          exact this
        induction k with
        | zero =>
          intro j I' hj hF hA ht _
          have hW := hA.w
          refine wf_X8_ranked_33 (by omega) ?_
          obtain ⟨k0, p0, p1, p2, p3, p4, k1, n1, k2, n2, k3, n3, k4, n4, k5, n5⟩ := id hm
          obtain ⟨w0, w1, w2, w3, w4, w5, w6, w7, w8, w9, w10, w11⟩ := hW.lits; have hw := hW.all
          simp (disch := omega) only [k0, p0, p1, p2, p3, p4, k1, n1, k2, n2, k3, n3, k4, n4, k5, n5, true_and, and_true, Option.some.injEq, exists_eq_left', am_wE, and_dr, imp_dr, imp_df, true_imp_iff, false_imp_iff, not_true_eq_false, not_false_eq_true, hw, w0, w1, w2, w3, w4, w5, w6, w7, w8, w9, w10, w11 ]
          refine sp_isOn hm hW (by omega) (by omega) ?_
          simp only [am_iv, ite_z]
          refine ⟨off I' hF hA ht, fun c2 => ⟨fun c3 => ?_, fun c3 => ?_⟩⟩
          · simp only [Decidable.not_not] at c2
            refine ih (p + 1) I' (by omega) (by omega) hF hA ht ?_
            intro I'' f1 f2 f3
            have := hh I'' f1 f2 f3
            rw [if_neg (fun q => c3 (by rw [show j = (W 9).toNat by omega]; exact q.2))] at this
            exact this
          · simp only [Decidable.not_not] at c2
            have := hh I' hF hA ht
            rw [if_pos ⟨c2, by rw [show (W 9).toNat = j by omega]; exact c3⟩] at this
            exact this
        | succ k ihk =>
          intro j I' hj hF hA ht hon
          have hW := hA.w
          refine wf_X8_ranked_33 (by omega) ?_
          obtain ⟨k0, p0, p1, p2, p3, p4, k1, n1, k2, n2, k3, n3, k4, n4, k5, n5⟩ := id hm
          obtain ⟨w0, w1, w2, w3, w4, w5, w6, w7, w8, w9, w10, w11⟩ := hW.lits; have hw := hW.all
          simp (disch := omega) only [k0, p0, p1, p2, p3, p4, k1, n1, k2, n2, k3, n3, k4, n4, k5, n5, true_and, and_true, Option.some.injEq, exists_eq_left', am_wE, and_dr, imp_dr, imp_df, true_imp_iff, false_imp_iff, not_true_eq_false, not_false_eq_true, hw, w0, w1, w2, w3, w4, w5, w6, w7, w8, w9, w10, w11 ]
          have bd := v_cnt_bd (v_rkf W p) j
          refine sp_isOn hm hW (by omega) (by omega) ?_
          simp only [am_iv, ite_z]
          refine ⟨fun c2 => ⟨k0, ?_⟩, fun c2 => ⟨k0, ?_⟩⟩
          · refine sp_isOn hm hW (by omega) (by omega) ?_
            simp only [am_iv, ite_z]
            refine ⟨fun c3 => ?_, fun c3 => (c3 c2).elim⟩
            exact off I' hF hA ht c2
          · simp only [Decidable.not_not] at c2
            have step : ∀ (I'' : Nat → Nat → Int) (x : Int), FM I I'' → MA I'' W S c T n → I'' 284 7 = 0 → x = (if v_rkf W p j = true then 1 else 0) → L_X8_ranked_33 d 284 r p (am_wr (v_cnt (v_rkf W p) j + x)) (j + 1) K N I'' P z Q := by
              intro I'' x f1 f2 f3 hx
              have := ihk (j + 1) I'' (by omega) f1 f2 f3 (Or.inl c2)
              rw [v_cnt, ← hx] at this
              rw [am_wE (by rw [hx]; split <;> omega) (by rw [hx]; split <;> omega)]
              exact this
            refine sp_isOn hm hW (by omega) (by omega) ?_
            simp only [am_iv, ite_z]
            refine ⟨fun c3 => ?_, fun c3 => ⟨fun c4 => ?_, fun c4 => ⟨k0, ?_⟩⟩⟩
            · refine sp_one ?_
              simp only [am_iv]
              exact step I' _ hF hA ht (by simp [v_rkf, c3])
            · refine sp_one ?_
              simp only [am_iv]
              exact step I' _ hF hA ht (by simp [v_rkf, c4])
            · simp only [Decidable.not_not] at c3
              refine sp_isRankedBefore (by omega) hm hW hG (by omega) (by omega) (by omega) (by omega) ?_
              intro I3 f3 hW3
              simp only [am_iv, ite_z]
              have f4 := hF.tr f3.FM
              have f5 := hA.fr f3 hW3
              have f6 := (f3 284 7 (by omega) (by omega)).trans ht
              refine ⟨fun c5 => ?_, fun c5 => ?_⟩
              · refine sp_one ?_
                simp only [am_iv]
                exact step I3 _ f4 f5 f6 (by simp [v_rkf, c5])
              · simp only [Decidable.not_not] at c5
                refine sp_one ?_
                simp only [am_iv]
                exact step I3 _ f4 f5 f6 (by simp [v_rkf, c3, c4, c5])
      have hW := hA.w
      refine wf_X8_ranked_17 ?_
      obtain ⟨k0, p0, p1, p2, p3, p4, k1, n1, k2, n2, k3, n3, k4, n4, k5, n5⟩ := id hm
      obtain ⟨w0, w1, w2, w3, w4, w5, w6, w7, w8, w9, w10, w11⟩ := hW.lits; have hw := hW.all
      simp (disch := omega) only [k0, p0, p1, p2, p3, p4, k1, n1, k2, n2, k3, n3, k4, n4, k5, n5, true_and, and_true, Option.some.injEq, exists_eq_left', am_wE, and_dr, imp_dr, imp_df, true_imp_iff, false_imp_iff, not_true_eq_false, not_false_eq_true, hw, w0, w1, w2, w3, w4, w5, w6, w7, w8, w9, w10, w11 ]
      exact key2 (W 9).toNat 0 I' (by omega) hF hA ht (Or.inr rfl)
  exact key (W 9).toNat 0 I1 (by omega) (by omega) hF hA ht (fun I'' f1 f2 f3 => h2 I'' f1 f2 f3)
end
