section
variable {d : Nat} {K N : Nat → Nat} {I I1 : Nat → Nat → Int} {P : Nat → Nat → Option Nat} {z : Nat} {Q : am_V → am_T} {W : Int → Int} {S : Int → Int → Int} {c : Int} {T : Int → Int} {n : Int}
theorem sp_least {i lo : Int} (hlo : lo = if i = 0 then 50 else if i = 4 then 1000 else 0) (h : Q (am_i lo) K N I P z) : am_C d m_X8_least [am_i i] K N I P z Q am_nx := by
  refine wf_X8_least ⟨fun e0 => ⟨fun e4 => ?_, fun e4 => ?_⟩, fun e0 => ?_⟩
  · rw [if_neg e0, if_neg e4] at hlo; rw [hlo] at h; exact h
  · rw [if_neg e0, if_pos e4] at hlo; rw [hlo] at h; exact h
  · rw [if_pos e0] at hlo; rw [hlo] at h; exact h
theorem sp_most {i hi : Int} (hi0 : 0 ≤ i ∧ i ≤ 5) (hhi : hi = if i = 0 then 1000 else if i = 1 then 200 else if i = 4 then 5000 else if i = 5 then 100 else 500) (h : Q (am_i hi) K N I P z) : am_C d m_X8_most [am_i i] K N I P z Q am_nx := by
  refine wf_X8_most ⟨fun e => ?_, fun e => ?_, fun e => ?_, fun e => ?_, fun e => ?_, fun e => ?_, fun e => ?_⟩
  · rw [if_pos e] at hhi; rw [hhi] at h; exact h
  · rw [if_neg (by omega), if_pos e] at hhi; rw [hhi] at h; exact h
  · rw [if_neg (by omega), if_neg (by omega), if_neg (by omega), if_neg (by omega)] at hhi; rw [hhi] at h; exact h
  · rw [if_neg (by omega), if_neg (by omega), if_neg (by omega), if_neg (by omega)] at hhi; rw [hhi] at h; exact h
  · rw [if_neg (by omega), if_neg (by omega), if_pos e] at hhi; rw [hhi] at h; exact h
  · rw [if_neg (by omega), if_neg (by omega), if_neg (by omega), if_pos e] at hhi; rw [hhi] at h; exact h
  · omega
theorem sp_set (hd : 3 ≤ d) (hm : MS K N P) (hA : MA I W S c T n) (hG : v_G W) {i x : Int} {lo hi : Int} (h1 : ¬ (0 ≤ i ∧ i ≤ 5) → OM K N I P z Q 1 (am_i 0) W S c T n)
    (hlo : lo = if i = 0 then 50 else if i = 4 then 1000 else 0) (hhi : hi = if i = 0 then 1000 else if i = 1 then 200 else if i = 4 then 5000 else if i = 5 then 100 else 500)
    (h2 : 0 ≤ i ∧ i ≤ 5 → ¬ (lo ≤ x ∧ x ≤ hi) → OM K N I P z Q 2 (am_i 0) W S c T n)
    (h3 : 0 ≤ i ∧ i ≤ 5 → lo ≤ x ∧ x ≤ hi → 0 < v_ob W → OM K N I P z Q 3 (am_i 0) W S c T n)
    (h4 : 0 ≤ i ∧ i ≤ 5 → lo ≤ x ∧ x ≤ hi → v_ob W ≤ 0 → OM K N I P z Q 0 (am_i (W (1 + i))) (v_u W (1 + i) x) (v_svS S c W) (v_svc c) T n) : am_C d m_X8_set [am_r 284, am_i i, am_i x] K N I P z Q am_nx := by
  refine wf_X8_set (by omega) ⟨hm.1, ?_⟩
  rintro I2 rfl; replace hA := hA.th (x := 0); have hF : FM I (am_u2 I 284 7 0) := FM.rf.put (by omega); have ht : am_u2 I 284 7 0 284 7 = 0 := am_u2_s; have hW := hA.w; generalize am_u2 I 284 7 0 = I1 at *
  refine sp_in ?_
  simp only [am_iv, ite_z]
  refine ⟨fun q => ?_, fun q => ⟨hm.1, sp_no hm hF hA (h1 q)⟩⟩
  simp only [Decidable.not_not] at q
  have g9 := hG.n9
  refine sp_least hlo ?_
  simp only [am_iv]
  refine sp_most q hhi ?_
  simp only [am_iv]
  refine sp_in ?_
  simp only [am_iv, ite_z]
  refine ⟨fun r => ⟨hm.1, ?_⟩, fun r => ⟨hm.1, sp_no hm hF hA (h2 q r)⟩⟩
  simp only [Decidable.not_not] at r
  refine sp_onBelt (by omega) hm hW (n := (W 9).toNat) (by omega) (by omega) ?_
  simp only [am_iv]
  refine ⟨fun r2 => ⟨hm.1, sp_save hm hA ?_⟩, fun r2 => ⟨hm.1, sp_no hm hF hA (h3 q r (by show 0 < v_cnt (v_on W) (W 9).toNat; omega))⟩⟩
  intro I2 hF2 hA2 ht2; replace hF := hF.tr hF2; replace ht := ht2.trans ht; have hW := hA2.w; clear hF2 ht2
  obtain ⟨k0, p0, p1, p2, p3, p4, k1, n1, k2, n2, k3, n3, k4, n4, k5, n5⟩ := id hm
  obtain ⟨w0, w1, w2, w3, w4, w5, w6, w7, w8, w9, w10, w11⟩ := hW.lits; have hw := hW.all
  simp (disch := omega) only [k0, p0, p1, p2, p3, p4, k1, n1, k2, n2, k3, n3, k4, n4, k5, n5, true_and, and_true, Option.some.injEq, exists_eq_left', am_wE, and_dr, imp_dr, imp_df, true_imp_iff, false_imp_iff, not_true_eq_false, not_false_eq_true, hw, w0, w1, w2, w3, w4, w5, w6, w7, w8, w9, w10, w11 , forall_eq]
  exact h4 q r r2 _ (hF.put (by omega)) (hA2.put (by omega)) ((am_u2_o (by omega)).trans ht)
end
