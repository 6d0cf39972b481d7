abbrev v_own (W : Int → Int) : Int := if ¬ v_cs W (W 9).toNat = -1 ∧ (W (1100 + v_cs W (W 9).toNat) = -1 ∨ v_as W (W 9).toNat = -1) then v_cs W (W 9).toNat else v_as W (W 9).toNat
section
variable {d : Nat} {K N : Nat → Nat} {I I1 : Nat → Nat → Int} {P : Nat → Nat → Option Nat} {z : Nat} {Q : am_V → am_T} {W : Int → Int} {S : Int → Int → Int} {c : Int} {T : Int → Int} {n : Int}
theorem sp_read (hd : 3 ≤ d) (hm : MS K N P) (hA : MA I W S c T n) (hG : v_G W) {x : Int} (h1 : ¬ (0 ≤ x ∧ x ≤ 999) → OM K N I P z Q 1 (am_i 0) W S c T n) (h2 : 0 ≤ x ∧ x ≤ 999 → v_own W = -1 → OM K N I P z Q 0 (am_i (-1)) (v_u W 10 (am_wr (W 10 + 1))) (v_svS S c W) (v_svc c) T n)
    (h3 : 0 ≤ x ∧ x ≤ 999 → ¬ v_own W = -1 → OM K N I P z Q 0 (am_i (v_own W)) (v_readFor W (v_own W) x) (v_svS S c W) (v_svc c) T n) : am_C d m_X8_read [am_r 284, am_i x] K N I P z Q am_nx := by
  refine wf_X8_read (by omega) ⟨hm.1, ?_⟩
  rintro I2 rfl; replace hA := hA.th (x := 0); have hF : FM I (am_u2 I 284 7 0) := FM.rf.put (by omega); have ht : am_u2 I 284 7 0 284 7 = 0 := am_u2_s; have hW := hA.w; generalize am_u2 I 284 7 0 = I1 at *
  have g9 := hG.n9
  refine sp_isCode (by omega) ?_
  simp only [am_iv, ite_z]
  refine ⟨fun q => ⟨hm.1, sp_save hm hA ?_⟩, fun q => ⟨hm.1, sp_no hm hF hA (h1 q)⟩⟩
  simp only [Decidable.not_not] at q
  intro I2 hF2 hA2 ht2; replace hF := hF.tr hF2; replace ht := ht2.trans ht; have hW := hA2.w; clear hF2 ht2
  refine ⟨hm.1, sp_caster (by omega) hm hW hG (n := (W 9).toNat) (by omega) ?_⟩
  simp only [am_iv]
  refine ⟨hm.1, sp_atScanner (by omega) hm hW hG (n := (W 9).toNat) (by omega) ?_⟩
  simp only [am_iv]
  have b1 := v_cs_bd W (W 9).toNat
  have b2 := v_as_bd W (W 9).toNat
  have h2 := h2 q
  have h3 := h3 q
  simp only [v_own] at h2 h3
  obtain ⟨a, ha⟩ : ∃ a, a = v_cs W (W 9).toNat := ⟨_, rfl⟩
  obtain ⟨b, hb⟩ : ∃ b, b = v_as W (W 9).toNat := ⟨_, rfl⟩
  simp only [← ha, ← hb] at h2 h3 b1 b2 ⊢
  have hS : (if ¬ a = -1 ∧ (W (1100 + a) = -1 ∨ b = -1) then a else b) = -1 → ∀ v, v = (-1 : Int) → Q (am_i v) K N (am_u2 I2 285 10 (am_wr (W 10 + 1))) P z := by
    rintro e v rfl
    exact h2 e _ (hF.put (by omega)) (hA2.put (i := 10) (by omega)) ((am_u2_o (by omega)).trans ht)
  have hR : ∀ v, ¬ v = (-1 : Int) → 0 ≤ v → v < W 9 → (if ¬ a = -1 ∧ (W (1100 + a) = -1 ∨ b = -1) then a else b) = v → am_C (d - 1) m_X8_readFor [am_r 284, am_i v, am_i x] K N I2 P z (fun _ K1 N1 I1 P1 z1 => Q (am_i v) K1 N1 I1 P1 z1) am_nx := by
    intro v v1 v2 v3 e
    refine sp_readFor hm hW v2 (by omega) ?_
    intro I3 hF3 hW3
    have := h3 (by rw [e]; exact v1)
    rw [e] at this
    exact this I3 (hF.tr hF3.FR.FM) (hA2.fr hF3.FR hW3) ((hF3.FR 284 7 (by omega) (by omega)).trans ht)
  obtain ⟨k0, p0, p1, p2, p3, p4, k1, n1, k2, n2, k3, n3, k4, n4, k5, n5⟩ := id hm
  obtain ⟨w0, w1, w2, w3, w4, w5, w6, w7, w8, w9, w10, w11⟩ := hW.lits; have hw := hW.all
  refine ⟨fun c1 => ⟨fun c2 => ⟨k0, hR b c2 (by omega) (by omega) (if_neg (fun q => q.1 c1))⟩, fun c2 => ?_⟩, fun c1 => ?_⟩
  · simp (disch := omega) only [k0, p0, p1, p2, p3, p4, k1, n1, k2, n2, k3, n3, k4, n4, k5, n5, true_and, and_true, Option.some.injEq, exists_eq_left', am_wE, and_dr, imp_dr, imp_df, true_imp_iff, false_imp_iff, not_true_eq_false, not_false_eq_true, hw, w0, w1, w2, w3, w4, w5, w6, w7, w8, w9, w10, w11 , forall_eq]
    exact hS (by rw [if_neg (fun q => q.1 c1)]; exact c2) b c2
  · simp (disch := omega) only [k0, p0, p1, p2, p3, p4, k1, n1, k2, n2, k3, n3, k4, n4, k5, n5, true_and, and_true, Option.some.injEq, exists_eq_left', am_wE, and_dr, imp_dr, imp_df, true_imp_iff, false_imp_iff, not_true_eq_false, not_false_eq_true, hw, w0, w1, w2, w3, w4, w5, w6, w7, w8, w9, w10, w11 , forall_eq]
    refine ⟨fun c2 => hR a c1 (by omega) (by omega) (if_pos ⟨c1, Or.inl c2⟩), fun c2 => ⟨fun c3 => ⟨fun _ => hR b c3 (by omega) (by omega) (if_neg (fun q => by rcases q.2 with r | r; exact c2 r; exact c3 r)), fun c4 => (c3 c4).elim⟩, fun c3 => hR a c1 (by omega) (by omega) (if_pos ⟨c1, Or.inr c3⟩)⟩⟩
end
