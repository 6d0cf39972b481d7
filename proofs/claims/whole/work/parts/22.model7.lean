section
variable {d : Nat} {K N : Nat → Nat} {I : Nat → Nat → Int} {P : Nat → Nat → Option Nat} {z : Nat} {Q : am_V → am_T} {W : Int → Int}
theorem sp_attempt (hd : 3 ≤ d) (hm : MS K N P) (hW : MW I W) (hG : v_G W) {p l : Int} (h0 : 0 ≤ p) (h1 : p < W 9) (l0 : 0 ≤ l) (l1 : l < W 7) (h : ∀ I', FR I I' → MW I' (v_att W p l) → Q am_nl K N I' P z) : am_C d m_X8_attempt [am_r 284, am_i p, am_i l] K N I P z Q am_nx := by
  have g7 := hG.l7
  have g9 := hG.n9
  have gl := hG.ln l l0 l1
  have gp := hG.pt p h0 h1
  have hA : v_clr W p → W (34 + l) < W (28 + l) → Q am_nl K N (am_u2 (am_u2 (am_u2 I 285 (800 + p).toNat (10 + l)) 285 (34 + l).toNat (W (34 + l) + 1)) 285 (40 + l).toNat (am_wr (W (40 + l) + 1))) P z := by
    intro c1 c2
    refine h _ FR.rf.put.put.put ?_
    unfold v_att
    rw [if_pos ⟨c1, c2⟩]
    exact ((hW.put (by omega)).put (by omega)).put (by omega)
  have hB : v_clr W p → ¬ W (34 + l) < W (28 + l) → Q am_nl K N (am_u2 I 285 (2600 + p).toNat 6) P z := by
    intro c1 c2
    refine h _ FR.rf.put ?_
    unfold v_att
    rw [if_neg (fun q => c2 q.2), if_pos c1]
    exact hW.put (by omega)
  have hC : ¬ v_clr W p → Q am_nl K N (am_u2 I 285 (2600 + p).toNat 5) P z := by
    intro c1
    refine h _ FR.rf.put ?_
    unfold v_att
    rw [if_neg (fun q => c1 q.1), if_neg c1]
    exact hW.put (by omega)
  have bA := v_prev_bd (v_on W) p.toNat
  have bB := v_next_bd (v_on W) (W 9 - p - 1).toNat (p + 1)
  refine wf_X8_attempt (by omega) ⟨hm.1, sp_ahead (by omega) hm hW (n := p.toNat) (by omega) (by omega) ?_⟩
  simp only [am_iv]
  refine ⟨hm.1, sp_behind (by omega) hm hW (by omega) (by omega) h1 ?_⟩
  simp only [am_iv]
  simp only [v_clr, v_ah, v_be] at hA hB hC ⊢
  generalize v_prev (v_on W) p.toNat = a at *
  generalize v_next (v_on W) (W 9 - p - 1).toNat (p + 1) = b at *
  obtain ⟨k0, p0, p1, p2, p3, p4, k1, n1, k2, n2, k3, n3, k4, n4, k5, n5⟩ := id hm
  obtain ⟨w0, w1, w2, w3, w4, w5, w6, w7, w8, w9, w10, w11⟩ := hW.lits; have hw := hW.all
  simp only [v_tl] at hA hB hC
  have hab : ∀ x : Int, 0 ≤ x → x < W 9 → (10 ≤ W (200 + x) ∧ W (200 + x) ≤ 400) ∧ (0 ≤ W (500 + x) ∧ W (500 + x) ≤ 5000) := fun x a b => ⟨(hG.pt x a b).1, (hG.pt x a b).2.1⟩
  refine ⟨fun ca => ?_, fun ca => ?_⟩
  · subst ca
    simp (disch := omega) only [k0, p0, p1, p2, p3, p4, k1, n1, k2, n2, k3, n3, k4, n4, k5, n5, true_and, and_true, Option.some.injEq, exists_eq_left', am_wE, and_dr, imp_dr, imp_df, true_imp_iff, false_imp_iff, not_true_eq_false, not_false_eq_true, hw, w0, w1, w2, w3, w4, w5, w6, w7, w8, w9, w10, w11 , forall_eq, am_u2_o285]
    refine ⟨fun cb => ⟨fun cc => ?_, fun cc => ?_⟩, fun cb => ?_⟩
    · exact hB ⟨Or.inl rfl, Or.inl cb⟩ (by omega)
    · exact hA ⟨Or.inl rfl, Or.inl cb⟩ (by omega)
    · refine sp_tailG hm hW hG h0 h1 ?_
      simp only [am_iv]
      have gb := hab b (by omega) (by omega)
      simp (disch := omega) only [k0, p0, p1, p2, p3, p4, k1, n1, k2, n2, k3, n3, k4, n4, k5, n5, true_and, and_true, Option.some.injEq, exists_eq_left', am_wE, and_dr, imp_dr, imp_df, true_imp_iff, false_imp_iff, not_true_eq_false, not_false_eq_true, hw, w0, w1, w2, w3, w4, w5, w6, w7, w8, w9, w10, w11 , forall_eq, am_u2_o285]
      refine ⟨fun cc => ?_, fun cc => ⟨fun ce => ?_, fun ce => ?_⟩⟩
      · exact hC (fun q => by rcases q.2 with q | q; exact cb q; omega)
      · exact hB ⟨Or.inl rfl, Or.inr (by omega)⟩ (by omega)
      · exact hA ⟨Or.inl rfl, Or.inr (by omega)⟩ (by omega)
  · have ga := hab a (by omega) (by omega)
    refine ⟨k0, sp_tailG hm hW hG (by omega) (by omega) ?_⟩
    simp only [am_iv]
    simp (disch := omega) only [k0, p0, p1, p2, p3, p4, k1, n1, k2, n2, k3, n3, k4, n4, k5, n5, true_and, and_true, Option.some.injEq, exists_eq_left', am_wE, and_dr, imp_dr, imp_df, true_imp_iff, false_imp_iff, not_true_eq_false, not_false_eq_true, hw, w0, w1, w2, w3, w4, w5, w6, w7, w8, w9, w10, w11 , forall_eq, am_u2_o285]
    refine ⟨fun cc => ?_, fun cc => ⟨fun cb => ⟨fun ce => ?_, fun ce => ?_⟩, fun cb => ?_⟩⟩
    · exact hC (fun q => by rcases q.1 with q | q; exact ca q; omega)
    · exact hB ⟨Or.inr (by omega), Or.inl cb⟩ (by omega)
    · exact hA ⟨Or.inr (by omega), Or.inl cb⟩ (by omega)
    · refine sp_tailG hm hW hG h0 h1 ?_
      simp only [am_iv]
      have gb := hab b (by omega) (by omega)
      simp (disch := omega) only [k0, p0, p1, p2, p3, p4, k1, n1, k2, n2, k3, n3, k4, n4, k5, n5, true_and, and_true, Option.some.injEq, exists_eq_left', am_wE, and_dr, imp_dr, imp_df, true_imp_iff, false_imp_iff, not_true_eq_false, not_false_eq_true, hw, w0, w1, w2, w3, w4, w5, w6, w7, w8, w9, w10, w11 , forall_eq, am_u2_o285]
      refine ⟨fun ce => ?_, fun ce => ⟨fun cf => ?_, fun cf => ?_⟩⟩
      · exact hC (fun q => by rcases q.2 with q | q; exact cb q; omega)
      · exact hB ⟨Or.inr (by omega), Or.inr (by omega)⟩ (by omega)
      · exact hA ⟨Or.inr (by omega), Or.inr (by omega)⟩ (by omega)
end
theorem v_u_same {W W1 : Int → Int} (h : v_same W W1) {i x : Int} (hi : (34 ≤ i ∧ i < 46) ∨ (500 ≤ i ∧ i < 1100) ∨ (2600 ≤ i ∧ i < 2900)) : v_same W (v_u W1 i x) := fun j a b c e => (v_un (by omega)).trans (h j a b c e)
theorem v_att_same {W : Int → Int} {p l : Int} (h0 : 0 ≤ p) (h1 : p < 300) (l0 : 0 ≤ l) (l1 : l < 6) : v_same W (v_att W p l) := by
  unfold v_att
  split
  · exact v_u_same (v_u_same (v_u_same v_same.rf (by omega)) (by omega)) (by omega)
  · exact v_u_same v_same.rf (by omega)
theorem v_att_G {W : Int → Int} (hG : v_G W) {p l : Int} (h0 : 0 ≤ p) (h1 : p < W 9) (l0 : 0 ≤ l) (l1 : l < W 7) : v_G (v_att W p l) := by
  have g7 := hG.l7
  have g9 := hG.n9
  refine hG.same (v_att_same h0 (by omega) l0 (by omega)) ?_ ?_ ?_ ?_ ?_
  · unfold v_att v_u
    split <;> simp only
    · rw [if_neg (by omega), if_neg (by omega), if_neg (by omega)]; exact hG.d0
    · rw [if_neg (by omega)]; exact hG.d0
  · intro k k0 k1
    have g := hG.ln k k0 k1
    unfold v_att v_u
    split <;> simp only
    · rename_i c
      rw [if_neg (by omega)]
      by_cases e : k = l
      · subst e; rw [if_pos rfl]; omega
      · rw [if_neg (by omega), if_neg (by omega)]; omega
    · rw [if_neg (by omega)]; omega
  · intro k k0 k1
    have g := hG.l0 k k0 k1
    unfold v_att v_u
    split <;> simp only
    · rw [if_neg (by omega), if_neg (by omega), if_neg (by omega), if_neg (by omega), if_neg (by omega), if_neg (by omega)]; exact g
    · rw [if_neg (by omega), if_neg (by omega)]; exact g
  · intro q q0 q1
    have g := hG.pt q q0 q1
    unfold v_att v_u
    split <;> simp only
    · repeat rw [if_neg (by omega : ¬ 500 + q = _)]
      repeat rw [if_neg (by omega : ¬ 2600 + q = _)]
      rw [if_neg (by omega : ¬ 800 + q = 40 + l), if_neg (by omega : ¬ 800 + q = 34 + l)]
      refine ⟨g.2.1, g.2.2.2.2.2.1, ?_⟩
      split <;> omega
    · rw [if_neg (by omega : ¬ 500 + q = _), if_neg (by omega : ¬ 800 + q = _)]
      refine ⟨g.2.1, ?_, g.2.2.2.2.2.2⟩
      split
      · split
        · exact Or.inr (Or.inr rfl)
        · exact Or.inr (Or.inl rfl)
      · exact g.2.2.2.2.2.1
  · intro q r q0 q1 q2 h3 h4
    have e1 : (v_att W p l) (500 + q) = W (500 + q) ∧ (v_att W p l) (500 + r) = W (500 + r) := by
      unfold v_att v_u
      split <;> simp only
      · repeat rw [if_neg (by omega : ¬ 500 + q = _)]
        repeat rw [if_neg (by omega : ¬ 500 + r = _)]
        exact ⟨rfl, rfl⟩
      · rw [if_neg (by omega : ¬ 500 + q = _), if_neg (by omega : ¬ 500 + r = _)]
        exact ⟨rfl, rfl⟩
    have e2 : ∀ q : Int, 0 ≤ q → q < 300 → (v_att W p l) (800 + q) = 0 → W (800 + q) = 0 := by
      intro q q0 q1 hh
      unfold v_att v_u at hh
      split at hh <;> simp only at hh
      · rw [if_neg (by omega : ¬ 800 + q = 40 + l), if_neg (by omega : ¬ 800 + q = 34 + l)] at hh
        split at hh
        · omega
        · exact hh
      · rw [if_neg (by omega : ¬ 800 + q = _)] at hh; exact hh
    rw [e1.1, e1.2]
    exact hG.od q r q0 q1 q2 (e2 q q0 (by omega) h3) (e2 r (by omega) (by omega) h4)
theorem v_try_same {W : Int → Int} (hG : v_G W) {p : Int} (h0 : 0 ≤ p) (h1 : p < 300) : v_same W (v_try W p) := by
  have g7 := hG.l7
  have b := hG.lo (p := p)
  unfold v_try
  split
  · exact v_att_same h0 h1 (by omega) (by omega)
  · exact v_same.rf
theorem v_try_G {W : Int → Int} (hG : v_G W) {p : Int} (h0 : 0 ≤ p) (h1 : p < W 9) : v_G (v_try W p) := by
  have b := hG.lo (p := p)
  unfold v_try
  split
  · exact v_att_G hG h0 h1 (by omega) (by omega)
  · exact hG
theorem v_same.n9 {W W' : Int → Int} (h : v_same W W') : W' 9 = W 9 := h 9 (by omega) (by omega) (by omega) (by omega)
theorem v_s2_G {W : Int → Int} (hG : v_G W) : ∀ n : Nat, (n : Int) ≤ W 9 → v_G (v_s2 W n) ∧ v_same W (v_s2 W n)
  | 0, _ => ⟨hG, v_same.rf⟩
  | n + 1, h => by
    have g9 := hG.n9
    obtain ⟨h1, h2⟩ := v_s2_G hG n (by omega)
    exact ⟨v_try_G h1 (by omega) (by rw [h2.n9]; omega), h2.tr (v_try_same h1 (by omega) (by omega))⟩
