section
variable {d : Nat} {K N : Nat → Nat} {I : Nat → Nat → Int} {P : Nat → Nat → Option Nat} {z : Nat} {Q : am_V → am_T} {W : Int → Int}
end
theorem v_u_same {W W1 : Int → Int} (h : v_same W W1) {i x : Int} (hi : (34 ≤ i ∧ i < 46) ∨ (500 ≤ i ∧ i < 1100) ∨ (2600 ≤ i ∧ i < 2900)) : v_same W (v_u W1 i x) := fun j a b c e => (v_un (by omega)).trans (h j a b c e)
theorem v_att_same {W : Int → Int} {p l : Int} (h0 : 0 ≤ p) (h1 : p < 300) (l0 : 0 ≤ l) (l1 : l < 6) : v_same W (v_att W p l) := by
  unfold v_att
  split
  · exact v_u_same (v_u_same (v_u_same v_same.rf (by omega)) (by omega)) (by omega)
  · exact v_u_same v_same.rf (by omega)
theorem v_att_G {W : Int → Int} (hG : v_G W) {p l : Int} (h0 : 0 ≤ p) (h1 : p < W 9) (l0 : 0 ≤ l) (l1 : l < W 7) : v_G (v_att W p l) := by
  have g7 := hG.l7
  have g9 := hG.n9
  refine hG.same (v_att_same h0 (by omega) l0 (by omega)) ?_ ?_ ?_ ?_ ?_
  · unfold v_att v_u
    split <;> simp only
    · rw [if_neg (by omega), if_neg (by omega), if_neg (by omega)]; exact hG.d0
    · rw [if_neg (by omega)]; exact hG.d0
  · intro k k0 k1
    have g := hG.ln k k0 k1
    unfold v_att v_u
    split <;> simp only
    · rename_i c
      rw [if_neg (by omega)]
      by_cases e : k = l
      · subst e; rw [if_pos rfl]; omega
      · rw [if_neg (by omega), if_neg (by omega)]; omega
    · rw [if_neg (by omega)]; omega
  · intro k k0 k1
    have g := hG.l0 k k0 k1
    unfold v_att v_u
    split <;> simp only
    · rw [if_neg (by omega), if_neg (by omega), if_neg (by omega), if_neg (by omega), if_neg (by omega), if_neg (by omega)]; exact g
    · rw [if_neg (by omega), if_neg (by omega)]; exact g
  · intro q q0 q1
    have g := hG.pt q q0 q1
    unfold v_att v_u
    split <;> simp only
    · repeat rw [if_neg (by omega : ¬ 500 + q = _)]
      repeat rw [if_neg (by omega : ¬ 2600 + q = _)]
      rw [if_neg (by omega : ¬ 800 + q = 40 + l), if_neg (by omega : ¬ 800 + q = 34 + l)]
      refine ⟨g.2.1, g.2.2.2.2.2.1, ?_⟩
      split <;> omega
    · rw [if_neg (by omega : ¬ 500 + q = _), if_neg (by omega : ¬ 800 + q = _)]
      refine ⟨g.2.1, ?_, g.2.2.2.2.2.2⟩
      split
      · split
        · exact Or.inr (Or.inr rfl)
        · exact Or.inr (Or.inl rfl)
      · exact g.2.2.2.2.2.1
  · intro q r q0 q1 q2 h3 h4
    have e1 : (v_att W p l) (500 + q) = W (500 + q) ∧ (v_att W p l) (500 + r) = W (500 + r) := by
      unfold v_att v_u
      split <;> simp only
      · repeat rw [if_neg (by omega : ¬ 500 + q = _)]
        repeat rw [if_neg (by omega : ¬ 500 + r = _)]
        exact ⟨rfl, rfl⟩
      · rw [if_neg (by omega : ¬ 500 + q = _), if_neg (by omega : ¬ 500 + r = _)]
        exact ⟨rfl, rfl⟩
    have e2 : ∀ q : Int, 0 ≤ q → q < 300 → (v_att W p l) (800 + q) = 0 → W (800 + q) = 0 := by
      intro q q0 q1 hh
      unfold v_att v_u at hh
      split at hh <;> simp only at hh
      · rw [if_neg (by omega : ¬ 800 + q = 40 + l), if_neg (by omega : ¬ 800 + q = 34 + l)] at hh
        split at hh
        · omega
        · exact hh
      · rw [if_neg (by omega : ¬ 800 + q = _)] at hh; exact hh
    rw [e1.1, e1.2]
    exact hG.od q r q0 q1 q2 (e2 q q0 (by omega) h3) (e2 r (by omega) (by omega) h4)
theorem v_try_same {W : Int → Int} (hG : v_G W) {p : Int} (h0 : 0 ≤ p) (h1 : p < 300) : v_same W (v_try W p) := by
  have g7 := hG.l7
  have b := hG.lo (p := p)
  unfold v_try
  split
  · exact v_att_same h0 h1 (by omega) (by omega)
  · exact v_same.rf
theorem v_try_G {W : Int → Int} (hG : v_G W) {p : Int} (h0 : 0 ≤ p) (h1 : p < W 9) : v_G (v_try W p) := by
  have b := hG.lo (p := p)
  unfold v_try
  split
  · exact v_att_G hG h0 h1 (by omega) (by omega)
  · exact hG
theorem v_same.n9 {W W' : Int → Int} (h : v_same W W') : W' 9 = W 9 := h 9 (by omega) (by omega) (by omega) (by omega)
theorem v_s2_G {W : Int → Int} (hG : v_G W) : ∀ n : Nat, (n : Int) ≤ W 9 → v_G (v_s2 W n) ∧ v_same W (v_s2 W n)
  | 0, _ => ⟨hG, v_same.rf⟩
  | n + 1, h => by
    have g9 := hG.n9
    obtain ⟨h1, h2⟩ := v_s2_G hG n (by omega)
    exact ⟨v_try_G h1 (by omega) (by rw [h2.n9]; omega), h2.tr (v_try_same h1 (by omega) (by omega))⟩
