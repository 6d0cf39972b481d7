/-! trying out -/
theorem v_cnt_le {f g : Int → Bool} : ∀ n : Nat, (∀ p : Int, 0 ≤ p → p < n → g p = true → f p = true) → v_cnt g n ≤ v_cnt f n ∧ (v_cnt g n = v_cnt f n → ∀ p : Int, 0 ≤ p → p < n → f p = true → g p = true)
  | 0, _ => ⟨Int.le_refl _, fun _ p h1 h2 => absurd h2 (by omega)⟩
  | n + 1, h => by
    obtain ⟨h1, h2⟩ := v_cnt_le (f := f) (g := g) n (fun p a b => h p a (by omega))
    have h3 := h n (by omega) (by omega)
    unfold v_cnt
    cases hf : f n <;> cases hg : g n
    · simp only [Bool.false_eq_true, if_false]
      refine ⟨by omega, fun e p a b hh => ?_⟩
      by_cases q : p = n
      · subst q; rw [hf] at hh; cases hh
      · exact h2 (by omega) p a (by omega) hh
    · rw [hf, hg] at h3; simp at h3
    · simp only [Bool.false_eq_true, if_false, if_true]
      exact ⟨by omega, fun e => absurd e (by omega)⟩
    · simp only [if_true]
      refine ⟨by omega, fun e p a b hh => ?_⟩
      by_cases q : p = n
      · subst q; exact hg
      · exact h2 (by omega) p a (by omega) hh
theorem v_cnt_ex {f : Int → Bool} : ∀ n : Nat, ¬ v_cnt f n = 0 → ∃ p : Int, 0 ≤ p ∧ p < n ∧ f p = true
  | 0, h => (h rfl).elim
  | n + 1, h => by
    cases hf : f n
    · unfold v_cnt at h
      rw [hf] at h
      obtain ⟨p, a, b, e⟩ := v_cnt_ex n (by simpa using h)
      exact ⟨p, a, by omega, e⟩
    · exact ⟨n, by omega, by omega, hf⟩
abbrev v_ce (W : Int → Int) : Prop := v_ah W (W 9).toNat = -1 ∨ W 6 ≤ v_tl W (v_ah W (W 9).toNat)
theorem v_it_len {W : Int → Int} (hG : v_G W) (hF : v_F W) (k : Nat) {p : Int} (p0 : 0 ≤ p) (p1 : p < W 9) : (v_it k W) (200 + p) = W (200 + p) := (v_it_G hG hF k).2.2.1 _ (by omega) (by have := hG.n9; omega) (by have := hG.n9; omega) (by have := hG.n9; omega)
theorem v_it_lat {W : Int → Int} (hG : v_G W) (hF : v_F W) : ∀ k : Nat, ¬ v_prev (v_on (v_it k W)) (W 9).toNat = -1 → (k : Int) - 400 ≤ v_tl (v_it k W) (v_prev (v_on (v_it k W)) (W 9).toNat)
  | 0 => fun h => by
    have b := v_prev_bd (v_on W) (W 9).toNat
    have h' : ¬ v_prev (v_on W) (W 9).toNat = -1 := h
    have g := hG.pt (v_prev (v_on W) (W 9).toNat) (by omega) (by omega)
    simp only [v_it, v_tl]
    omega
  | k + 1 => fun h => by
    have g9 := hG.n9
    obtain ⟨i1, i2, i3, i4⟩ := v_it_G hG hF k
    have b := v_prev_bd (v_on (v_it (k + 1) W)) (W 9).toNat
    have hon := v_prev_on (v_on (v_it (k + 1) W)) (W 9).toNat h
    generalize v_prev (v_on (v_it (k + 1) W)) (W 9).toNat = q2 at *
    have hon2 : v_go (v_it k W) (800 + q2) = 0 := of_decide_eq_true hon
    obtain ⟨e1, e2⟩ := (v_go_on i1 i2 (q := q2) (by omega) (by rw [i3.n9]; omega)).1 hon2
    have ih := v_it_lat hG hF k
    have b2 := v_prev_bd (v_on (v_it k W)) (W 9).toNat
    have no := v_prev_no (v_on (v_it k W)) (W 9).toNat q2
    have on2 := v_prev_on (v_on (v_it k W)) (W 9).toNat
    generalize v_prev (v_on (v_it k W)) (W 9).toNat = q1 at *
    have hge : q2 ≤ q1 := by
      rcases (show q2 ≤ q1 ∨ q1 < q2 by omega) with r | r
      · exact r
      · have := no r (by omega)
        simp [v_on, e1] at this
    have ih2 := ih (by omega)
    have l1 := v_it_len hG hF k (p := q1) (by omega) (by omega)
    have l2 := v_it_len hG hF k (p := q2) (by omega) (by omega)
    have l3 := v_it_len hG hF (k + 1) (p := q2) (by omega) (by omega)
    have gp := hG.pt q1 (by omega) (by omega)
    have e3 : v_it (k + 1) W (500 + q2) = v_it k W (500 + q2) + 1 := e2
    simp only [v_tl] at ih2 ⊢
    rw [e3, l3]
    rw [l1] at ih2
    by_cases r : q2 = q1
    · subst r; omega
    · have o1 : v_it k W (800 + q1) = 0 := of_decide_eq_true (on2 (by omega))
      have := i1.od q2 q1 (by omega) (by omega) (by rw [i3.n9]; omega) e1 o1
      rw [l2] at this
      omega
section
variable {d : Nat} {K N : Nat → Nat} {I I1 : Nat → Nat → Int} {P : Nat → Nat → Option Nat} {z : Nat} {Q : am_V → am_T} {W : Int → Int} {S : Int → Int → Int} {c : Int} {T : Int → Int} {n : Int}
end
