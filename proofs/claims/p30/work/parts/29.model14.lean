/-! what a millimeter does to one part -/
theorem v_att_on {W : Int → Int} {p l : Int} (l0 : 0 ≤ l) (l1 : l < 6) (p0 : 0 ≤ p) (p1 : p < 300) {q : Int} (q0 : 0 ≤ q) (q1 : q < 300) : ((v_att W p l) (800 + q) = 0 → W (800 + q) = 0) ∧ (v_att W p l) (500 + q) = W (500 + q) := by
  unfold v_att v_u
  split <;> simp only
  · rw [if_neg (by omega : ¬ 800 + q = 40 + l), if_neg (by omega : ¬ 800 + q = 34 + l), if_neg (by omega : ¬ 500 + q = 40 + l), if_neg (by omega : ¬ 500 + q = 34 + l), if_neg (by omega : ¬ 500 + q = 800 + p)]
    refine ⟨fun h => ?_, rfl⟩
    split at h
    · omega
    · exact h
  · rw [if_neg (by omega : ¬ 800 + q = 2600 + p), if_neg (by omega : ¬ 500 + q = 2600 + p)]
    exact ⟨id, rfl⟩
theorem v_try_on {W : Int → Int} (hG : v_G W) {p : Int} (p0 : 0 ≤ p) (p1 : p < 300) {q : Int} (q0 : 0 ≤ q) (q1 : q < 300) : ((v_try W p) (800 + q) = 0 → W (800 + q) = 0) ∧ (v_try W p) (500 + q) = W (500 + q) := by
  have b := hG.lo (p := p)
  have b7 := hG.l7
  unfold v_try
  split
  · exact v_att_on (by omega) (by omega) p0 p1 q0 q1
  · exact ⟨id, rfl⟩
theorem v_s2_on {W : Int → Int} (hG : v_G W) {q : Int} (q0 : 0 ≤ q) (q1 : q < 300) : ∀ n : Nat, (n : Int) ≤ W 9 → ((v_s2 W n) (800 + q) = 0 → W (800 + q) = 0) ∧ (v_s2 W n) (500 + q) = W (500 + q)
  | 0, _ => ⟨id, rfl⟩
  | n + 1, h => by
    have g9 := hG.n9
    obtain ⟨h1, h2⟩ := v_s2_on hG q0 q1 n (by omega)
    obtain ⟨h3, h4⟩ := v_try_on (v_s2_G hG n (by omega)).1 (p := n) (by omega) (by omega) q0 q1
    exact ⟨fun h => h1 (h3 h), h4.trans h2⟩
theorem v_go_on {W : Int → Int} (hG : v_G W) (hF : v_F W) {q : Int} (q0 : 0 ≤ q) (q1 : q < W 9) : ((v_go W) (800 + q) = 0 → W (800 + q) = 0 ∧ (v_go W) (500 + q) = W (500 + q) + 1) ∧ (¬ W (800 + q) = 0 → (v_go W) (800 + q) = W (800 + q) ∧ (v_go W) (500 + q) = W (500 + q)) := by
  have g9 := hG.n9
  have h1 := v_s1_G hG (k := 1) (by omega) (fun p a b c => by have := hF p a b c; omega)
  have s1 := v_s1_same (W := W) (k := 1) (n := W 9) (by omega)
  obtain ⟨h2, s2⟩ := v_s2_G h1 (W 9).toNat (by rw [s1.n9]; omega)
  obtain ⟨h3, h4⟩ := v_s2_on h1 q0 (by omega) (W 9).toNat (by rw [s1.n9]; omega)
  have r := v_reason_bd h2 q0 (by rw [s2.n9, s1.n9]; exact q1)
  have e8 : v_s1 W 1 (W 9) (800 + q) = W (800 + q) := v_s1_8 q0 (by omega)
  have key : ∀ n : Nat, (n : Int) ≤ W 9 → ¬ W (800 + q) = 0 → (v_s2 (v_s1 W 1 (W 9)) n) (800 + q) = W (800 + q) := by
    intro n hn hq
    induction n with
    | zero => exact e8
    | succ n ih =>
      have ih2 := ih (by omega)
      have hV := (v_s2_G h1 n (by rw [s1.n9]; omega)).1
      have b := hV.lo (p := n)
      have b7 := hV.l7
      show v_try (v_s2 (v_s1 W 1 (W 9)) n) n (800 + q) = _
      generalize v_s2 (v_s1 W 1 (W 9)) n = V at *
      unfold v_try
      split
      · rename_i c
        have ne : ¬ q = n := by rintro rfl; exact hq (ih2.symm.trans c.1)
        unfold v_att v_u
        split <;> simp only
        · rw [if_neg (by omega), if_neg (by omega), if_neg (by omega)]; exact ih2
        · rw [if_neg (by omega)]; exact ih2
      · exact ih2
  have key9 := key (W 9).toNat (by omega)
  unfold v_go
  have e5 : v_s3 (v_s2 (v_s1 W 1 (W 9)) (W 9).toNat) (W 9) (500 + q) = if q < W 9 ∧ W (800 + q) = 0 then W (500 + q) + 1 else W (500 + q) := by
    rw [v_s3_o (by omega) (by omega), h4, v_s1_5 q0]
  rw [e5, v_s3_8 q0]
  generalize v_s2 (v_s1 W 1 (W 9)) (W 9).toNat = V at *
  refine ⟨fun h => ?_, fun h => ?_⟩
  · have h9 : V (800 + q) = 0 := by
      split at h
      · omega
      · exact h
    have := h3 h9
    rw [e8] at this
    exact ⟨this, by rw [if_pos ⟨q1, this⟩]⟩
  · have kk := key9 h
    rw [kk, if_neg (fun c => h c.2.1), if_neg (fun c => h c.2)]
    exact ⟨rfl, rfl⟩
theorem v_it_on {W : Int → Int} (hG : v_G W) (hF : v_F W) {q : Int} (q0 : 0 ≤ q) (q1 : q < W 9) : ∀ k : Nat, ((v_it k W) (800 + q) = 0 → W (800 + q) = 0 ∧ (v_it k W) (500 + q) = W (500 + q) + k)
  | 0 => fun h => ⟨h, by simp [v_it]⟩
  | k + 1 => fun h => by
    obtain ⟨h1, h2, h3, h4⟩ := v_it_G hG hF k
    obtain ⟨g1, g2⟩ := (v_go_on h1 h2 q0 (by rw [h3.n9]; exact q1)).1 h
    obtain ⟨i1, i2⟩ := v_it_on hG hF q0 q1 k g1
    refine ⟨i1, ?_⟩
    show v_go (v_it k W) (500 + q) = _
    rw [g2, i2]; omega
section
variable {d : Nat} {K N : Nat → Nat} {I I1 : Nat → Nat → Int} {P : Nat → Nat → Option Nat} {z : Nat} {Q : am_V → am_T} {W : Int → Int} {S : Int → Int → Int} {c : Int} {T : Int → Int} {n : Int}
end
