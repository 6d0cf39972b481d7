def v_F (W : Int → Int) : Prop := ∀ p, 0 ≤ p → p < W 9 → W (800 + p) = 0 → W (500 + p) < W 5
theorem MW.cg {I : Nat → Nat → Int} {W W' : Int → Int} (h : MW I W) (e : ∀ i : Int, 0 ≤ i → i < 3200 → W i = W' i) : MW I W' := fun i a b => (h i a b).trans (e i a b)
theorem v_s1_same {W : Int → Int} {k n : Int} (hn : n ≤ 300) : v_same W (v_s1 W k n) := by
  intro i a b c e
  unfold v_s1
  rw [if_neg (by omega), if_neg (by omega)]
theorem v_s1_8 {W : Int → Int} {k n p : Int} (h0 : 0 ≤ p) (hn : n ≤ 300) : v_s1 W k n (800 + p) = W (800 + p) := by
  unfold v_s1
  rw [if_neg (by omega), if_neg (by omega)]
theorem v_s1_5 {W : Int → Int} {k n p : Int} (h0 : 0 ≤ p) : v_s1 W k n (500 + p) = if p < n ∧ W (800 + p) = 0 then W (500 + p) + k else W (500 + p) := by
  unfold v_s1
  rw [if_neg (by omega), show 500 + p + 300 = 800 + p by omega]
  by_cases c : p < n ∧ W (800 + p) = 0
  · rw [if_pos ⟨by omega, by omega, c.2⟩, if_pos c]
  · rw [if_neg (fun q => c ⟨by omega, q.2.2⟩), if_neg c]
theorem v_s1_G {W : Int → Int} (hG : v_G W) {k : Int} (hk : 0 ≤ k) (hF : ∀ p, 0 ≤ p → p < W 9 → W (800 + p) = 0 → W (500 + p) + k ≤ W 5) : v_G (v_s1 W k (W 9)) := by
  have g7 := hG.l7
  have g9 := hG.n9
  have g5 := hG.s5
  have hs : ∀ i : Int, 0 < i → ¬ (500 ≤ i ∧ i < 800) → v_s1 W k (W 9) i = W i := by
    intro i a b
    unfold v_s1
    rw [if_neg (by omega), if_neg (by omega)]
  refine hG.same (v_s1_same (by omega)) ?_ ?_ ?_ ?_ ?_
  · have := hG.d0
    unfold v_s1
    rw [if_pos rfl]; omega
  · intro l a b
    rw [hs _ (by omega) (by omega)]
    exact (hG.ln l a b).2.2.2
  · intro l a b
    rw [hs _ (by omega) (by omega), hs _ (by omega) (by omega)]
    exact hG.l0 l a b
  · intro p a b
    have g := hG.pt p a b
    rw [hs (2600 + p) (by omega) (by omega), hs (800 + p) (by omega) (by omega), v_s1_5 a]
    refine ⟨?_, g.2.2.2.2.2.1, g.2.2.2.2.2.2⟩
    split
    · rename_i c
      have := hF p a b c.2
      omega
    · exact g.2.1
  · intro p q a b c e f
    rw [hs (800 + p) (by omega) (by omega)] at e
    rw [hs (800 + q) (by omega) (by omega)] at f
    rw [v_s1_5 (p := p) a, v_s1_5 (p := q) (by omega), if_pos ⟨by omega, f⟩, if_pos ⟨by omega, e⟩]
    have := hG.od p q a b c e f
    omega
theorem v_reason_bd {W : Int → Int} (hG : v_G W) {p : Int} (h0 : 0 ≤ p) (h1 : p < W 9) : 1 ≤ v_reason W p ∧ v_reason W p ≤ 6 := by
  have g := (hG.pt p h0 h1).2.2.2.2.2.1
  unfold v_reason
  split
  · omega
  split
  · omega
  split
  · omega
  split <;> omega
theorem v_s3_8 {W : Int → Int} {n p : Int} (h0 : 0 ≤ p) : v_s3 W n (800 + p) = if p < n ∧ W (800 + p) = 0 ∧ W 5 ≤ W (500 + p) then v_reason W p else W (800 + p) := by
  unfold v_s3
  rw [show 800 + p - 300 = 500 + p by omega, show 800 + p - 800 = p by omega]
  by_cases c : p < n ∧ W (800 + p) = 0 ∧ W 5 ≤ W (500 + p)
  · rw [if_pos ⟨by omega, by omega, c.2⟩, if_pos c]
  · rw [if_neg (fun q => c ⟨by omega, q.2.2⟩), if_neg c]
theorem v_s3_o {W : Int → Int} {n i : Int} (hn : n ≤ 300) (h : ¬ (800 ≤ i ∧ i < 1100)) : v_s3 W n i = W i := by
  unfold v_s3
  rw [if_neg (by omega)]
theorem v_s3_G {W : Int → Int} (hG : v_G W) {n : Int} (hn : n ≤ W 9) : v_G (v_s3 W n) := by
  have g7 := hG.l7
  have g9 := hG.n9
  refine hG.same (fun i a b c e => v_s3_o (by omega) (by omega)) ?_ ?_ ?_ ?_ ?_
  · rw [v_s3_o (by omega) (by omega)]; exact hG.d0
  · intro l a b
    rw [v_s3_o (by omega) (by omega)]
    exact (hG.ln l a b).2.2.2
  · intro l a b
    rw [v_s3_o (by omega) (by omega), v_s3_o (by omega) (by omega)]
    exact hG.l0 l a b
  · intro p a b
    have g := hG.pt p a b
    have r := v_reason_bd hG a b
    rw [v_s3_o (i := 500 + p) (by omega) (by omega), v_s3_o (i := 2600 + p) (by omega) (by omega), v_s3_8 a]
    refine ⟨g.2.1, g.2.2.2.2.2.1, ?_⟩
    split
    · omega
    · exact g.2.2.2.2.2.2
  · intro p q a b c e f
    have r := v_reason_bd hG a (by omega)
    have r2 := v_reason_bd hG (p := q) (by omega) (by omega)
    rw [v_s3_8 (by omega)] at e f
    rw [v_s3_o (i := 500 + p) (by omega) (by omega), v_s3_o (i := 500 + q) (by omega) (by omega)]
    refine hG.od p q a b c ?_ ?_
    · split at e
      · omega
      · exact e
    · split at f
      · omega
      · exact f
theorem v_try_0 {W : Int → Int} (hG : v_G W) {p : Int} (h0 : 0 ≤ p) : v_try W p 0 = W 0 := by
  have b := hG.lo (p := p)
  have b7 := hG.l7
  unfold v_try
  split
  · unfold v_att v_u
    split <;> simp only
    · rw [if_neg (by omega), if_neg (by omega), if_neg (by omega)]
    · rw [if_neg (by omega)]
  · rfl
theorem v_go_G {W : Int → Int} (hG : v_G W) (hF : v_F W) : v_G (v_go W) ∧ v_F (v_go W) ∧ v_same W (v_go W) ∧ (v_go W) 0 = W 0 + 1 := by
  have g9 := hG.n9
  have h1 := v_s1_G hG (k := 1) (by omega) (fun p a b c => by have := hF p a b c; omega)
  have s1 := v_s1_same (W := W) (k := 1) (n := W 9) (by omega)
  obtain ⟨h2, s2⟩ := v_s2_G h1 (W 9).toNat (by rw [s1.n9]; omega)
  have e9 : (v_s2 (v_s1 W 1 (W 9)) (W 9).toNat) 9 = W 9 := by rw [s2.n9, s1.n9]
  have h3 := v_s3_G h2 (n := W 9) (by rw [e9]; omega)
  refine ⟨h3, ?_, ?_, ?_⟩
  · intro p a b c
    unfold v_go at b c ⊢
    rw [v_s3_o (by omega) (by omega), e9] at b
    have r := v_reason_bd h2 a (by rw [e9]; omega)
    rw [v_s3_8 a] at c
    rw [v_s3_o (i := 500 + p) (by omega) (by omega), v_s3_o (i := 5) (by omega) (by omega)]
    split at c
    · omega
    · rename_i q
      have : ¬ (v_s2 (v_s1 W 1 (W 9)) (W 9).toNat 5 ≤ v_s2 (v_s1 W 1 (W 9)) (W 9).toNat (500 + p)) := fun q2 => q ⟨b, c, q2⟩
      omega
  · intro i a b c e
    unfold v_go
    rw [v_s3_o (by omega) (by omega), s2 i a b c e, s1 i a b c e]
  · unfold v_go
    rw [v_s3_o (by omega) (by omega)]
    have key : ∀ n : Nat, (n : Int) ≤ W 9 → v_s2 (v_s1 W 1 (W 9)) n 0 = v_s1 W 1 (W 9) 0 := by
      intro n
      induction n with
      | zero => intro _; rfl
      | succ n ih =>
        intro hn
        have hh := (v_s2_G h1 n (by rw [s1.n9]; omega)).1
        exact (v_try_0 hh (by omega)).trans (ih (by omega))
    rw [key _ (by omega)]
    unfold v_s1
    rw [if_pos rfl]
section
variable {d : Nat} {K N : Nat → Nat} {I : Nat → Nat → Int} {P : Nat → Nat → Option Nat} {z : Nat} {Q : am_V → am_T} {W : Int → Int}
end
