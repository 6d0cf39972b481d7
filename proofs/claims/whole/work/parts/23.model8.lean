def v_F (W : Int → Int) : Prop := ∀ p, 0 ≤ p → p < W 9 → W (800 + p) = 0 → W (500 + p) < W 5
theorem MW.cg {I : Nat → Nat → Int} {W W' : Int → Int} (h : MW I W) (e : ∀ i : Int, 0 ≤ i → i < 3200 → W i = W' i) : MW I W' := fun i a b => (h i a b).trans (e i a b)
theorem v_s1_same {W : Int → Int} {k n : Int} (hn : n ≤ 300) : v_same W (v_s1 W k n) := by
  intro i a b c e
  unfold v_s1
  rw [if_neg (by omega), if_neg (by omega)]
theorem v_s1_8 {W : Int → Int} {k n p : Int} (h0 : 0 ≤ p) (hn : n ≤ 300) : v_s1 W k n (800 + p) = W (800 + p) := by
  unfold v_s1
  rw [if_neg (by omega), if_neg (by omega)]
theorem v_s1_5 {W : Int → Int} {k n p : Int} (h0 : 0 ≤ p) : v_s1 W k n (500 + p) = if p < n ∧ W (800 + p) = 0 then W (500 + p) + k else W (500 + p) := by
  unfold v_s1
  rw [if_neg (by omega), show 500 + p + 300 = 800 + p by omega]
  by_cases c : p < n ∧ W (800 + p) = 0
  · rw [if_pos ⟨by omega, by omega, c.2⟩, if_pos c]
  · rw [if_neg (fun q => c ⟨by omega, q.2.2⟩), if_neg c]
theorem v_s1_G {W : Int → Int} (hG : v_G W) {k : Int} (hk : 0 ≤ k) (hF : ∀ p, 0 ≤ p → p < W 9 → W (800 + p) = 0 → W (500 + p) + k ≤ W 5) : v_G (v_s1 W k (W 9)) := by
  have g7 := hG.l7
  have g9 := hG.n9
  have g5 := hG.s5
  have hs : ∀ i : Int, 0 < i → ¬ (500 ≤ i ∧ i < 800) → v_s1 W k (W 9) i = W i := by
    intro i a b
    unfold v_s1
    rw [if_neg (by omega), if_neg (by omega)]
  refine hG.same (v_s1_same (by omega)) ?_ ?_ ?_ ?_ ?_
  · have := hG.d0
    unfold v_s1
    rw [if_pos rfl]; omega
  · intro l a b
    rw [hs _ (by omega) (by omega)]
    exact (hG.ln l a b).2.2.2
  · intro l a b
    rw [hs _ (by omega) (by omega), hs _ (by omega) (by omega)]
    exact hG.l0 l a b
  · intro p a b
    have g := hG.pt p a b
    rw [hs (2600 + p) (by omega) (by omega), hs (800 + p) (by omega) (by omega), v_s1_5 a]
    refine ⟨?_, g.2.2.2.2.2.1, g.2.2.2.2.2.2⟩
    split
    · rename_i c
      have := hF p a b c.2
      omega
    · exact g.2.1
  · intro p q a b c e f
    rw [hs (800 + p) (by omega) (by omega)] at e
    rw [hs (800 + q) (by omega) (by omega)] at f
    rw [v_s1_5 (p := p) a, v_s1_5 (p := q) (by omega), if_pos ⟨by omega, f⟩, if_pos ⟨by omega, e⟩]
    have := hG.od p q a b c e f
    omega
theorem v_reason_bd {W : Int → Int} (hG : v_G W) {p : Int} (h0 : 0 ≤ p) (h1 : p < W 9) : 1 ≤ v_reason W p ∧ v_reason W p ≤ 6 := by
  have g := (hG.pt p h0 h1).2.2.2.2.2.1
  unfold v_reason
  split
  · omega
  split
  · omega
  split
  · omega
  split <;> omega
theorem v_s3_8 {W : Int → Int} {n p : Int} (h0 : 0 ≤ p) : v_s3 W n (800 + p) = if p < n ∧ W (800 + p) = 0 ∧ W 5 ≤ W (500 + p) then v_reason W p else W (800 + p) := by
  unfold v_s3
  rw [show 800 + p - 300 = 500 + p by omega, show 800 + p - 800 = p by omega]
  by_cases c : p < n ∧ W (800 + p) = 0 ∧ W 5 ≤ W (500 + p)
  · rw [if_pos ⟨by omega, by omega, c.2⟩, if_pos c]
  · rw [if_neg (fun q => c ⟨by omega, q.2.2⟩), if_neg c]
theorem v_s3_o {W : Int → Int} {n i : Int} (hn : n ≤ 300) (h : ¬ (800 ≤ i ∧ i < 1100)) : v_s3 W n i = W i := by
  unfold v_s3
  rw [if_neg (by omega)]
theorem v_s3_G {W : Int → Int} (hG : v_G W) {n : Int} (hn : n ≤ W 9) : v_G (v_s3 W n) := by
  have g7 := hG.l7
  have g9 := hG.n9
  refine hG.same (fun i a b c e => v_s3_o (by omega) (by omega)) ?_ ?_ ?_ ?_ ?_
  · rw [v_s3_o (by omega) (by omega)]; exact hG.d0
  · intro l a b
    rw [v_s3_o (by omega) (by omega)]
    exact (hG.ln l a b).2.2.2
  · intro l a b
    rw [v_s3_o (by omega) (by omega), v_s3_o (by omega) (by omega)]
    exact hG.l0 l a b
  · intro p a b
    have g := hG.pt p a b
    have r := v_reason_bd hG a b
    rw [v_s3_o (i := 500 + p) (by omega) (by omega), v_s3_o (i := 2600 + p) (by omega) (by omega), v_s3_8 a]
    refine ⟨g.2.1, g.2.2.2.2.2.1, ?_⟩
    split
    · omega
    · exact g.2.2.2.2.2.2
  · intro p q a b c e f
    have r := v_reason_bd hG a (by omega)
    have r2 := v_reason_bd hG (p := q) (by omega) (by omega)
    rw [v_s3_8 (by omega)] at e f
    rw [v_s3_o (i := 500 + p) (by omega) (by omega), v_s3_o (i := 500 + q) (by omega) (by omega)]
    refine hG.od p q a b c ?_ ?_
    · split at e
      · omega
      · exact e
    · split at f
      · omega
      · exact f
theorem v_try_0 {W : Int → Int} (hG : v_G W) {p : Int} (h0 : 0 ≤ p) : v_try W p 0 = W 0 := by
  have b := hG.lo (p := p)
  have b7 := hG.l7
  unfold v_try
  split
  · unfold v_att v_u
    split <;> simp only
    · rw [if_neg (by omega), if_neg (by omega), if_neg (by omega)]
    · rw [if_neg (by omega)]
  · rfl
theorem v_go_G {W : Int → Int} (hG : v_G W) (hF : v_F W) : v_G (v_go W) ∧ v_F (v_go W) ∧ v_same W (v_go W) ∧ (v_go W) 0 = W 0 + 1 := by
  have g9 := hG.n9
  have h1 := v_s1_G hG (k := 1) (by omega) (fun p a b c => by have := hF p a b c; omega)
  have s1 := v_s1_same (W := W) (k := 1) (n := W 9) (by omega)
  obtain ⟨h2, s2⟩ := v_s2_G h1 (W 9).toNat (by rw [s1.n9]; omega)
  have e9 : (v_s2 (v_s1 W 1 (W 9)) (W 9).toNat) 9 = W 9 := by rw [s2.n9, s1.n9]
  have h3 := v_s3_G h2 (n := W 9) (by rw [e9]; omega)
  refine ⟨h3, ?_, ?_, ?_⟩
  · intro p a b c
    unfold v_go at b c ⊢
    rw [v_s3_o (by omega) (by omega), e9] at b
    have r := v_reason_bd h2 a (by rw [e9]; omega)
    rw [v_s3_8 a] at c
    rw [v_s3_o (i := 500 + p) (by omega) (by omega), v_s3_o (i := 5) (by omega) (by omega)]
    split at c
    · omega
    · rename_i q
      have : ¬ (v_s2 (v_s1 W 1 (W 9)) (W 9).toNat 5 ≤ v_s2 (v_s1 W 1 (W 9)) (W 9).toNat (500 + p)) := fun q2 => q ⟨b, c, q2⟩
      omega
  · intro i a b c e
    unfold v_go
    rw [v_s3_o (by omega) (by omega), s2 i a b c e, s1 i a b c e]
  · unfold v_go
    rw [v_s3_o (by omega) (by omega)]
    have key : ∀ n : Nat, (n : Int) ≤ W 9 → v_s2 (v_s1 W 1 (W 9)) n 0 = v_s1 W 1 (W 9) 0 := by
      intro n
      induction n with
      | zero => intro _; rfl
      | succ n ih =>
        intro hn
        have hh := (v_s2_G h1 n (by rw [s1.n9]; omega)).1
        exact (v_try_0 hh (by omega)).trans (ih (by omega))
    rw [key _ (by omega)]
    unfold v_s1
    rw [if_pos rfl]
section
variable {d : Nat} {K N : Nat → Nat} {I : Nat → Nat → Int} {P : Nat → Nat → Option Nat} {z : Nat} {Q : am_V → am_T} {W : Int → Int}
theorem sp_go (hd : 7 ≤ d) (hm : MS K N P) (hW : MW I W) (hG : v_G W) (hF : v_F W) (hb : W 0 ≤ 1000000) (h : ∀ I', FR I I' → MW I' (v_go W) → Q am_nl K N I' P z) : am_C d m_X8_go [am_r 284] K N I P z Q am_nx := by
  have g9 := hG.n9
  have g0 := hG.d0
  have h1 := v_s1_G hG (k := 1) (by omega) (fun p a b c => by have := hF p a b c; omega)
  have s1 := v_s1_same (W := W) (k := 1) (n := W 9) (by omega)
  obtain ⟨h2, s2⟩ := v_s2_G h1 (W 9).toNat (by rw [s1.n9]; omega)
  have e9 : (v_s2 (v_s1 W 1 (W 9)) (W 9).toNat) 9 = W 9 := by rw [s2.n9, s1.n9]
  have key3 : ∀ (m : Nat) (j : Int) (I' : Nat → Nat → Int), 0 ≤ j → j + m = W 9 → FR I I' → MW I' (v_s3 (v_s2 (v_s1 W 1 (W 9)) (W 9).toNat) j) → L_X8_go_133 d 284 j K N I' P z Q := by
    unfold v_go at h
    generalize v_s2 (v_s1 W 1 (W 9)) (W 9).toNat = V at *
    intro m
    induction m with
    | zero =>
      intro j I' j0 j1 hI hW
      have e : v_s3 V j 9 = W 9 := by rw [v_s3_o (by omega) (by omega), e9]
      refine wf_X8_go_133 (by omega) ?_
      obtain ⟨k0, p0, p1, p2, p3, p4, k1, n1, k2, n2, k3, n3, k4, n4, k5, n5⟩ := id hm
      obtain ⟨w0, w1, w2, w3, w4, w5, w6, w7, w8, w9, w10, w11⟩ := hW.lits; have hw := hW.all
      simp (disch := omega) only [k0, p0, p1, p2, p3, p4, k1, n1, k2, n2, k3, n3, k4, n4, k5, n5, true_and, and_true, Option.some.injEq, exists_eq_left', am_wE, and_dr, imp_dr, imp_df, true_imp_iff, false_imp_iff, not_true_eq_false, not_false_eq_true, hw, w0, w1, w2, w3, w4, w5, w6, w7, w8, w9, w10, w11 ]
      rw [show j = W 9 by omega] at hW
      exact h I' hI hW
    | succ m ih =>
      intro j I' j0 j1 hI hW
      have e : v_s3 V j 9 = W 9 := by rw [v_s3_o (by omega) (by omega), e9]
      have hV := v_s3_G h2 (n := j) (by omega)
      have g := hV.pt j (by omega) (by omega)
      have eq : v_s3 V j (500 + j) = V (500 + j) ∧ v_s3 V j 5 = V 5 := ⟨v_s3_o (by omega) (by omega), v_s3_o (by omega) (by omega)⟩
      have e8 : v_s3 V j (800 + j) = V (800 + j) := by rw [v_s3_8 j0, if_neg (by omega)]
      refine wf_X8_go_133 (by omega) ?_
      obtain ⟨k0, p0, p1, p2, p3, p4, k1, n1, k2, n2, k3, n3, k4, n4, k5, n5⟩ := id hm
      obtain ⟨w0, w1, w2, w3, w4, w5, w6, w7, w8, w9, w10, w11⟩ := hW.lits; have hw := hW.all
      simp (disch := omega) only [k0, p0, p1, p2, p3, p4, k1, n1, k2, n2, k3, n3, k4, n4, k5, n5, true_and, and_true, Option.some.injEq, exists_eq_left', am_wE, and_dr, imp_dr, imp_df, true_imp_iff, false_imp_iff, not_true_eq_false, not_false_eq_true, hw, w0, w1, w2, w3, w4, w5, w6, w7, w8, w9, w10, w11 ]
      have ih2 := ih (j + 1)
      have skip : ¬ (V (800 + j) = 0 ∧ V 5 ≤ V (500 + j)) → L_X8_go_133 d 284 (j + 1) K N I' P z Q := by
        intro c
        refine ih2 I' (by omega) (by omega) hI (hW.cg ?_)
        intro i _ _
        unfold v_s3
        by_cases c2 : i = 800 + j
        · subst c2
          rw [if_neg (by omega), if_neg]
          intro q
          rw [show 800 + j - 300 = 500 + j by omega] at q
          exact c q.2.2
        · by_cases c3 : 800 ≤ i ∧ i < 800 + j ∧ V i = 0 ∧ V 5 ≤ V (i - 300)
          · rw [if_pos c3, if_pos ⟨c3.1, by omega, c3.2.2⟩]
          · rw [if_neg c3, if_neg (fun q => c3 ⟨q.1, by omega, q.2.2⟩)]
      refine sp_isOn hm hW (by omega) (by omega) ?_
      simp only [am_iv, ite_z]
      rw [e8]
      refine ⟨fun c => skip (fun q => c q.1), fun c => ?_⟩
      simp only [Decidable.not_not] at c
      simp (disch := omega) only [k0, p0, p1, p2, p3, p4, k1, n1, k2, n2, k3, n3, k4, n4, k5, n5, true_and, and_true, Option.some.injEq, exists_eq_left', am_wE, and_dr, imp_dr, imp_df, true_imp_iff, false_imp_iff, not_true_eq_false, not_false_eq_true, hw, w0, w1, w2, w3, w4, w5, w6, w7, w8, w9, w10, w11 ]
      rw [eq.1, eq.2]
      refine ⟨fun c2 => skip (fun q => absurd q.2 (by omega)), fun c2 => ?_⟩
      refine sp_reasonOf hm hW (by omega) (by omega) ?_
      simp only [am_iv]
      simp (disch := omega) only [k0, p0, p1, p2, p3, p4, k1, n1, k2, n2, k3, n3, k4, n4, k5, n5, true_and, and_true, Option.some.injEq, exists_eq_left', am_wE, and_dr, imp_dr, imp_df, true_imp_iff, false_imp_iff, not_true_eq_false, not_false_eq_true, hw, w0, w1, w2, w3, w4, w5, w6, w7, w8, w9, w10, w11 , forall_eq]
      refine ih2 _ (by omega) (by omega) hI.put ((hW.put (by omega)).cg ?_)
      intro i _ _
      have er : v_reason (v_s3 V j) j = v_reason V j := by
        unfold v_reason
        rw [v_s3_o (i := 1100 + j) (by omega) (by omega), v_s3_o (i := 1400 + j) (by omega) (by omega), v_s3_o (i := 1700 + j) (by omega) (by omega), v_s3_o (i := 2600 + j) (by omega) (by omega)]
      rw [er]
      unfold v_u v_s3
      by_cases c2 : i = 800 + j
      · subst c2
        rw [if_pos rfl, show 800 + j - 300 = 500 + j by omega, show 800 + j - 800 = j by omega, if_pos ⟨by omega, by omega, c, by omega⟩]
      · rw [if_neg c2]
        by_cases c3 : 800 ≤ i ∧ i < 800 + j ∧ V i = 0 ∧ V 5 ≤ V (i - 300)
        · rw [if_pos c3, if_pos ⟨c3.1, by omega, c3.2.2⟩]
        · rw [if_neg c3, if_neg (fun q => c3 ⟨q.1, by omega, q.2.2⟩)]
  have key2 : ∀ (m n : Nat) (I' : Nat → Nat → Int), (n : Int) + m = W 9 → FR I I' → MW I' (v_s2 (v_s1 W 1 (W 9)) n) → L_X8_go_52 d 284 n K N I' P z Q := by
    intro m
    induction m with
    | zero =>
      intro j I' j1 hI hW
      obtain ⟨hV, sV⟩ := v_s2_G h1 j (by rw [s1.n9]; omega)
      have e : (v_s2 (v_s1 W 1 (W 9)) j) 9 = W 9 := by rw [sV.n9, s1.n9]
      refine wf_X8_go_52 (by omega) ?_
      obtain ⟨k0, p0, p1, p2, p3, p4, k1, n1, k2, n2, k3, n3, k4, n4, k5, n5⟩ := id hm
      obtain ⟨w0, w1, w2, w3, w4, w5, w6, w7, w8, w9, w10, w11⟩ := hW.lits; have hw := hW.all
      simp (disch := omega) only [k0, p0, p1, p2, p3, p4, k1, n1, k2, n2, k3, n3, k4, n4, k5, n5, true_and, and_true, Option.some.injEq, exists_eq_left', am_wE, and_dr, imp_dr, imp_df, true_imp_iff, false_imp_iff, not_true_eq_false, not_false_eq_true, hw, w0, w1, w2, w3, w4, w5, w6, w7, w8, w9, w10, w11 ]
      refine key3 (W 9).toNat 0 I' (by omega) (by omega) hI (hW.cg ?_)
      intro i _ _
      unfold v_s3
      rw [if_neg (by omega), show j = (W 9).toNat by omega]
    | succ m ih =>
      intro j I' j1 hI hW
      obtain ⟨hV, sV⟩ := v_s2_G h1 j (by rw [s1.n9]; omega)
      have e : (v_s2 (v_s1 W 1 (W 9)) j) 9 = W 9 := by rw [sV.n9, s1.n9]
      have g := hV.pt j (by omega) (by omega)
      have g7 := hV.l7
      refine wf_X8_go_52 (by omega) ?_
      have ih2 := fun I' => ih (j + 1) I' (by omega)
      simp only [v_s2, v_try] at ih2
      generalize v_s2 (v_s1 W 1 (W 9)) j = V at *
      obtain ⟨k0, p0, p1, p2, p3, p4, k1, n1, k2, n2, k3, n3, k4, n4, k5, n5⟩ := id hm
      obtain ⟨w0, w1, w2, w3, w4, w5, w6, w7, w8, w9, w10, w11⟩ := hW.lits; have hw := hW.all
      simp (disch := omega) only [k0, p0, p1, p2, p3, p4, k1, n1, k2, n2, k3, n3, k4, n4, k5, n5, true_and, and_true, Option.some.injEq, exists_eq_left', am_wE, and_dr, imp_dr, imp_df, true_imp_iff, false_imp_iff, not_true_eq_false, not_false_eq_true, hw, w0, w1, w2, w3, w4, w5, w6, w7, w8, w9, w10, w11 ]
      refine sp_isOn hm hW (by omega) (by omega) ?_
      simp only [am_iv, ite_z, Int.natCast_add, Int.cast_ofNat_Int] at ih2 ⊢
      refine ⟨fun c => ?_, fun c => ?_⟩
      · rw [if_neg (fun q => c q.1)] at ih2
        exact ih2 I' hI hW
      simp only [Decidable.not_not] at c
      refine ⟨k0, sp_laneOf (by omega) hm hW hV (by omega) (by omega) ?_⟩
      intro I2 hI2 hW2
      simp only [am_iv]
      have bl := hV.lo (p := j)
      generalize v_lo V j = l at *
      refine ⟨fun c2 => ?_, fun c2 => ?_⟩
      · rw [if_neg (fun q => q.2.1 c2)] at ih2
        exact ih2 I2 (hI.tr hI2) hW2
      refine ⟨k0, sp_middleG hm hW2 hV (by omega) (by omega) ?_⟩
      have gl := hV.ln l (by omega) (by omega)
      have hw := hW2.all
      simp only [am_iv, v_win, v_md] at ih2 ⊢
      simp (disch := omega) only [k0, p0, p1, p2, p3, p4, k1, n1, k2, n2, k3, n3, k4, n4, k5, n5, true_and, and_true, Option.some.injEq, exists_eq_left', am_wE, and_dr, imp_dr, imp_df, true_imp_iff, false_imp_iff, not_true_eq_false, not_false_eq_true, hw]
      refine sp_in ?_
      simp only [am_iv, ite_z]
      refine ⟨fun c3 => ?_, fun c3 => ?_⟩
      · rw [if_neg (fun q => c3 (by omega))] at ih2
        exact ih2 I2 (hI.tr hI2) hW2
      rw [if_pos ⟨c, c2, by omega⟩] at ih2
      exact ⟨k0, sp_attempt (by omega) hm hW2 hV (by omega) (by omega) (by omega) (by omega) (fun I3 hI3 hW3 => ih2 I3 ((hI.tr hI2).tr hI3) hW3)⟩
  have key1 : ∀ (m : Nat) (j : Int) (I' : Nat → Nat → Int), 0 ≤ j → j + m = W 9 → FR I I' → MW I' (v_s1 W 1 j) → L_X8_go_12 d 284 j K N I' P z Q := by
    intro m
    induction m with
    | zero =>
      intro j I' j0 j1 hI hW
      have e : v_s1 W 1 j 9 = W 9 := v_s1_same (by omega) 9 (by omega) (by omega) (by omega) (by omega)
      refine wf_X8_go_12 (by omega) ?_
      obtain ⟨k0, p0, p1, p2, p3, p4, k1, n1, k2, n2, k3, n3, k4, n4, k5, n5⟩ := id hm
      obtain ⟨w0, w1, w2, w3, w4, w5, w6, w7, w8, w9, w10, w11⟩ := hW.lits; have hw := hW.all
      simp (disch := omega) only [k0, p0, p1, p2, p3, p4, k1, n1, k2, n2, k3, n3, k4, n4, k5, n5, true_and, and_true, Option.some.injEq, exists_eq_left', am_wE, and_dr, imp_dr, imp_df, true_imp_iff, false_imp_iff, not_true_eq_false, not_false_eq_true, hw, w0, w1, w2, w3, w4, w5, w6, w7, w8, w9, w10, w11 ]
      rw [show j = W 9 by omega] at hW
      exact key2 (W 9).toNat 0 I' (by omega) hI hW
    | succ m ih =>
      intro j I' j0 j1 hI hW
      have e : v_s1 W 1 j 9 = W 9 := v_s1_same (by omega) 9 (by omega) (by omega) (by omega) (by omega)
      have g := hG.pt j (by omega) (by omega)
      have e8 : v_s1 W 1 j (800 + j) = W (800 + j) := v_s1_8 j0 (by omega)
      have e5 : v_s1 W 1 j (500 + j) = W (500 + j) := by rw [v_s1_5 j0, if_neg (by omega)]
      refine wf_X8_go_12 (by omega) ?_
      obtain ⟨k0, p0, p1, p2, p3, p4, k1, n1, k2, n2, k3, n3, k4, n4, k5, n5⟩ := id hm
      obtain ⟨w0, w1, w2, w3, w4, w5, w6, w7, w8, w9, w10, w11⟩ := hW.lits; have hw := hW.all
      simp (disch := omega) only [k0, p0, p1, p2, p3, p4, k1, n1, k2, n2, k3, n3, k4, n4, k5, n5, true_and, and_true, Option.some.injEq, exists_eq_left', am_wE, and_dr, imp_dr, imp_df, true_imp_iff, false_imp_iff, not_true_eq_false, not_false_eq_true, hw, w0, w1, w2, w3, w4, w5, w6, w7, w8, w9, w10, w11 ]
      refine sp_isOn hm hW (by omega) (by omega) ?_
      simp only [am_iv]
      refine sp_one ?_
      simp only [am_iv]
      simp only [ite_z, e8, e5]
      have key : ∀ x : Int, (x = if W (800 + j) = 0 then W (500 + j) + 1 else W (500 + j)) → L_X8_go_12 d 284 (j + 1) K N (am_u2 I' 285 (500 + j).toNat x) P z Q := by
        intro x hx
        refine ih (j + 1) _ (by omega) (by omega) hI.put ((hW.put (by omega)).cg ?_)
        intro i _ _
        unfold v_u
        by_cases c2 : i = 500 + j
        · subst c2
          rw [if_pos rfl, v_s1_5 j0, hx]
          by_cases c3 : W (800 + j) = 0
          · rw [if_pos c3, if_pos ⟨by omega, c3⟩]
          · rw [if_neg c3, if_neg (fun q => c3 q.2)]
        · rw [if_neg c2]
          unfold v_s1
          by_cases c3 : i = 0
          · rw [if_pos c3, if_pos c3]
          rw [if_neg c3, if_neg c3]
          by_cases c4 : 500 ≤ i ∧ i < 500 + j ∧ W (i + 300) = 0
          · rw [if_pos c4, if_pos ⟨c4.1, by omega, c4.2.2⟩]
          · rw [if_neg c4, if_neg (fun q => c4 ⟨q.1, by omega, q.2.2⟩)]
      by_cases c : W (800 + j) = 0
      · simp only [c, not_true_eq_false, if_false, if_true] at key ⊢
        simp (disch := omega) only [k0, p0, p1, p2, p3, p4, k1, n1, k2, n2, k3, n3, k4, n4, k5, n5, true_and, and_true, Option.some.injEq, exists_eq_left', am_wE, and_dr, imp_dr, imp_df, true_imp_iff, false_imp_iff, not_true_eq_false, not_false_eq_true, hw, w0, w1, w2, w3, w4, w5, w6, w7, w8, w9, w10, w11 , forall_eq]
        exact key _ rfl
      · simp only [c, not_false_eq_true, if_false, if_true] at key ⊢
        simp (disch := omega) only [k0, p0, p1, p2, p3, p4, k1, n1, k2, n2, k3, n3, k4, n4, k5, n5, true_and, and_true, Option.some.injEq, exists_eq_left', am_wE, and_dr, imp_dr, imp_df, true_imp_iff, false_imp_iff, not_true_eq_false, not_false_eq_true, hw, w0, w1, w2, w3, w4, w5, w6, w7, w8, w9, w10, w11 , forall_eq]
        exact key _ (by omega)
  refine wf_X8_go ?_
  obtain ⟨k0, p0, p1, p2, p3, p4, k1, n1, k2, n2, k3, n3, k4, n4, k5, n5⟩ := id hm
  obtain ⟨w0, w1, w2, w3, w4, w5, w6, w7, w8, w9, w10, w11⟩ := hW.lits; have hw := hW.all
  simp (disch := omega) only [k0, p0, p1, p2, p3, p4, k1, n1, k2, n2, k3, n3, k4, n4, k5, n5, true_and, and_true, Option.some.injEq, exists_eq_left', am_wE, and_dr, imp_dr, imp_df, true_imp_iff, false_imp_iff, not_true_eq_false, not_false_eq_true, hw, w0, w1, w2, w3, w4, w5, w6, w7, w8, w9, w10, w11 , forall_eq]
  refine key1 (W 9).toNat 0 _ (by omega) (by omega) FR.rf.put (hW.putn.cg ?_)
  intro i _ _
  unfold v_u v_s1
  by_cases c : i = 0
  · rw [if_pos (by simpa using c), if_pos c]
  · rw [if_neg (by simpa using c), if_neg c, if_neg (by omega)]
end
