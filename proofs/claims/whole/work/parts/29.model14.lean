/-! what a millimeter does to one part -/
theorem v_att_on {W : Int → Int} {p l : Int} (l0 : 0 ≤ l) (l1 : l < 6) (p0 : 0 ≤ p) (p1 : p < 300) {q : Int} (q0 : 0 ≤ q) (q1 : q < 300) : ((v_att W p l) (800 + q) = 0 → W (800 + q) = 0) ∧ (v_att W p l) (500 + q) = W (500 + q) := by
  unfold v_att v_u
  split <;> simp only
  · rw [if_neg (by omega : ¬ 800 + q = 40 + l), if_neg (by omega : ¬ 800 + q = 34 + l), if_neg (by omega : ¬ 500 + q = 40 + l), if_neg (by omega : ¬ 500 + q = 34 + l), if_neg (by omega : ¬ 500 + q = 800 + p)]
    refine ⟨fun h => ?_, rfl⟩
    split at h
    · omega
    · exact h
  · rw [if_neg (by omega : ¬ 800 + q = 2600 + p), if_neg (by omega : ¬ 500 + q = 2600 + p)]
    exact ⟨id, rfl⟩
theorem v_try_on {W : Int → Int} (hG : v_G W) {p : Int} (p0 : 0 ≤ p) (p1 : p < 300) {q : Int} (q0 : 0 ≤ q) (q1 : q < 300) : ((v_try W p) (800 + q) = 0 → W (800 + q) = 0) ∧ (v_try W p) (500 + q) = W (500 + q) := by
  have b := hG.lo (p := p)
  have b7 := hG.l7
  unfold v_try
  split
  · exact v_att_on (by omega) (by omega) p0 p1 q0 q1
  · exact ⟨id, rfl⟩
theorem v_s2_on {W : Int → Int} (hG : v_G W) {q : Int} (q0 : 0 ≤ q) (q1 : q < 300) : ∀ n : Nat, (n : Int) ≤ W 9 → ((v_s2 W n) (800 + q) = 0 → W (800 + q) = 0) ∧ (v_s2 W n) (500 + q) = W (500 + q)
  | 0, _ => ⟨id, rfl⟩
  | n + 1, h => by
    have g9 := hG.n9
    obtain ⟨h1, h2⟩ := v_s2_on hG q0 q1 n (by omega)
    obtain ⟨h3, h4⟩ := v_try_on (v_s2_G hG n (by omega)).1 (p := n) (by omega) (by omega) q0 q1
    exact ⟨fun h => h1 (h3 h), h4.trans h2⟩
theorem v_go_on {W : Int → Int} (hG : v_G W) (hF : v_F W) {q : Int} (q0 : 0 ≤ q) (q1 : q < W 9) : ((v_go W) (800 + q) = 0 → W (800 + q) = 0 ∧ (v_go W) (500 + q) = W (500 + q) + 1) ∧ (¬ W (800 + q) = 0 → (v_go W) (800 + q) = W (800 + q) ∧ (v_go W) (500 + q) = W (500 + q)) := by
  have g9 := hG.n9
  have h1 := v_s1_G hG (k := 1) (by omega) (fun p a b c => by have := hF p a b c; omega)
  have s1 := v_s1_same (W := W) (k := 1) (n := W 9) (by omega)
  obtain ⟨h2, s2⟩ := v_s2_G h1 (W 9).toNat (by rw [s1.n9]; omega)
  obtain ⟨h3, h4⟩ := v_s2_on h1 q0 (by omega) (W 9).toNat (by rw [s1.n9]; omega)
  have r := v_reason_bd h2 q0 (by rw [s2.n9, s1.n9]; exact q1)
  have e8 : v_s1 W 1 (W 9) (800 + q) = W (800 + q) := v_s1_8 q0 (by omega)
  have key : ∀ n : Nat, (n : Int) ≤ W 9 → ¬ W (800 + q) = 0 → (v_s2 (v_s1 W 1 (W 9)) n) (800 + q) = W (800 + q) := by
    intro n hn hq
    induction n with
    | zero => exact e8
    | succ n ih =>
      have ih2 := ih (by omega)
      have hV := (v_s2_G h1 n (by rw [s1.n9]; omega)).1
      have b := hV.lo (p := n)
      have b7 := hV.l7
      show v_try (v_s2 (v_s1 W 1 (W 9)) n) n (800 + q) = _
      generalize v_s2 (v_s1 W 1 (W 9)) n = V at *
      unfold v_try
      split
      · rename_i c
        have ne : ¬ q = n := by rintro rfl; exact hq (ih2.symm.trans c.1)
        unfold v_att v_u
        split <;> simp only
        · rw [if_neg (by omega), if_neg (by omega), if_neg (by omega)]; exact ih2
        · rw [if_neg (by omega)]; exact ih2
      · exact ih2
  have key9 := key (W 9).toNat (by omega)
  unfold v_go
  have e5 : v_s3 (v_s2 (v_s1 W 1 (W 9)) (W 9).toNat) (W 9) (500 + q) = if q < W 9 ∧ W (800 + q) = 0 then W (500 + q) + 1 else W (500 + q) := by
    rw [v_s3_o (by omega) (by omega), h4, v_s1_5 q0]
  rw [e5, v_s3_8 q0]
  generalize v_s2 (v_s1 W 1 (W 9)) (W 9).toNat = V at *
  refine ⟨fun h => ?_, fun h => ?_⟩
  · have h9 : V (800 + q) = 0 := by
      split at h
      · omega
      · exact h
    have := h3 h9
    rw [e8] at this
    exact ⟨this, by rw [if_pos ⟨q1, this⟩]⟩
  · have kk := key9 h
    rw [kk, if_neg (fun c => h c.2.1), if_neg (fun c => h c.2)]
    exact ⟨rfl, rfl⟩
theorem v_it_on {W : Int → Int} (hG : v_G W) (hF : v_F W) {q : Int} (q0 : 0 ≤ q) (q1 : q < W 9) : ∀ k : Nat, ((v_it k W) (800 + q) = 0 → W (800 + q) = 0 ∧ (v_it k W) (500 + q) = W (500 + q) + k)
  | 0 => fun h => ⟨h, by simp [v_it]⟩
  | k + 1 => fun h => by
    obtain ⟨h1, h2, h3, h4⟩ := v_it_G hG hF k
    obtain ⟨g1, g2⟩ := (v_go_on h1 h2 q0 (by rw [h3.n9]; exact q1)).1 h
    obtain ⟨i1, i2⟩ := v_it_on hG hF q0 q1 k g1
    refine ⟨i1, ?_⟩
    show v_go (v_it k W) (500 + q) = _
    rw [g2, i2]; omega
section
variable {d : Nat} {K N : Nat → Nat} {I I1 : Nat → Nat → Int} {P : Nat → Nat → Option Nat} {z : Nat} {Q : am_V → am_T} {W : Int → Int} {S : Int → Int → Int} {c : Int} {T : Int → Int} {n : Int}
theorem sp_move (hd : 8 ≤ d) (hm : MS K N P) (hA : MA I W S c T n) (hG : v_G W) (hF : v_F W) (h0 : W 0 ≤ 50000) {x : Int} (h1 : ¬ (1 ≤ x ∧ x ≤ 500) → OM K N I P z Q 1 (am_i 0) W S c T n) (h2 : 1 ≤ x ∧ x ≤ 500 → 50000 < W 0 + x → OM K N I P z Q 2 (am_i 0) W S c T n)
    (h3 : 1 ≤ x ∧ x ≤ 500 → W 0 + x ≤ 50000 → OM K N I P z Q 0 (am_i (v_ob W - v_ob (v_it x.toNat W))) (v_it x.toNat W) (v_svS S c W) (v_svc c) T n) : am_C d m_X8_move [am_r 284, am_i x] K N I P z Q am_nx := by
  have hFF := hF
  clear hF
  refine wf_X8_move (by omega) ⟨hm.1, ?_⟩
  rintro I2 rfl; replace hA := hA.th (x := 0); have hF : FM I (am_u2 I 284 7 0) := FM.rf.put (by omega); have ht : am_u2 I 284 7 0 284 7 = 0 := am_u2_s; have hW := hA.w; generalize am_u2 I 284 7 0 = I1 at *
  have g9 := hG.n9
  have g0 := hG.d0
  refine sp_in ?_
  simp only [am_iv, ite_z]
  refine ⟨fun q => ?_, fun q => ⟨hm.1, sp_no hm hF hA (h1 q)⟩⟩
  simp only [Decidable.not_not] at q
  have key : ∀ (m k : Nat) (I' : Nat → Nat → Int), (k : Int) + m = x → W 0 + x ≤ 50000 → FM I I' → MA I' (v_it k W) (v_svS S c W) (v_svc c) T n → I' 284 7 = 0 → L_X8_move_52 d 284 x (v_ob W) k K N I' P z Q := by
    intro m
    induction m with
    | zero =>
      intro k I' hk hx hF hA ht
      obtain ⟨i1, i2, i3, i4⟩ := v_it_G hG hFF k
      refine wf_X8_move_52 (by omega) ?_
      simp (disch := omega) only [and_dr, imp_dr, imp_df, and_true, true_and]
      refine ⟨hm.1, sp_onBelt (by omega) hm hA.w (n := (W 9).toNat) (by rw [i3.n9]; omega) (by omega) ?_⟩
      have e : x.toNat = k := by omega
      simp only [am_iv, v_ob]
      have b1 := v_cnt_bd (v_on W) (W 9).toNat
      have b2 := v_cnt_bd (v_on (v_it k W)) (W 9).toNat
      rw [am_wE (by omega) (by omega)]
      have h3 := h3 q hx
      rw [e] at h3
      simp only [v_ob, i3.n9] at h3
      exact h3 _ hF hA ht
    | succ m ih =>
      intro k I' hk hx hF hA ht
      obtain ⟨i1, i2, i3, i4⟩ := v_it_G hG hFF k
      refine wf_X8_move_52 (by omega) ?_
      simp (disch := omega) only [and_dr, imp_dr, imp_df, and_true, true_and]
      refine ⟨hm.1, sp_go (by omega) hm hA.w i1 i2 (by omega) ?_⟩
      intro I2 hI2 hW2
      rw [am_wE (by omega) (by omega)]
      exact ih (k + 1) I2 (by omega) hx (hF.tr hI2.FM) (hA.fr hI2 hW2) ((hI2 284 7 (by omega) (by omega)).trans ht)
  obtain ⟨k0, p0, p1, p2, p3, p4, k1, n1, k2, n2, k3, n3, k4, n4, k5, n5⟩ := id hm
  obtain ⟨w0, w1, w2, w3, w4, w5, w6, w7, w8, w9, w10, w11⟩ := hW.lits; have hw := hW.all
  simp (disch := omega) only [k0, p0, p1, p2, p3, p4, k1, n1, k2, n2, k3, n3, k4, n4, k5, n5, true_and, and_true, Option.some.injEq, exists_eq_left', am_wE, and_dr, imp_dr, imp_df, true_imp_iff, false_imp_iff, not_true_eq_false, not_false_eq_true, hw, w0, w1, w2, w3, w4, w5, w6, w7, w8, w9, w10, w11 ]
  refine ⟨fun r => sp_save hm hA ?_, fun r => sp_no hm hF hA (h2 q (by omega))⟩
  intro I2 hF2 hA2 ht2; replace hF := hF.tr hF2; replace ht := ht2.trans ht; have hW := hA2.w; clear hF2 ht2
  refine ⟨k0, sp_onBelt (by omega) hm hW (n := (W 9).toNat) (by omega) (by omega) ?_⟩
  simp only [am_iv]
  exact key x.toNat 0 I2 (by omega) r hF hA2 ht
theorem sp_undo (hd : 1 ≤ d) (hm : MS K N P) (hA : MA I W S c T n) (h1 : c = 0 → OM K N I P z Q 1 (am_i 0) W S c T n) (h2 : ¬ c = 0 → OM K N I P z Q 0 (am_i (c - 1)) (S (c - 1)) S (c - 1) T n) : am_C d m_X8_undo [am_r 284] K N I P z Q am_nx := by
  refine wf_X8_undo (by omega) ⟨hm.1, ?_⟩
  rintro I2 rfl; replace hA := hA.th (x := 0); have hF : FM I (am_u2 I 284 7 0) := FM.rf.put (by omega); have ht : am_u2 I 284 7 0 284 7 = 0 := am_u2_s; have hW := hA.w; generalize am_u2 I 284 7 0 = I1 at *
  have hA2 := hA
  obtain ⟨hW, a1, a2, a3, a4, a5, a6⟩ := hA
  rw [a1]
  refine ⟨fun q => ?_, fun q => sp_no hm hF hA2 (h1 q)⟩
  rintro I2 rfl
  have key : ∀ (m : Nat) (j : Int) (I' : Nat → Nat → Int), 0 ≤ j → j + m = 3200 → FM I I' → I' 284 7 = 0 → MA I' (fun i => if i < j then S (c - 1) i else W i) S (c - 1) T n → (∀ i : Int, 0 ≤ i → i < 3200 → I' 286 ((c - 1) * 3200 + i).toNat = S (c - 1) i) → L_X8_undo_30 d 284 j K N I' P z Q := by
    intro m
    induction m with
    | zero =>
      intro j I' j0 j1 hF ht hA hp
      refine wf_X8_undo_30 ?_
      simp (disch := omega) only [and_dr, imp_dr, imp_df, and_true, true_and]
      refine ⟨hm.1, ?_⟩
      rw [hA.2.1]
      exact h2 q _ hF (hA.cg (fun i a b => if_pos (by omega))) ht
    | succ m ih =>
      intro j I' j0 j1 hF ht hA hp
      obtain ⟨hW, a1, a2, a3, a4, a5, a6⟩ := hA
      have b1 := hp j (by omega) (by omega)
      refine wf_X8_undo_30 ?_
      obtain ⟨k0, p0, p1, p2, p3, p4, k1, n1, k2, n2, k3, n3, k4, n4, k5, n5⟩ := id hm
      simp (disch := omega) only [k0, p0, p1, p2, p3, p4, k1, n1, k2, n2, k3, n3, k4, n4, k5, n5, true_and, and_true, Option.some.injEq, exists_eq_left', am_wE, and_dr, imp_dr, imp_df, true_imp_iff, false_imp_iff, not_true_eq_false, not_false_eq_true, forall_eq, a1, b1]
      refine ih (j + 1) _ (by omega) (by omega) (hF.put (by omega)) ((am_u2_o (by omega)).trans ht) ⟨?_, (am_u2_o (by omega)).trans a1, (am_u2_o (by omega)).trans a2, ?_, fun k a b => (am_u2_o (by omega)).trans (a4 k a b), a5, a6⟩ (fun i a b => (am_u2_o (by omega)).trans (hp i a b))
      · refine (hW.put j0).cg (fun i a b => ?_)
        unfold v_u
        by_cases q : i = j
        · rw [if_pos q, if_pos (by omega), q]
        · rw [if_neg q]
          simp only
          by_cases q2 : i < j
          · rw [if_pos q2, if_pos (by omega)]
          · rw [if_neg q2, if_neg (by omega)]
      · intro i k a b e f
        rw [am_u2_o (by omega)]
        exact a3 i k a b e f
  rw [am_wE (by omega) (by omega)]
  refine key 3200 0 _ (by omega) (by omega) (hF.put (by omega)) ((am_u2_o (by omega)).trans ht) ⟨fun i a b => (am_u2_o (by omega)).trans ((hW i a b).trans (if_neg (by omega)).symm), am_u2_s, (am_u2_o (by omega)).trans a2, ?_, fun k a b => (am_u2_o (by omega)).trans (a4 k a b), by omega, a6⟩ ?_
  · intro i k a b e f
    rw [am_u2_o (by omega)]
    exact a3 i k a (by omega) e f
  · intro k e f
    rw [am_u2_o (by omega)]
    exact a3 (c - 1) k (by omega) (by omega) e f
end
