/-- W with a new part -/
def v_new (W : Int → Int) (x : Int) : Int → Int := fun i => if i = 9 then W 9 + 1 else if i = 200 + W 9 then x else if i = 1100 + W 9 then -1 else if i = 500 + W 9 ∨ i = 800 + W 9 ∨ i = 1400 + W 9 ∨ i = 1700 + W 9 ∨ i = 2000 + W 9 ∨ i = 2300 + W 9 ∨ i = 2600 + W 9 ∨ i = 2900 + W 9 then 0 else W i
abbrev v_la (W : Int → Int) : Int := v_prev (v_on W) (W 9).toNat
def v_ent (W : Int → Int) (x : Int) : Int → Int := if ¬ v_la W = -1 ∧ v_tl W (v_la W) < W 6 then v_u (v_u (v_new W x) (1700 + W 9) 1) (1700 + v_la W) 1 else v_new W x
theorem MA.new {I : Nat → Nat → Int} {W : Int → Int} {S : Int → Int → Int} {c : Int} {T : Int → Int} {n x : Int} (h0 : 0 ≤ W 9) (h1 : W 9 ≤ 299) (h : MA I (v_u (v_u (v_u (v_u (v_u (v_u (v_u (v_u (v_u (v_u (v_u W 9 (W 9 + 1)) (200 + W 9) x) (500 + W 9) 0) (800 + W 9) 0) (1100 + W 9) (-1)) (1400 + W 9) 0) (1700 + W 9) 0) (2000 + W 9) 0) (2300 + W 9) 0) (2600 + W 9) 0) (2900 + W 9) 0) S c T n) : MA I (v_new W x) S c T n := by
  refine h.cg (fun i a b => ?_)
  unfold v_u v_new
  by_cases c9 : i = 9
  · simp (disch := omega) only [c9, if_pos, if_neg]
  by_cases c2 : i = 200 + W 9
  · simp (disch := omega) only [c2, if_pos, if_neg]
  by_cases c3 : i = 1100 + W 9
  · simp (disch := omega) only [c3, if_pos, if_neg]
  by_cases c4 : i = 500 + W 9 ∨ i = 800 + W 9 ∨ i = 1400 + W 9 ∨ i = 1700 + W 9 ∨ i = 2000 + W 9 ∨ i = 2300 + W 9 ∨ i = 2600 + W 9 ∨ i = 2900 + W 9
  · rcases c4 with e | e | e | e | e | e | e | e <;> simp (disch := omega) only [e, if_pos, if_neg, if_true, true_or, or_true]
  · simp (disch := omega) only [if_neg]
theorem v_entc {N : Nat → Nat} {I : Nat → Nat → Int} {W : Int → Int} {R : (Nat → Nat → Int) → Prop} {x : Int} (n1 : N 285 = 3200) (w9 : I 285 9 = W 9) (h0 : 0 ≤ W 9) (h1 : W 9 ≤ 299) (h : R (am_u2 (am_u2 (am_u2 (am_u2 (am_u2 (am_u2 (am_u2 (am_u2 (am_u2 (am_u2 (am_u2 I 285 (Int.toNat 9) (W 9 + 1)) 285 (200 + W 9).toNat x) 285 (500 + W 9).toNat 0) 285 (800 + W 9).toNat 0) 285 (1100 + W 9).toNat (-1)) 285 (1400 + W 9).toNat 0) 285 (1700 + W 9).toNat 0) 285 (2000 + W 9).toNat 0) 285 (2300 + W 9).toNat 0) 285 (2600 + W 9).toNat 0) 285 (2900 + W 9).toNat 0)) : ((9 : Int) < N 285) ∧ ((9 : Int) < N 285) ∧ ((9 : Int) < N 285) ∧ ∀ I3, I3 = am_u2 I 285 (Int.toNat 9) (am_wr (I 285 9 + 1)) → (0 ≤ am_wr (200 + I 285 9) ∧ am_wr (200 + I 285 9) < N 285) ∧ ∀ I4, I4 = am_u2 I3 285 (Int.toNat (am_wr (200 + I 285 9))) x → (0 ≤ am_wr (500 + I 285 9) ∧ am_wr (500 + I 285 9) < N 285) ∧ ∀ I5, I5 = am_u2 I4 285 (Int.toNat (am_wr (500 + I 285 9))) 0 → (0 ≤ am_wr (800 + I 285 9) ∧ am_wr (800 + I 285 9) < N 285) ∧ ∀ I6, I6 = am_u2 I5 285 (Int.toNat (am_wr (800 + I 285 9))) 0 → (0 ≤ am_wr (1100 + I 285 9) ∧ am_wr (1100 + I 285 9) < N 285) ∧ ∀ I7, I7 = am_u2 I6 285 (Int.toNat (am_wr (1100 + I 285 9))) (-1) → (0 ≤ am_wr (1400 + I 285 9) ∧ am_wr (1400 + I 285 9) < N 285) ∧ ∀ I8, I8 = am_u2 I7 285 (Int.toNat (am_wr (1400 + I 285 9))) 0 → (0 ≤ am_wr (1700 + I 285 9) ∧ am_wr (1700 + I 285 9) < N 285) ∧ ∀ I9, I9 = am_u2 I8 285 (Int.toNat (am_wr (1700 + I 285 9))) 0 → (0 ≤ am_wr (2000 + I 285 9) ∧ am_wr (2000 + I 285 9) < N 285) ∧ ∀ I10, I10 = am_u2 I9 285 (Int.toNat (am_wr (2000 + I 285 9))) 0 → (0 ≤ am_wr (2300 + I 285 9) ∧ am_wr (2300 + I 285 9) < N 285) ∧ ∀ I11, I11 = am_u2 I10 285 (Int.toNat (am_wr (2300 + I 285 9))) 0 → (0 ≤ am_wr (2600 + I 285 9) ∧ am_wr (2600 + I 285 9) < N 285) ∧ ∀ I12, I12 = am_u2 I11 285 (Int.toNat (am_wr (2600 + I 285 9))) 0 → (0 ≤ am_wr (2900 + I 285 9) ∧ am_wr (2900 + I 285 9) < N 285) ∧ ∀ I13, I13 = am_u2 I12 285 (Int.toNat (am_wr (2900 + I 285 9))) 0 → R I13 := by
  simp (disch := omega) only [n1, w9, am_wE, and_dr, forall_eq, true_and, and_true]
  exact h
section
variable {d : Nat} {K N : Nat → Nat} {I I1 : Nat → Nat → Int} {P : Nat → Nat → Option Nat} {z : Nat} {Q : am_V → am_T} {W : Int → Int} {S : Int → Int → Int} {c : Int} {T : Int → Int} {n : Int}
theorem sp_enter (hd : 4 ≤ d) (hm : MS K N P) (hA : MA I W S c T n) (hG : v_G W) {x : Int} (h1 : ¬ (10 ≤ x ∧ x ≤ 400) → OM K N I P z Q 1 (am_i 0) W S c T n)
    (h2 : 10 ≤ x ∧ x ≤ 400 → (¬ v_la W = -1 ∧ v_tl W (v_la W) < 0) ∨ v_ob W = 20 ∨ W 9 = 300 → OM K N I P z Q 2 (am_i 0) W S c T n)
    (h3 : 10 ≤ x ∧ x ≤ 400 → ¬ ((¬ v_la W = -1 ∧ v_tl W (v_la W) < 0) ∨ v_ob W = 20 ∨ W 9 = 300) → OM K N I P z Q 0 (am_i (W 9)) (v_ent W x) (v_svS S c W) (v_svc c) T n) : am_C d m_X8_enter [am_r 284, am_i x] K N I P z Q am_nx := by
  refine wf_X8_enter (by omega) ⟨hm.1, ?_⟩
  rintro I2 rfl; replace hA := hA.th (x := 0); have hF : FM I (am_u2 I 284 7 0) := FM.rf.put (by omega); have ht : am_u2 I 284 7 0 284 7 = 0 := am_u2_s; have hW := hA.w; generalize am_u2 I 284 7 0 = I1 at *
  have g9 := hG.n9
  refine sp_in ?_
  simp only [am_iv, ite_z]
  refine ⟨fun q => ⟨hm.1, ?_⟩, fun q => ⟨hm.1, sp_no hm hF hA (h1 q)⟩⟩
  simp only [Decidable.not_not] at q
  refine sp_latest (by omega) hm hW (n := (W 9).toNat) (by omega) (by omega) ?_
  simp only [am_iv]
  have b := v_prev_bd (v_on W) (W 9).toNat
  have h2 := h2 q
  have h3 := h3 q
  unfold v_ent at h3
  simp only [v_la, v_ah, v_tl] at h2 h3 ⊢
  obtain ⟨a, ha⟩ : ∃ a, a = v_prev (v_on W) (W 9).toNat := ⟨_, rfl⟩
  simp only [← ha] at h2 h3 b ⊢
  clear ha h1
  refine ⟨fun ca => ⟨hm.1, ?_⟩, fun ca => ⟨hm.1, ?_⟩⟩
  · refine sp_onBelt (by omega) hm hW (n := (W 9).toNat) (by omega) (by omega) ?_; simp only [am_iv]; refine ⟨fun c2 => ⟨hm.1, sp_no hm hF hA (h2 (Or.inr (Or.inl c2)))⟩, fun c2 => ⟨hm.1, ?_⟩⟩; obtain ⟨k0, p0, p1, p2, p3, p4, k1, n1, k2, n2, k3, n3, k4, n4, k5, n5⟩ := id hm; have w9 : I1 285 9 = W 9 := hW.lit 9 (by decide); simp (disch := omega) only [k0, p0, p1, p2, p3, p4, k1, n1, k2, n2, k3, n3, k4, n4, k5, n5, true_and, and_true, Option.some.injEq, exists_eq_left', am_wE, and_dr, imp_dr, imp_df, true_imp_iff, false_imp_iff, not_true_eq_false, not_false_eq_true, w9]; refine ⟨fun c3 => sp_save hm hA ?_, fun c3 => sp_no hm hF hA (h2 (Or.inr (Or.inr c3)))⟩; intro I2 hF2 hA2 ht2; replace hF := hF.tr hF2; replace ht := ht2.trans ht; have hW := hA2.w; clear hF2 ht2; obtain ⟨w0, w1, w2, w3, w4, w5, w6, w7, w8, w9, w10, w11⟩ := hW.lits; have hw := hW.all; refine ⟨k0, 285, p0, k1, v_entc n1 w9 g9.1 (by omega) ?_⟩; simp only [w9]
    have h3 := h3 (fun r => by rcases r with r | r | r; exact r.1 ca; exact c2 r; exact c3 r)
    rw [if_neg (fun r => r.1 ca)] at h3
    refine h3 _ ?_ (MA.new (by omega) (by omega) ?_) ?_
    · repeat refine FM.put ?_ (by omega)
      exact hF
    · repeat refine MA.put ?_ (by omega)
      exact hA2
    · repeat refine (am_u2_o (by omega)).trans ?_
      exact ht
  · have ga := hG.pt a (by omega) (by omega)
    refine sp_tailG hm hW hG (by omega) (by omega) ?_
    simp only [am_iv]
    refine ⟨fun cb => ⟨hm.1, sp_no hm hF hA (h2 (Or.inl ⟨ca, cb⟩))⟩, fun cb => ⟨hm.1, ?_⟩⟩
    refine sp_onBelt (by omega) hm hW (n := (W 9).toNat) (by omega) (by omega) ?_; simp only [am_iv]; refine ⟨fun c2 => ⟨hm.1, sp_no hm hF hA (h2 (Or.inr (Or.inl c2)))⟩, fun c2 => ⟨hm.1, ?_⟩⟩; obtain ⟨k0, p0, p1, p2, p3, p4, k1, n1, k2, n2, k3, n3, k4, n4, k5, n5⟩ := id hm; have w9 : I1 285 9 = W 9 := hW.lit 9 (by decide); simp (disch := omega) only [k0, p0, p1, p2, p3, p4, k1, n1, k2, n2, k3, n3, k4, n4, k5, n5, true_and, and_true, Option.some.injEq, exists_eq_left', am_wE, and_dr, imp_dr, imp_df, true_imp_iff, false_imp_iff, not_true_eq_false, not_false_eq_true, w9]; refine ⟨fun c3 => sp_save hm hA ?_, fun c3 => sp_no hm hF hA (h2 (Or.inr (Or.inr c3)))⟩; intro I2 hF2 hA2 ht2; replace hF := hF.tr hF2; replace ht := ht2.trans ht; have hW := hA2.w; clear hF2 ht2; obtain ⟨w0, w1, w2, w3, w4, w5, w6, w7, w8, w9, w10, w11⟩ := hW.lits; have hw := hW.all; refine ⟨k0, 285, p0, k1, v_entc n1 w9 g9.1 (by omega) ?_⟩; simp only [w9]
    have h3 := h3 (fun r => by rcases r with r | r | r; exact cb r.2; exact c2 r; exact c3 r)
    have hA3 : MA (am_u2 (am_u2 (am_u2 (am_u2 (am_u2 (am_u2 (am_u2 (am_u2 (am_u2 (am_u2 (am_u2 I2 285 (Int.toNat 9) (W 9 + 1)) 285 (200 + W 9).toNat x) 285 (500 + W 9).toNat 0) 285 (800 + W 9).toNat 0) 285 (1100 + W 9).toNat (-1)) 285 (1400 + W 9).toNat 0) 285 (1700 + W 9).toNat 0) 285 (2000 + W 9).toNat 0) 285 (2300 + W 9).toNat 0) 285 (2600 + W 9).toNat 0) 285 (2900 + W 9).toNat 0) (v_new W x) (v_svS S c W) (v_svc c) T n := by
      refine MA.new (by omega) (by omega) ?_
      repeat refine MA.put ?_ (by omega)
      exact hA2
    have hF3 : FM I (am_u2 (am_u2 (am_u2 (am_u2 (am_u2 (am_u2 (am_u2 (am_u2 (am_u2 (am_u2 (am_u2 I2 285 (Int.toNat 9) (W 9 + 1)) 285 (200 + W 9).toNat x) 285 (500 + W 9).toNat 0) 285 (800 + W 9).toNat 0) 285 (1100 + W 9).toNat (-1)) 285 (1400 + W 9).toNat 0) 285 (1700 + W 9).toNat 0) 285 (2000 + W 9).toNat 0) 285 (2300 + W 9).toNat 0) 285 (2600 + W 9).toNat 0) 285 (2900 + W 9).toNat 0) := by
      repeat refine FM.put ?_ (by omega)
      exact hF
    have ht3 : (am_u2 (am_u2 (am_u2 (am_u2 (am_u2 (am_u2 (am_u2 (am_u2 (am_u2 (am_u2 (am_u2 I2 285 (Int.toNat 9) (W 9 + 1)) 285 (200 + W 9).toNat x) 285 (500 + W 9).toNat 0) 285 (800 + W 9).toNat 0) 285 (1100 + W 9).toNat (-1)) 285 (1400 + W 9).toNat 0) 285 (1700 + W 9).toNat 0) 285 (2000 + W 9).toNat 0) 285 (2300 + W 9).toNat 0) 285 (2600 + W 9).toNat 0) 285 (2900 + W 9).toNat 0) 284 7 = 0 := by
      repeat refine (am_u2_o (by omega)).trans ?_
      exact ht
    clear hF hA2 ht hA hW hw w0 w1 w2 w3 w4 w5 w6 w7 w8 w9 w10 w11
    generalize am_u2 (am_u2 (am_u2 (am_u2 (am_u2 (am_u2 (am_u2 (am_u2 (am_u2 (am_u2 (am_u2 I2 285 (Int.toNat 9) (W 9 + 1)) 285 (200 + W 9).toNat x) 285 (500 + W 9).toNat 0) 285 (800 + W 9).toNat 0) 285 (1100 + W 9).toNat (-1)) 285 (1400 + W 9).toNat 0) 285 (1700 + W 9).toNat 0) 285 (2000 + W 9).toNat 0) 285 (2300 + W 9).toNat 0) 285 (2600 + W 9).toNat 0) 285 (2900 + W 9).toNat 0 = I3 at *
    have hW := hA3.w
    have e5 : v_new W x (500 + a) = W (500 + a) := by unfold v_new; simp (disch := omega) only [if_neg]
    have e2 : v_new W x (200 + a) = W (200 + a) := by unfold v_new; simp (disch := omega) only [if_neg]
    have e6 : v_new W x 6 = W 6 := by unfold v_new; simp (disch := omega) only [if_neg]
    refine sp_tail hm hW (by omega) (by omega) ?_
    simp only [am_iv]
    have w6 : I3 285 6 = v_new W x 6 := hW.lit 6 (by decide)
    simp (disch := omega) only [k0, p0, p1, p2, p3, p4, k1, n1, k2, n2, k3, n3, k4, n4, k5, n5, true_and, and_true, Option.some.injEq, exists_eq_left', am_wE, and_dr, imp_dr, imp_df, true_imp_iff, false_imp_iff, not_true_eq_false, not_false_eq_true, w6, e5, e2, e6, forall_eq]
    refine ⟨fun cc => ?_, fun cc => ?_⟩
    · rw [if_neg (fun r => absurd r.2 (by omega))] at h3
      exact h3 _ hF3 hA3 ht3
    · rw [if_pos ⟨ca, by omega⟩] at h3
      exact h3 _ ((hF3.put (by omega)).put (by omega)) ((hA3.put (by omega)).put (by omega)) ((am_u2_o (by omega)).trans ((am_u2_o (by omega)).trans ht3))
/-- the routes behind j are moved down -/
def v_ins (W : Int → Int) (j : Int) : Int → Int := fun i => if (46 + j < i ∧ i ≤ 46 + W 8) ∨ (76 + j < i ∧ i ≤ 76 + W 8) then W (i - 1) else W i
def v_rt (W : Int → Int) (k x l : Int) : Int → Int := v_u (v_u (v_u (v_ins W k) 8 (W 8 + 1)) (46 + k) x) (76 + k) l
theorem sp_route (hd : 3 ≤ d) (hm : MS K N P) (hA : MA I W S c T n) (hG : v_G W) {x l : Int} (h1 : ¬ (0 ≤ x ∧ x ≤ 999) → OM K N I P z Q 1 (am_i 0) W S c T n) (h2 : 0 ≤ x ∧ x ≤ 999 → ¬ (0 ≤ l ∧ l < W 7) → OM K N I P z Q 2 (am_i 0) W S c T n)
    (h3 : 0 ≤ x ∧ x ≤ 999 → 0 ≤ l ∧ l < W 7 → ¬ v_has W x → W 8 = 30 → OM K N I P z Q 3 (am_i 0) W S c T n)
    (h4 : 0 ≤ x ∧ x ≤ 999 → 0 ≤ l ∧ l < W 7 → v_has W x → OM K N I P z Q 0 (am_i (W (76 + v_place W x))) (v_u (v_u W (46 + v_place W x) x) (76 + v_place W x) l) (v_svS S c W) (v_svc c) T n)
    (h5 : 0 ≤ x ∧ x ≤ 999 → 0 ≤ l ∧ l < W 7 → ¬ v_has W x → ¬ W 8 = 30 → OM K N I P z Q 0 (am_i (-1)) (v_rt W (v_place W x) x l) (v_svS S c W) (v_svc c) T n) : am_C d m_X8_route [am_r 284, am_i x, am_i l] K N I P z Q am_nx := by
  refine wf_X8_route (by omega) ⟨hm.1, ?_⟩
  rintro I2 rfl; replace hA := hA.th (x := 0); have hF : FM I (am_u2 I 284 7 0) := FM.rf.put (by omega); have ht : am_u2 I 284 7 0 284 7 = 0 := am_u2_s; have hW := hA.w; generalize am_u2 I 284 7 0 = I1 at *
  have g8 := hG.r8
  refine sp_isCode (by omega) ?_
  simp only [am_iv, ite_z]
  refine ⟨fun q => ⟨hm.1, ?_⟩, fun q => ⟨hm.1, sp_no hm hF hA (h1 q)⟩⟩
  simp only [Decidable.not_not] at q
  refine sp_isLane (by omega) hm hW hG.l7 ?_
  simp only [am_iv, ite_z]
  refine ⟨fun q2 => ⟨hm.1, ?_⟩, fun q2 => ⟨hm.1, sp_no hm hF hA (h2 q q2)⟩⟩
  simp only [Decidable.not_not] at q2
  refine sp_hasRoute (by omega) hm hW hG.r8 ?_
  simp only [am_iv, ite_z]
  have bk := v_place_bd g8.1 x
  refine ⟨fun q3 => ⟨hm.1, sp_save hm hA ?_⟩, fun q3 => ⟨hm.1, ?_⟩⟩
  · simp only [Decidable.not_not] at q3
    have h4 := h4 q q2 q3
    have bl := q3.1
    intro I2 hF2 hA2 ht2; replace hF := hF.tr hF2; replace ht := ht2.trans ht; have hW := hA2.w; clear hF2 ht2
    refine ⟨hm.1, sp_placeOf hm hW hG.r8 ?_⟩
    simp only [am_iv]
    simp only [eq_true q3, not_true_eq_false, not_false_eq_true, true_imp_iff, false_imp_iff, true_and, and_true]
    generalize v_place W x = k at *
    obtain ⟨k0, p0, p1, p2, p3, p4, k1, n1, k2, n2, k3, n3, k4, n4, k5, n5⟩ := id hm
    obtain ⟨w0, w1, w2, w3, w4, w5, w6, w7, w8, w9, w10, w11⟩ := hW.lits; have hw := hW.all
    simp (disch := omega) only [k0, p0, p1, p2, p3, p4, k1, n1, k2, n2, k3, n3, k4, n4, k5, n5, true_and, and_true, Option.some.injEq, exists_eq_left', am_wE, and_dr, imp_dr, imp_df, true_imp_iff, false_imp_iff, not_true_eq_false, not_false_eq_true, hw, w0, w1, w2, w3, w4, w5, w6, w7, w8, w9, w10, w11 , forall_eq, am_u2_o285]
    exact h4 _ ((hF.put (by omega)).put (by omega)) ((hA2.put (by omega)).put (by omega)) ((am_u2_o (by omega)).trans ((am_u2_o (by omega)).trans ht))
  · have h3 := h3 q q2 q3
    have h5 := h5 q q2 q3
    obtain ⟨k0, p0, p1, p2, p3, p4, k1, n1, k2, n2, k3, n3, k4, n4, k5, n5⟩ := id hm
    have w8 : I1 285 8 = W 8 := hW.lit 8 (by decide)
    simp (disch := omega) only [k0, p0, p1, p2, p3, p4, k1, n1, k2, n2, k3, n3, k4, n4, k5, n5, true_and, and_true, Option.some.injEq, exists_eq_left', am_wE, and_dr, imp_dr, imp_df, true_imp_iff, false_imp_iff, not_true_eq_false, not_false_eq_true, w8]
    refine ⟨fun c3 => sp_save hm hA ?_, fun c3 => sp_no hm hF hA (h3 c3)⟩
    have h5 := h5 c3
    clear w8
    intro I2 hF2 hA2 ht2; replace hF := hF.tr hF2; replace ht := ht2.trans ht; have hW := hA2.w; clear hF2 ht2
    refine ⟨hm.1, sp_placeOf hm hW hG.r8 ?_⟩
    simp only [am_iv]
    try simp only [eq_false q3, not_true_eq_false, not_false_eq_true, true_imp_iff, false_imp_iff, true_and, and_true]
    generalize v_place W x = k at *
    have key : ∀ (m : Nat) (j : Int) (I' : Nat → Nat → Int), k ≤ j → j = k + m → j ≤ W 8 → FM I I' → MA I' (v_ins W j) (v_svS S c W) (v_svc c) T n → I' 284 7 = 0 → L_X8_route_104 d 284 x l k (-1) j K N I' P z Q := by
      intro m
      induction m with
      | zero =>
        intro j I' j0 j1 j2 hF hA ht
        have hW := hA.w
        have e8 : v_ins W j 8 = W 8 := if_neg (by omega)
        refine wf_X8_route_104 ?_
        obtain ⟨k0, p0, p1, p2, p3, p4, k1, n1, k2, n2, k3, n3, k4, n4, k5, n5⟩ := id hm
        obtain ⟨w0, w1, w2, w3, w4, w5, w6, w7, w8, w9, w10, w11⟩ := hW.lits; have hw := hW.all
        simp (disch := omega) only [k0, p0, p1, p2, p3, p4, k1, n1, k2, n2, k3, n3, k4, n4, k5, n5, true_and, and_true, Option.some.injEq, exists_eq_left', am_wE, and_dr, imp_dr, imp_df, true_imp_iff, false_imp_iff, not_true_eq_false, not_false_eq_true, hw, w0, w1, w2, w3, w4, w5, w6, w7, w8, w9, w10, w11 , forall_eq, am_u2_o285]
        have hjk : j = k := by omega
        subst hjk
        refine h5 _ (((hF.put (by omega)).put (by omega)).put (by omega)) ?_ ((am_u2_o (by omega)).trans ((am_u2_o (by omega)).trans ((am_u2_o (by omega)).trans ht)))
        unfold v_rt
        refine MA.put (MA.put ?_ (by omega)) (by omega)
        have := hA.put (i := 8) (x := v_ins W j 8 + 1) (by omega)
        rw [e8] at this ⊢
        exact this
      | succ m ih =>
        intro j I' j0 j1 j2 hF hA ht
        have hW := hA.w
        refine wf_X8_route_104 ?_
        obtain ⟨k0, p0, p1, p2, p3, p4, k1, n1, k2, n2, k3, n3, k4, n4, k5, n5⟩ := id hm
        obtain ⟨w0, w1, w2, w3, w4, w5, w6, w7, w8, w9, w10, w11⟩ := hW.lits; have hw := hW.all
        simp (disch := omega) only [k0, p0, p1, p2, p3, p4, k1, n1, k2, n2, k3, n3, k4, n4, k5, n5, true_and, and_true, Option.some.injEq, exists_eq_left', am_wE, and_dr, imp_dr, imp_df, true_imp_iff, false_imp_iff, not_true_eq_false, not_false_eq_true, hw, w0, w1, w2, w3, w4, w5, w6, w7, w8, w9, w10, w11 , forall_eq, am_u2_o285]
        have ea : v_ins W j (46 + j - 1) = W (46 + j - 1) := if_neg (by omega)
        have eb : v_ins W j (76 + j - 1) = W (76 + j - 1) := if_neg (by omega)
        rw [ea, eb, show j + -1 = j - 1 by omega]
        refine ih (j - 1) _ (by omega) (by omega) (by omega) ((hF.put (by omega)).put (by omega)) (((hA.put (by omega)).put (by omega)).cg ?_) ((am_u2_o (by omega)).trans ((am_u2_o (by omega)).trans ht))
        intro i _ _
        unfold v_u v_ins
        by_cases c1 : i = 76 + j
        · rw [if_pos c1, if_pos (by omega), c1]
        rw [if_neg c1]
        by_cases c2 : i = 46 + j
        · rw [if_pos c2, if_pos (by omega), c2]
        rw [if_neg c2]
        by_cases c4 : (46 + j < i ∧ i ≤ 46 + W 8) ∨ (76 + j < i ∧ i ≤ 76 + W 8)
        · rw [if_pos c4, if_pos (by omega)]
        · rw [if_neg c4, if_neg (by omega)]
    obtain ⟨k0, p0, p1, p2, p3, p4, k1, n1, k2, n2, k3, n3, k4, n4, k5, n5⟩ := id hm
    obtain ⟨w0, w1, w2, w3, w4, w5, w6, w7, w8, w9, w10, w11⟩ := hW.lits; have hw := hW.all
    simp (disch := omega) only [k0, p0, p1, p2, p3, p4, k1, n1, k2, n2, k3, n3, k4, n4, k5, n5, true_and, and_true, Option.some.injEq, exists_eq_left', am_wE, and_dr, imp_dr, imp_df, true_imp_iff, false_imp_iff, not_true_eq_false, not_false_eq_true, hw, w0, w1, w2, w3, w4, w5, w6, w7, w8, w9, w10, w11 , forall_eq]
    refine key (W 8 - k).toNat (W 8) I2 (by omega) (by omega) (by omega) hF (hA2.cg ?_) ht
    intro i _ _
    exact (if_neg (by omega)).symm
end
