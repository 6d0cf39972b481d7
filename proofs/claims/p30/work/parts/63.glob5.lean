section
variable {d : Nat} {K N : Nat → Nat} {I I' : Nat → Nat → Int} {P P' : Nat → Nat → Option Nat} {z : Nat} {Q : am_V → am_T} {X : Nat → am_T} {W W' V W0 L0 : Int → Int} {S : Int → Int → Int} {c : Int} {T : Int → Int} {n : Int} {s s2 dr : Nat} {m m0 : Int} {L : Int → Int} {π π0 : Int → Nat}
theorem cx_has (h : GI K N I P z W S c T n) {x : Int} (hq : Q (am_i (if 0 ≤ x ∧ x < W 9 then 1 else 0)) K N I P z) : am_C d m_X7_hasEntered [am_r 4, am_i x] K N I P z Q am_nx := by
  obtain ⟨σ, dr, hA, hB, hC, ⟨⟨⟨m, L, π, hS, hR⟩, hV, hRC⟩, d4, d5⟩⟩ := id h; obtain ⟨⟨a0, a1, a2, a3, a4, a5, a6⟩, ⟨b0, b1, b2, b3, b4, b5, b6, b7, b8, b9⟩, -⟩ := id hA; have hG := hV.1; have k20 := hS.k.1; have hm2 := hS.m2; have tm := hS.ob
  have e7 : I 20 7 = W 9 := hS.c.2.2.2.2.2.1
  refine wf_X7_hasEntered ⟨fun q => ?_, fun q => ⟨a0, 20, a1, k20, ?_⟩⟩
  · rw [if_neg (by omega)] at hq; exact hq
  · rw [e7]
    refine ⟨fun r => ?_, fun r => ?_⟩
    · rw [if_neg (by omega)] at hq; exact hq
    · rw [if_pos (by omega)] at hq; exact hq
theorem cp_prop {b : Nat} {p k : Int} (hk : K b = 2) (hp : PC I b W p) (h5 : W (1400 + p) = 0 ∨ W (1400 + p) = 1) (h6 : W (1700 + p) = 0 ∨ W (1700 + p) = 1) (k0 : 0 ≤ k) (k1 : k < 10) (h : Q (am_i (if k = 8 then -1 else v_pp W p k)) K N I P z) : am_C d m_X2_property [am_r b, am_i k] K N I P z Q am_nx := by
  obtain ⟨e0, e1, e2, e3, e4, e5, e6, e7, e8, e9, e10⟩ := hp
  refine wf_X2_property ⟨fun q => ⟨hk, ?_⟩, fun q => ⟨hk, ?_⟩, fun q => ⟨hk, ?_⟩, fun q => ⟨hk, ?_⟩, fun q => ⟨hk, fun r => ?_, fun r => ?_⟩, fun q => ⟨hk, fun r => ?_, fun r => ?_⟩, fun q => ⟨hk, ?_⟩, fun q => ⟨hk, ?_⟩, fun q => ?_, fun q => ⟨hk, ?_⟩, fun q => absurd q (by omega)⟩
  · subst q; rw [e1]; exact h
  · subst q; rw [e3]; exact h
  · subst q; rw [e2]; exact h
  · subst q; rw [e4]; exact h
  · subst q
    have e : v_pp W p 4 = W (1400 + p) := rfl
    rw [e5] at r
    rw [if_neg (by decide), e, r] at h; exact h
  · subst q
    have e : v_pp W p 4 = W (1400 + p) := rfl
    rw [e5] at r
    rw [if_neg (by decide), e, show W (1400 + p) = 1 by omega] at h; exact h
  · subst q
    have e : v_pp W p 5 = W (1700 + p) := rfl
    rw [e6] at r
    rw [if_neg (by decide), e, r] at h; exact h
  · subst q
    have e : v_pp W p 5 = W (1700 + p) := rfl
    rw [e6] at r
    rw [if_neg (by decide), e, show W (1700 + p) = 1 by omega] at h; exact h
  · subst q; rw [e7]; exact h
  · subst q; rw [e8]; exact h
  · subst q; exact h
  · subst q; rw [e9]; exact h
theorem cx_pp (hd : 6 ≤ d) (h : GI K N I P z W S c T n) {x y : Int} (x0 : 0 ≤ x) (x1 : x < W 9) (y0 : 0 ≤ y) (y1 : y < 10) (hq : Q (am_i (v_pp W x y)) K N I P z) : am_C d m_X7_partProperty [am_r 4, am_i x, am_i y] K N I P z Q am_nx := by
  obtain ⟨σ, dr, hA, hB, hC, ⟨⟨⟨m, L, π, hS, hR⟩, hV, hRC⟩, d4, d5⟩⟩ := id h; obtain ⟨⟨a0, a1, a2, a3, a4, a5, a6⟩, ⟨b0, b1, b2, b3, b4, b5, b6, b7, b8, b9⟩, -⟩ := id hA; have hG := hV.1; have k20 := hS.k.1; have hm2 := hS.m2; have tm := hS.ob
  have g9 := hG.n9
  have gp := hG.pt x x0 x1
  obtain ⟨t0, t1, t2, t3, t4, t5, t6⟩ := id hS.p
  have s10 : K 26 = 12 := hS.k.2.2.2.2.2.2.2.2.2.2.1
  have s11 : N 26 = 20 := hS.k.2.2.2.2.2.2.2.2.2.2.2.1
  refine wf_X7_partProperty (by omega) ⟨a0, 20, a1, k20, cs_placeOf hS ?_ ?_⟩
  · intro j j0 j1 j2
    have o := hS.b.on j0 j1
    rw [j2] at o
    have hp := hS.t j j0 j1
    rw [j2] at hp
    refine ⟨fun _ => ⟨fun q => ⟨a0, 20, a1, k20, 26, t3, s10, by omega, π j, hS.i.pl j0 (by omega), hS.kp j0 (by omega), cp_prop (hS.kp j0 (by omega)) hp gp.2.2.2.1 gp.2.2.2.2.1 y0 y1 ?_⟩, fun q => ⟨a0, 20, a1, k20, 26, t3, s10, by omega, π j, hS.i.pl j0 (by omega), cs_laneOf (by omega) hS.k hS.p hS.c hR hG (hS.kp j0 (by omega)) hp x0 x1 ?_⟩⟩, fun q => absurd q (by omega)⟩
    · rw [if_neg q]; exact hq
    · subst q
      have e : v_pp W x 8 = if W (800 + x) = 0 then v_lo W x else -1 := rfl
      rw [e, if_pos o.2.2] at hq
      exact hq
  · intro hno
    have off : ¬ W (800 + x) = 0 := by
      intro q
      obtain ⟨j, j0, j1, j2⟩ := hS.b.ex x0 x1 q
      exact hno j j0 j1 j2
    refine ⟨fun q => absurd q (by decide), fun _ => ⟨a0, 6, a4, b2, ?_⟩⟩
    have e := hRC x y x0 x1 off y0 y1
    refine wf_X1_propertyOf ⟨fun q => absurd x0 (by omega), fun _ => ⟨fun q => absurd q (by omega), fun _ => ⟨fun q => absurd y0 (by omega), fun _ => ⟨fun _ => ⟨b2, 7, b3, b4, ?_, ?_⟩, fun q => absurd y1 q⟩⟩⟩⟩
    · rw [am_wE (x := x * 10) (by omega) (by omega), am_wE (by omega) (by omega)]; omega
    · rw [am_wE (x := x * 10) (by omega) (by omega), am_wE (by omega) (by omega), show x * 10 + y = 10 * x + y by omega, e]
      exact hq
theorem cx_fates (hd : 7 ≤ d) (h : GI K N I P z W S c T n) {a b : Int} (hq : Q (am_i (v_fts W a b)) K N I P z) : am_C d m_X7_countFates [am_r 4, am_i a, am_i b] K N I P z Q am_nx := by
  have h0 := h
  obtain ⟨σ, dr, hA, hB, hC, ⟨⟨⟨m, L, π, hS, hR⟩, hV, hRC⟩, d4, d5⟩⟩ := id h; obtain ⟨⟨a0, a1, a2, a3, a4, a5, a6⟩, ⟨b0, b1, b2, b3, b4, b5, b6, b7, b8, b9⟩, -⟩ := id hA; have hG := hV.1; have k20 := hS.k.1; have hm2 := hS.m2; have tm := hS.ob
  have g9 := hG.n9
  have e7 : I 20 7 = W 9 := hS.c.2.2.2.2.2.1
  refine wf_X7_countFates ?_
  have key : ∀ (k j : Nat), (j : Int) + k = W 9 → L_X7_countFates_5 d 4 a b (v_cnt (fun p => decide (a ≤ W (800 + p) ∧ W (800 + p) ≤ b)) j) j K N I P z Q := by
    intro k
    induction k with
    | zero =>
      intro j hj
      refine wf_X7_countFates_5 (by omega) ⟨a0, 20, a1, k20, ?_⟩
      rw [e7]
      refine ⟨fun _ => ?_, fun q => absurd hj (by omega)⟩
      rw [show j = (W 9).toNat by omega]; exact hq
    | succ k ih =>
      intro j hj
      have ih2 := ih (j + 1) (by omega)
      have bd := v_cnt_bd (fun p => decide (a ≤ W (800 + p) ∧ W (800 + p) ≤ b)) j
      rw [v_cnt] at ih2
      generalize v_cnt (fun p => decide (a ≤ W (800 + p) ∧ W (800 + p) ≤ b)) j = e at *
      simp only [decide_eq_true_eq, Int.natCast_add, Int.cast_ofNat_Int] at ih2
      refine wf_X7_countFates_5 (by omega) ⟨a0, 20, a1, k20, ?_⟩
      rw [e7]
      refine ⟨fun q => absurd hj (by omega), fun _ => cx_pp (by omega) h0 (by omega) (by omega) (by omega) (by omega) ?_⟩
      have ev : v_pp W (j : Int) 1 = W (800 + (j : Int)) := rfl
      simp only [am_iv]
      rw [ev, am_wE (x := (j : Int) + 1) (by omega) (by omega), am_wE (x := e + 1) (by omega) (by omega)]
      refine ⟨fun q => ?_, fun q => ⟨fun q2 => ?_, fun q2 => ?_⟩⟩
      · rw [if_neg (by omega), show e + 0 = e by omega] at ih2; exact ih2
      · rw [if_neg (by omega), show e + 0 = e by omega] at ih2; exact ih2
      · rw [if_pos (by omega)] at ih2; exact ih2
  exact key (W 9).toNat 0 (by omega)
theorem cx_sum (hd : 7 ≤ d) (h : GI K N I P z W S c T n) {y : Int} (y0 : 0 ≤ y) (y1 : y < 10) (hq : Q (am_i (v_sum (fun p => v_pp W p y) (W 9).toNat)) K N I P z) : am_C d m_X7_sumOverParts [am_r 4, am_i y] K N I P z Q am_nx := by
  have h0 := h
  obtain ⟨σ, dr, hA, hB, hC, ⟨⟨⟨m, L, π, hS, hR⟩, hV, hRC⟩, d4, d5⟩⟩ := id h; obtain ⟨⟨a0, a1, a2, a3, a4, a5, a6⟩, ⟨b0, b1, b2, b3, b4, b5, b6, b7, b8, b9⟩, -⟩ := id hA; have hG := hV.1; have k20 := hS.k.1; have hm2 := hS.m2; have tm := hS.ob
  have g9 := hG.n9
  have e7 : I 20 7 = W 9 := hS.c.2.2.2.2.2.1
  refine wf_X7_sumOverParts ?_
  have key : ∀ (k j : Nat), (j : Int) + k = W 9 → L_X7_sumOverParts_4 d 4 y (v_sum (fun p => v_pp W p y) j) j K N I P z Q := by
    intro k
    induction k with
    | zero =>
      intro j hj
      refine wf_X7_sumOverParts_4 (by omega) ⟨a0, 20, a1, k20, ?_⟩
      rw [e7]
      refine ⟨fun _ => ?_, fun q => absurd hj (by omega)⟩
      rw [show j = (W 9).toNat by omega]; exact hq
    | succ k ih =>
      intro j hj
      have ih2 := ih (j + 1) (by omega)
      rw [v_sum] at ih2
      refine wf_X7_sumOverParts_4 (by omega) ⟨a0, 20, a1, k20, ?_⟩
      rw [e7]
      refine ⟨fun q => absurd hj (by omega), fun _ => cx_pp (by omega) h0 (by omega) (by omega) y0 y1 ?_⟩
      simp only [am_iv]
      rw [am_wE (x := (j : Int) + 1) (by omega) (by omega)]
      exact ih2
  exact key (W 9).toNat 0 (by omega)
/-- the records of those who have left -/
theorem ck_keep {b : Nat} {p : Int} (hd : 1 ≤ d) (k6 : K 6 = 1) (p6 : P 6 0 = some 7) (k7 : K 7 = 10) (n7 : N 7 = 3000) (hk : K b = 2) (nb : ¬ b = 7) (p0 : 0 ≤ p) (p1 : p < 300) (hp : PC I b W p) (h5 : W (1400 + p) = 0 ∨ W (1400 + p) = 1) (h6 : W (1700 + p) = 0 ∨ W (1700 + p) = 1) (h8 : ¬ W (800 + p) = 0)
    (h : ∀ I', (∀ a, ¬ a = 7 → I' a = I a) → (∀ k : Int, 0 ≤ k → k < 10 → I' 7 (10 * p + k).toNat = v_pp W p k) → (∀ i : Int, 0 ≤ i → ¬ (10 * p ≤ i ∧ i < 10 * p + 10) → I' 7 i.toNat = I 7 i.toNat) → Q am_nl K N I' P z) : am_C d m_X1_keep [am_r 6, am_r b] K N I P z Q am_nx := by
  have key : ∀ (q : Nat) (j : Int) (I' : Nat → Nat → Int), 0 ≤ j → j + q = 10 → (∀ a, ¬ a = 7 → I' a = I a) → (∀ k : Int, 0 ≤ k → k < j → I' 7 (10 * p + k).toNat = v_pp W p k) → (∀ i : Int, 0 ≤ i → ¬ (10 * p ≤ i ∧ i < 10 * p + 10) → I' 7 i.toNat = I 7 i.toNat) → L_X1_keep_28 d 6 b (10 * p) j K N I' P z Q := by
    intro q
    induction q with
    | zero =>
      intro j I' j0 j1 f0 f1 f2
      refine wf_X1_keep_28 hd ⟨fun _ => h I' f0 (fun k a c => f1 k a (by omega)) f2, fun r => absurd r (by omega)⟩
    | succ q ih =>
      intro j I' j0 j1 f0 f1 f2
      have hp' : PC I' b W p := hp.cg (fun k _ => by rw [f0 b nb]) ⟨rfl, rfl, rfl, rfl, rfl, rfl, rfl, rfl, rfl, rfl⟩
      refine wf_X1_keep_28 hd ⟨fun r => absurd r (by omega), fun _ => ⟨k6, 7, p6, hk, cp_prop hk hp' h5 h6 j0 (by omega) ⟨k7, ?_, ?_⟩⟩⟩
      · rw [am_wE (by omega) (by omega)]; omega
      rintro I11 rfl
      rw [am_wE (by omega) (by omega), am_wE (by omega) (by omega)]
      refine ih (j + 1) _ (by omega) (by omega) (fun a ha => by rw [am_u2_ne ha]; exact f0 a ha) (fun k a c => ?_) (fun i a c => ?_)
      · by_cases e : k = j
        · subst e
          rw [am_u2_s]
          by_cases e8 : k = 8
          · subst e8
            have ev : v_pp W p 8 = if W (800 + p) = 0 then v_lo W p else -1 := rfl
            rw [if_pos rfl, ev, if_neg h8]
          · rw [if_neg e8]
        · rw [am_u2_o (by omega)]; exact f1 k a (by omega)
      · rw [am_u2_o (by omega)]; exact f2 i a c
  refine wf_X1_keep ⟨hk, ?_⟩
  rw [hp.1]
  refine ⟨fun r => absurd p0 (by omega), fun _ => ⟨fun _ => ?_, fun r => absurd p1 r⟩⟩
  rw [am_wE (by omega) (by omega), show p * 10 = 10 * p by omega]
  exact key 10 0 I (by omega) (by omega) (fun _ _ => rfl) (fun k a c => absurd c (by omega)) (fun _ _ _ => rfl)
theorem cx_keep (hd : 2 ≤ d) (k4 : K 4 = 7) (p40 : P 4 0 = some 20) (p44 : P 4 4 = some 6) (k6 : K 6 = 1) (p6 : P 6 0 = some 7) (k7 : K 7 = 10) (n7 : N 7 = 3000) (hS : ST K N I P 20 W m L π) (hG : v_G W) (hD : DP I W m m0 L π W0 L0 π0)
    (h : ∀ I', (∀ a, ¬ a = 7 → I' a = I a) → (∀ j, m ≤ j → j < m0 → ∀ k : Int, 0 ≤ k → k < 10 → I' 7 (10 * L j + k).toNat = v_pp W (L j) k) → (∀ i : Int, 0 ≤ i → (∀ j, m ≤ j → j < m0 → ¬ (10 * L j ≤ i ∧ i < 10 * L j + 10)) → I' 7 i.toNat = I 7 i.toNat) → Q am_nl K N I' P z) : am_C d m_X7_keepDeparted [am_r 4, am_i m0] K N I P z Q am_nx := by
  obtain ⟨d1, d2, d3, d4⟩ := hD
  have tm := hS.ob
  have hm := hS.m2
  have g9 := hG.n9
  have t3 : P 20 5 = some 26 := hS.p.2.2.2.1
  have k20 := hS.k.1
  have s10 : K 26 = 12 := hS.k.2.2.2.2.2.2.2.2.2.2.1
  have s11 : N 26 = 20 := hS.k.2.2.2.2.2.2.2.2.2.2.2.1
  have key : ∀ (q : Nat) (j : Int) (I' : Nat → Nat → Int), m ≤ j → j + q = m0 → (∀ a, ¬ a = 7 → I' a = I a) → (∀ i, m ≤ i → i < j → ∀ k : Int, 0 ≤ k → k < 10 → I' 7 (10 * L i + k).toNat = v_pp W (L i) k) → (∀ i : Int, 0 ≤ i → (∀ k, m ≤ k → k < j → ¬ (10 * L k ≤ i ∧ i < 10 * L k + 10)) → I' 7 i.toNat = I 7 i.toNat) → L_X7_keepDeparted_8 d 4 m0 j K N I' P z Q := by
    intro q
    induction q with
    | zero =>
      intro j I' j0 j1 f0 f1 f2
      have hj : j = m0 := by omega
      subst hj
      exact wf_X7_keepDeparted_8 (by omega) ⟨fun _ => h I' f0 f1 f2, fun r => absurd (Int.le_refl _) r⟩
    | succ q ih =>
      intro j I' j0 j1 f0 f1 f2
      obtain ⟨e1, e2, e3, e4⟩ := d3 j j0 (by omega)
      have gp := hG.pt _ e2.1 e2.2
      have bj := hS.i.bd (j := j) (by omega) (by omega)
      have kp := hS.kp (j := j) (by omega) (by omega)
      have hp' : PC I' (π j) W (L j) := e1.cg (fun k _ => by rw [f0 _ (by omega)]) ⟨rfl, rfl, rfl, rfl, rfl, rfl, rfl, rfl, rfl, rfl⟩
      refine wf_X7_keepDeparted_8 (by omega) ⟨fun r => absurd r (by omega), fun _ => ⟨fun r => absurd r (by omega), fun _ => ⟨k4, 6, p44, 20, p40, k20, 26, t3, s10, by omega, π j, hS.i.pl (by omega) (by omega), k6, ck_keep (by omega) k6 p6 k7 n7 kp (by omega) e2.1 (by omega) hp' gp.2.2.2.1 gp.2.2.2.2.1 e3 ?_⟩⟩⟩
      intro I2 g0 g1 g2
      rw [am_wE (by omega) (by omega)]
      refine ih (j + 1) I2 (by omega) (by omega) (fun a ha => (g0 a ha).trans (f0 a ha)) (fun i a b k k0 k1 => ?_) (fun i a b => ?_)
      · by_cases e : L i = L j
        · rw [e]; exact g1 k k0 k1
        · have o : 0 ≤ L i := (d3 i a (by omega)).2.1.1
          rw [g2 _ (by omega) (by omega)]
          rcases (show i < j ∨ i = j by omega) with r | r
          · exact f1 i a r k k0 k1
          · subst r; exact (e rfl).elim
      · rw [g2 i a (b j j0 (by omega))]
        exact f2 i a (fun k x y => b k x (by omega))
  refine wf_X7_keepDeparted ⟨k4, 20, p40, k20, ?_⟩
  rw [tm]
  exact key (m0 - m).toNat m I (Int.le_refl _) (by omega) (fun _ _ => rfl) (fun i a b => absurd b (by omega)) (fun _ _ _ => rfl)
/-- the records after a call in which parts may have left -/
theorem RC.mv (hR : RC I W0) (hB0 : BL W0 m0 L0) (hB : BL W m L) (hsub : Sub W0 W) (h9 : W 9 = W0 9) (hD : DP I' W m m0 L π W0 L0 π0) (h1 : ∀ j, m ≤ j → j < m0 → ∀ k : Int, 0 ≤ k → k < 10 → I' 7 (10 * L j + k).toNat = v_pp W (L j) k) (h2 : ∀ i : Int, 0 ≤ i → (∀ j, m ≤ j → j < m0 → ¬ (10 * L j ≤ i ∧ i < 10 * L j + 10)) → I' 7 i.toNat = I 7 i.toNat) : RC I' W := by
  obtain ⟨d1, d2, d3, d4⟩ := hD
  intro p k p0 p1 p2 k0 k1
  by_cases q : ∃ j, m ≤ j ∧ j < m0 ∧ L j = p
  · obtain ⟨j, j0, j1, j2⟩ := q
    rw [← j2]; exact h1 j j0 j1 k k0 k1
  · have nq : ∀ j, m ≤ j → j < m0 → ¬ L j = p := fun j a b e => q ⟨j, a, b, e⟩
    rw [h2 _ (by omega) (fun j a b => by have := nq j a b; omega)]
    have off : ¬ W0 (800 + p) = 0 := by
      intro r
      obtain ⟨i, i0, i1, i2⟩ := hB0.ex p0 (by omega) r
      obtain ⟨j, j0, j1, j2, _⟩ := d4 i i0 i1
      rcases (show j < m ∨ m ≤ j by omega) with t | t
      · have := (hB.on j0 t).2.2
        rw [j2, i2] at this
        exact p2 this
      · exact nq j t j1 (by rw [j2, i2])
    obtain ⟨s1, s2⟩ := hsub p p0 (by omega) off
    rw [hR p k p0 (by omega) off k0 k1]
    exact (v_pp_sub s2 off).symm
end
