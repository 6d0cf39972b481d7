section
variable {d : Nat} {K N : Nat → Nat} {I I' : Nat → Nat → Int} {P P' : Nat → Nat → Option Nat} {z : Nat} {Q : am_V → am_T} {X : Nat → am_T} {W W' V W0 L0 : Int → Int} {S : Int → Int → Int} {c : Int} {T : Int → Int} {n : Int} {s s2 dr : Nat} {m m0 : Int} {L : Int → Int} {π π0 : Int → Nat}
theorem cx_part (hd : 7 ≤ d) (h : GI K N I P z W S c T n) {x y : Int} (h1 : ¬ (0 ≤ x ∧ x < W 9) → X 0 K N I P z) (h2 : 0 ≤ x ∧ x < W 9 → ¬ (0 ≤ y ∧ y ≤ 9) → X 1 K N I P z) (h3 : 0 ≤ x ∧ x < W 9 → 0 ≤ y ∧ y ≤ 9 → Q (am_i (v_pp W x y)) K N I P z) : am_C d m_X7_part [am_r 4, am_i x, am_i y] K N I P z Q X := by
  obtain ⟨σ, dr, hA, hB, hC, ⟨⟨⟨m, L, π, hS, hR⟩, hV, hRC⟩, d4, d5⟩⟩ := id h; obtain ⟨⟨a0, a1, a2, a3, a4, a5, a6⟩, ⟨b0, b1, b2, b3, b4, b5, b6, b7, b8, b9⟩, -⟩ := id hA; have hG := hV.1; have k20 := hS.k.1; have hm2 := hS.m2; have tm := hS.ob
  refine wf_X7_part (by omega) ⟨a0, cx_has h ?_⟩
  simp only [am_iv, ite_z]
  refine ⟨fun q => ⟨fun q2 => ?_, fun q2 => ⟨fun q3 => ⟨a0, ?_⟩, fun q3 => ?_⟩⟩, fun q => h1 q⟩
  · exact h2 (by simpa using q) (by omega)
  · simp only [Decidable.not_not] at q
    exact cx_pp (by omega) h q.1 q.2 (by omega) q3 (h3 q (by omega))
  · exact h2 (by simpa using q) (by omega)
theorem cx_lane (hd : 6 ≤ d) (h : GI K N I P z W S c T n) {x y : Int} (h1 : ¬ (0 ≤ x ∧ x < W 7) → X 0 K N I P z) (h2 : 0 ≤ x ∧ x < W 7 → (y < 0 ∨ 5 < y) → X 1 K N I P z)
    (h3 : 0 ≤ x ∧ x < W 7 → 0 ≤ y → y ≤ 4 → Q (am_i (W (16 + 6 * y + x))) K N I P z) (h4 : 0 ≤ x ∧ x < W 7 → y = 5 → Q (am_i (v_rts W x)) K N I P z) : am_C d m_X7_lane [am_r 4, am_i x, am_i y] K N I P z Q X := by
  obtain ⟨σ, dr, hA, hB, hC, ⟨⟨⟨m, L, π, hS, hR⟩, hV, hRC⟩, d4, d5⟩⟩ := id h; obtain ⟨⟨a0, a1, a2, a3, a4, a5, a6⟩, ⟨b0, b1, b2, b3, b4, b5, b6, b7, b8, b9⟩, -⟩ := id hA; have hG := hV.1; have k20 := hS.k.1; have hm2 := hS.m2; have tm := hS.ob
  have g7 := hG.l7
  have s12 := hS.k.2.2.2.2.2.2.2.2.2.2.2.2.1
  obtain ⟨t0, t1, t2, t3, t4, t5, t6⟩ := id hS.p
  refine wf_X7_lane (by omega) ⟨a0, 20, a1, k20, cs_hasLane k20 hS.c.2.1 ?_⟩
  simp only [am_iv, ite_z]
  refine ⟨fun q => ⟨fun q2 => ?_, fun q2 => ⟨fun q3 => ⟨fun q4 => ?_, fun q4 => ?_⟩, fun q3 => ?_⟩⟩, fun q => h1 q⟩
  · exact h2 (by simpa using q) (Or.inl q2)
  · simp only [Decidable.not_not] at q
    have kl : K (20 + 7 + x.toNat) = 0 := s12 _ (by omega) (by omega)
    have ce := hS.c.ln (i := x) (by omega) (by omega)
    have h3 := h3 q (by omega) (by omega)
    refine ⟨a0, 20, a1, k20, 22, t1, hS.k.2.2.2.1, by rw [hS.k.2.2.2.2.1]; omega, 20 + 7 + x.toNat, t6 _ (by omega) (by omega), kl, wf_X0_property ⟨fun e => ⟨kl, ?_⟩, fun e => ⟨kl, ?_⟩, fun e => ⟨kl, ?_⟩, fun e => ⟨kl, ?_⟩, fun e => ⟨kl, ?_⟩, fun e => absurd e (by omega)⟩⟩
    · subst e; rw [ce.1]; exact h3
    · subst e; rw [ce.2.1]; exact h3
    · subst e; rw [ce.2.2.1]; exact h3
    · subst e; rw [ce.2.2.2.1]; exact h3
    · subst e; rw [ce.2.2.2.2]; exact h3
  · simp only [Decidable.not_not] at q
    exact ⟨a0, 20, a1, k20, 23, t2, hS.k.2.2.2.2.2.1, cr_countTo (s := 20) hS.k hS.p hS.c hG.r8 (h4 q q4)⟩
  · exact h2 (by simpa using q) (Or.inr (by omega))
theorem cx_total (hd : 8 ≤ d) (h : GI K N I P z W S c T n) {y : Int} (h1 : ¬ (0 ≤ y ∧ y ≤ 14) → X 1 K N I P z) (h2 : 0 ≤ y ∧ y ≤ 14 → Q (am_i (v_tot W c n y)) K N I P z) : am_C d m_X7_total [am_r 4, am_i y] K N I P z Q X := by
  obtain ⟨σ, dr, hA, hB, hC, ⟨⟨⟨m, L, π, hS, hR⟩, hV, hRC⟩, d4, d5⟩⟩ := id h; obtain ⟨⟨a0, a1, a2, a3, a4, a5, a6⟩, ⟨b0, b1, b2, b3, b4, b5, b6, b7, b8, b9⟩, -⟩ := id hA; have hG := hV.1; have k20 := hS.k.1; have hm2 := hS.m2; have tm := hS.ob
  have g9 := hG.n9
  have ob := hS.b.ob (by omega)
  obtain ⟨c0, c1, c2, c3, c4, c5, c6, c7⟩ := id hS.c
  unfold v_tot at h2
  refine wf_X7_total (by omega) ⟨fun e => ⟨a0, 20, a1, k20, ?_⟩, fun e => ⟨a0, 20, a1, k20, ?_⟩, fun e => ⟨a0, 20, a1, k20, ?_⟩, fun e => ⟨a0, cx_fates (by omega) h ?_⟩, fun e => ⟨a0, cx_fates (by omega) h ?_⟩, fun e => ⟨a0, cx_fates (by omega) h ?_⟩, fun e => ⟨a0, 20, a1, k20, ?_⟩, fun e => ⟨a0, 20, a1, k20, 23, hS.p.2.2.1, hS.k.2.2.2.2.2.1, ?_⟩, fun e => ⟨a0, 20, a1, k20, ?_⟩, fun e => ⟨a0, cx_sum (by omega) h (by omega) (by omega) ?_⟩, fun e => ⟨a0, cx_sum (by omega) h (by omega) (by omega) ?_⟩, fun e => ⟨a0, cx_sum (by omega) h (by omega) (by omega) ?_⟩, fun e => ⟨a0, cx_sum (by omega) h (by omega) (by omega) ?_⟩, fun e => ⟨a0, ?_⟩, fun e => ⟨a0, 8, a5, b6, ?_⟩, fun e => h1 (by omega)⟩
  · subst e; rw [c6]; exact h2 (by omega)
  · subst e; rw [c5]; exact h2 (by omega)
  · subst e; rw [tm, ← ob]; exact h2 (by omega)
  · subst e; exact h2 (by omega)
  · subst e; exact h2 (by omega)
  · subst e; exact h2 (by omega)
  · subst e; rw [c1]; exact h2 (by omega)
  · subst e; rw [c3]; exact h2 (by omega)
  · subst e; rw [c7]; exact h2 (by omega)
  · subst e; exact h2 (by omega)
  · subst e; exact h2 (by omega)
  · subst e; exact h2 (by omega)
  · subst e; exact h2 (by omega)
  · subst e; rw [hC.1]; exact h2 (by omega)
  · subst e; rw [hC.2.2.1]; exact h2 (by omega)
theorem cx_lost (hd : 8 ≤ d) (h : GI K N I P z W S c T n) {x : Int} (h1 : ¬ (1 ≤ x ∧ x ≤ 6) → X 1 K N I P z) (h2 : 1 ≤ x ∧ x ≤ 6 → Q (am_i (v_fts W x x)) K N I P z) : am_C d m_X7_lost [am_r 4, am_i x] K N I P z Q X := by
  obtain ⟨σ, dr, hA, hB, hC, ⟨⟨⟨m, L, π, hS, hR⟩, hV, hRC⟩, d4, d5⟩⟩ := id h; obtain ⟨⟨a0, a1, a2, a3, a4, a5, a6⟩, ⟨b0, b1, b2, b3, b4, b5, b6, b7, b8, b9⟩, -⟩ := id hA; have hG := hV.1; have k20 := hS.k.1; have hm2 := hS.m2; have tm := hS.ob
  exact wf_X7_lost (by omega) ⟨fun q => h1 (by omega), fun q => ⟨fun q2 => ⟨a0, cx_fates (by omega) h (h2 (by omega))⟩, fun q2 => h1 (by omega)⟩⟩
theorem cx_setting (hd : 6 ≤ d) (h : GI K N I P z W S c T n) {x : Int} (h1 : ¬ (0 ≤ x ∧ x ≤ 5) → X 0 K N I P z) (h2 : 0 ≤ x ∧ x ≤ 5 → Q (am_i (W (1 + x))) K N I P z) : am_C d m_X7_setting [am_r 4, am_i x] K N I P z Q X := by
  obtain ⟨σ, dr, hA, hB, hC, ⟨⟨⟨m, L, π, hS, hR⟩, hV, hRC⟩, d4, d5⟩⟩ := id h; obtain ⟨⟨a0, a1, a2, a3, a4, a5, a6⟩, ⟨b0, b1, b2, b3, b4, b5, b6, b7, b8, b9⟩, -⟩ := id hA; have hG := hV.1; have k20 := hS.k.1; have hm2 := hS.m2; have tm := hS.ob
  refine wf_X7_setting (by omega) ⟨fun q => h1 (by omega), fun q => ⟨fun q2 => ⟨a0, 20, a1, k20, 21, hS.p.1, hS.k.2.1, by rw [hS.k.2.2.1]; omega, ?_⟩, fun q2 => h1 (by omega)⟩⟩
  rw [hS.c.st (by omega) q2]
  exact h2 (by omega)
theorem cx_routeAt (hd : 6 ≤ d) (h : GI K N I P z W S c T n) {x : Int} (h1 : x < 0 → X 1 K N I P z) (h2 : 0 ≤ x → W 8 ≤ x → Q (am_i (-1)) K N I P z) (h3 : 0 ≤ x → x < W 8 → Q (am_i (10 * W (46 + x) + W (76 + x))) K N I P z) : am_C d m_X7_routeAt [am_r 4, am_i x] K N I P z Q X := by
  obtain ⟨σ, dr, hA, hB, hC, ⟨⟨⟨m, L, π, hS, hR⟩, hV, hRC⟩, d4, d5⟩⟩ := id h; obtain ⟨⟨a0, a1, a2, a3, a4, a5, a6⟩, ⟨b0, b1, b2, b3, b4, b5, b6, b7, b8, b9⟩, -⟩ := id hA; have hG := hV.1; have k20 := hS.k.1; have hm2 := hS.m2; have tm := hS.ob
  have g8 := hG.r8
  have g7 := hG.l7
  obtain ⟨c0, c1, c2, c3, c4, c5, c6, c7⟩ := id hS.c
  refine wf_X7_routeAt (by omega) ⟨fun q => ⟨a0, 20, a1, k20, 23, hS.p.2.2.1, hS.k.2.2.2.2.2.1, wf_X3_codeAndLane ⟨fun q2 => absurd q (by omega), fun _ => ⟨hS.k.2.2.2.2.2.1, fun q3 => ?_, fun q3 => ⟨24, hS.p.2.2.2.2.1, hS.k.2.2.2.2.2.2.1, ?_, 25, hS.p.2.2.2.2.2.1, hS.k.2.2.2.2.2.2.2.2.1, ?_, ?_⟩⟩⟩⟩, fun q => h1 (by omega)⟩
  · rw [c3] at q3; exact h2 q q3
  · rw [c3] at q3; rw [hS.k.2.2.2.2.2.2.2.1]; omega
  · rw [c3] at q3; rw [hS.k.2.2.2.2.2.2.2.2.2.1]; omega
  · rw [c3] at q3
    have gk := hG.rt x q (by omega)
    rw [(c4 x q (by omega)).1, (c4 x q (by omega)).2, am_wE (x := 10 * W (46 + x)) (by omega) (by omega), am_wE (by omega) (by omega)]
    exact h3 q (by omega)
theorem cx_gapAhead (hd : 6 ≤ d) (h : GI K N I P z W S c T n) {x : Int} (h1 : ¬ (0 ≤ x ∧ x < W 9) → X 0 K N I P z) (h2 : 0 ≤ x ∧ x < W 9 → ¬ W (800 + x) = 0 → X 2 K N I P z)
    (h3 : 0 ≤ x ∧ x < W 9 → W (800 + x) = 0 → v_ah W x.toNat = -1 → Q (am_i (-1)) K N I P z) (h4 : 0 ≤ x ∧ x < W 9 → W (800 + x) = 0 → ¬ v_ah W x.toNat = -1 → Q (am_i (v_tl W (v_ah W x.toNat) - W (500 + x))) K N I P z) : am_C d m_X7_gapAhead [am_r 4, am_i x] K N I P z Q X := by
  obtain ⟨σ, dr, hA, hB, hC, ⟨⟨⟨m, L, π, hS, hR⟩, hV, hRC⟩, d4, d5⟩⟩ := id h; obtain ⟨⟨a0, a1, a2, a3, a4, a5, a6⟩, ⟨b0, b1, b2, b3, b4, b5, b6, b7, b8, b9⟩, -⟩ := id hA; have hG := hV.1; have k20 := hS.k.1; have hm2 := hS.m2; have tm := hS.ob
  refine wf_X7_gapAhead (by omega) ⟨a0, cx_has h ?_⟩
  simp only [am_iv, ite_z]
  refine ⟨fun q => ⟨a0, 20, a1, k20, cs_placeOf hS ?_ ?_⟩, fun q => h1 q⟩
  · intro j j0 j1 j2
    simp only [Decidable.not_not] at q
    have o := hS.b.on j0 j1
    have ah := hS.b.ah j0 j1
    rw [j2] at o ah
    refine ⟨fun _ => ⟨fun r => ⟨a0, 20, a1, k20, ?_⟩, fun r => ?_⟩, fun r => absurd r (by omega)⟩
    · have h4 := h4 q o.2.2
      rw [if_neg r] at ah
      have o2 := hS.b.on (j := j - 1) (by omega) (by omega)
      rw [ah] at h4
      rw [am_wE (by omega) (by omega)]
      refine cs_gap (by omega) hS hG (by omega) (by omega) j0 j1 ?_
      rw [j2]
      exact h4 (by omega)
    · rw [if_pos r] at ah
      exact h3 q o.2.2 ah
  · intro hno
    simp only [Decidable.not_not] at q
    refine ⟨fun r => absurd r (by decide), fun _ => h2 q (fun r => ?_)⟩
    obtain ⟨j, j0, j1, j2⟩ := hS.b.ex q.1 q.2 r
    exact hno j j0 j1 j2
/-- the first part on the belt of this rank, by places -/
theorem BL.rkd (h : BL W m L) (hG : v_G W) {r : Int} : ∀ (k : Nat) (p : Int), 0 ≤ p → p + k = W 9 → ∀ (j : Int), 0 ≤ j → j ≤ m → (∀ i, 0 ≤ i → i < j → L i < p) → (∀ i, j ≤ i → i < m → p ≤ L i) → (∀ i, j ≤ i → i < m → (∀ i', j ≤ i' → i' < i → ¬ v_cnt (v_rkf W (L i')) (W 9).toNat = r) → v_cnt (v_rkf W (L i)) (W 9).toNat = r → v_rkd W r k p = L i) ∧ ((∀ i, j ≤ i → i < m → ¬ v_cnt (v_rkf W (L i)) (W 9).toNat = r) → v_rkd W r k p = -1)
  | 0, p, p0, pk, j, j0, j1, h1, h2 => by
    refine ⟨fun i a b _ _ => ?_, fun _ => rfl⟩
    have := h2 i a b
    have := h.on (j := i) (by omega) b
    omega
  | k + 1, p, p0, pk, j, j0, j1, h1, h2 => by
    unfold v_rkd
    by_cases q : W (800 + p) = 0
    · obtain ⟨i, i0, i1, i2⟩ := h.ex p0 (by omega) q
      have hij : i = j := by
        rcases (show i < j ∨ i = j ∨ j < i by omega) with t | t | t
        · have := h1 i i0 t; omega
        · exact t
        · have := h.lt j0 t i1
          have := h2 j (Int.le_refl _) (by omega)
          omega
      subst hij
      have nx := BL.rkd h hG (r := r) k (p + 1) (by omega) (by omega) (i + 1) (by omega) (by omega) (fun i' a b => by
        rcases (show i' < i ∨ i' = i by omega) with t | t
        · have := h1 i' a t; omega
        · subst t; omega) (fun i' a b => by have := h.lt i0 (show i < i' by omega) b; omega)
      by_cases e : v_cnt (v_rkf W p) (W 9).toNat = r
      · rw [if_pos ⟨q, e⟩]
        refine ⟨fun i' a b c f => ?_, fun c => ?_⟩
        · rcases (show i' = i ∨ i < i' by omega) with t | t
          · subst t; exact i2.symm
          · exact (c i (Int.le_refl _) t (by rw [i2]; exact e)).elim
        · exact (c i (Int.le_refl _) i1 (by rw [i2]; exact e)).elim
      · rw [if_neg (fun t => e t.2)]
        refine ⟨fun i' a b c f => ?_, fun c => nx.2 (fun i' a b => c i' (by omega) b)⟩
        rcases (show i' = i ∨ i < i' by omega) with t | t
        · subst t; rw [i2] at f; exact (e f).elim
        · exact nx.1 i' (by omega) b (fun i'' x y => c i'' (by omega) y) f
    · rw [if_neg (fun t => q t.1)]
      refine BL.rkd h hG k (p + 1) (by omega) (by omega) j j0 j1 (fun i a b => by have := h1 i a b; omega) (fun i a b => ?_)
      have := h2 i a b
      have o := h.on (j := i) (by omega) b
      rcases (show L i = p ∨ p < L i by omega) with t | t
      · rw [t] at o; exact (q o.2.2).elim
      · omega
theorem cx_ranked (hd : 6 ≤ d) (h : GI K N I P z W S c T n) {r : Int} (h1 : r < 0 → X 1 K N I P z) (h2 : 0 ≤ r → ∀ I' P', GF I I' → GP P P' → GI K N I' P' z W S c T n → Q (am_i (v_rkd W r (W 9).toNat 0)) K N I' P' z) : am_C d m_X7_ranked [am_r 4, am_i r] K N I P z Q X := by
  obtain ⟨σ, dr, hA, hB, hC, ⟨⟨⟨m, L, π, hS, hR⟩, hV, hRC⟩, d4, d5⟩⟩ := id h; obtain ⟨⟨a0, a1, a2, a3, a4, a5, a6⟩, ⟨b0, b1, b2, b3, b4, b5, b6, b7, b8, b9⟩, -⟩ := id hA; have hG := hV.1; have k20 := hS.k.1; have hm2 := hS.m2; have tm := hS.ob
  have g9 := hG.n9
  refine wf_X7_ranked (by omega) ⟨fun q => ⟨a0, 20, a1, k20, cs_aim (by omega) (by omega) hS hR hG ?_⟩, fun q => h1 (by omega)⟩
  intro I2 f1 hS2 hA2 f3
  have h2 := h2 q I2 P (fun a ha => f1.1 a (by omega)) GP.rf (h.now (fun a ha hb => f1.1 a (by omega)) (fun _ _ => rfl) ⟨m, L, π, hS2⟩ (fun a x y => by rw [(f1.2 a x y).1, (f1.2 a x y).2]; exact (hB 20 sN.now).2.2.1 a x y) (fun _ _ _ => rfl) hV Sub.rf (fun p k x1 x2 x3 x4 x5 => by rw [f1.1 7 (by omega)]; exact hRC p k x1 x2 x3 x4 x5))
  have rk := hS.b.rkd hG (r := r) (W 9).toNat 0 (Int.le_refl _) (by omega) 0 (Int.le_refl _) hm2.1 (fun i a b => absurd b (by omega)) (fun i a b => (hS.b.on a b).1)
  have tm2 := hS2.ob
  have t3 : P 20 5 = some 26 := hS.p.2.2.2.1
  have s10 : K 26 = 12 := hS.k.2.2.2.2.2.2.2.2.2.2.1
  have s11 : N 26 = 20 := hS.k.2.2.2.2.2.2.2.2.2.2.2.1
  have key : ∀ (k : Nat) (j : Int), 0 ≤ j → j + k = m → (∀ i, 0 ≤ i → i < j → ¬ v_cnt (v_rkf W (L i)) (W 9).toNat = r) → L_X7_ranked_23 d 4 r j K N I2 P z Q X := by
    intro k
    induction k with
    | zero =>
      intro j j0 j1 hp
      refine wf_X7_ranked_23 (by omega) ⟨a0, 20, a1, k20, fun _ => ?_, fun t => absurd tm2 (by omega)⟩
      rw [rk.2 (fun i a b => hp i a (by omega))] at h2
      exact h2
    | succ k ih =>
      intro j j0 j1 hp
      refine wf_X7_ranked_23 (by omega) ⟨a0, 20, a1, k20, fun t => absurd tm2 (by omega), fun _ => cs_rank (by omega) hS2 hA2 hG j0 (by omega) ?_⟩
      simp only [am_iv]
      rw [← hS.b.rank hG j0 (show j < m by omega), am_wE (x := j + 1) (by omega) (by omega)]
      refine ⟨fun t => ih (j + 1) (by omega) (by omega) (fun i a b => ?_), fun t => ⟨a0, 20, a1, k20, 26, t3, s10, by omega, π j, hS.i.pl j0 (by omega), hS.kp j0 (by omega), ?_⟩⟩
      · rcases (show i < j ∨ i = j by omega) with u | u
        · exact hp i a u
        · subst u; exact t
      · rw [(hS2.t j j0 (by omega)).1]
        rw [rk.1 j j0 (by omega) hp t] at h2
        exact h2
  exact key m.toNat 0 (Int.le_refl _) (by omega) (fun i a b => absurd b (by omega))
theorem cx_share (hd : 8 ≤ d) (h : GI K N I P z W S c T n) (hq : Q (am_d (v_sh W)) K N I P z) : am_C d m_X7_share [am_r 4] K N I P z Q am_nx := by
  obtain ⟨σ, dr, hA, hB, hC, ⟨⟨⟨m, L, π, hS, hR⟩, hV, hRC⟩, d4, d5⟩⟩ := id h; obtain ⟨⟨a0, a1, a2, a3, a4, a5, a6⟩, ⟨b0, b1, b2, b3, b4, b5, b6, b7, b8, b9⟩, -⟩ := id hA; have hG := hV.1; have k20 := hS.k.1; have hm2 := hS.m2; have tm := hS.ob
  have g9 := hG.n9
  have ob := hS.b.ob (by omega)
  have bo := v_cnt_bd (v_on W) (W 9).toNat
  have bf := v_cnt_bd (fun p => decide (10 ≤ W (800 + p) ∧ W (800 + p) ≤ 15)) (W 9).toNat
  have e7 : I 20 7 = W 9 := hS.c.2.2.2.2.2.1
  unfold v_sh at hq
  rw [ob] at hq
  have mle : m ≤ W 9 := by rw [← ob]; show v_cnt (v_on W) (W 9).toNat ≤ W 9; omega
  refine wf_X7_share (by omega) ⟨a0, 20, a1, k20, ?_⟩
  rw [e7, tm, am_wE (by omega) (by omega)]
  refine ⟨fun r => cx_fates (by omega) h ?_, fun r => ?_⟩
  · rw [if_neg (by omega)] at hq
    simp only [v_fts] at hq
    simp only [am_iv, v_fts]
    exact ⟨v_ddn (by omega) (by omega) (by omega) (by omega), hq⟩
  · rw [if_pos (by omega)] at hq
    exact hq
theorem cx_laneFor (hd : 6 ≤ d) (h : GI K N I P z W S c T n) {x y : Int} (h1 : ¬ ((0 ≤ x ∧ x ≤ 999) ∧ (10 ≤ y ∧ y ≤ 400)) → X 1 K N I P z) (h2 : (0 ≤ x ∧ x ≤ 999) ∧ (10 ≤ y ∧ y ≤ 400) → Q (am_i (v_lby W x y)) K N I P z) : am_C d m_X7_laneFor [am_r 4, am_i x, am_i y] K N I P z Q X := by
  obtain ⟨σ, dr, hA, hB, hC, ⟨⟨⟨m, L, π, hS, hR⟩, hV, hRC⟩, d4, d5⟩⟩ := id h; obtain ⟨⟨a0, a1, a2, a3, a4, a5, a6⟩, ⟨b0, b1, b2, b3, b4, b5, b6, b7, b8, b9⟩, -⟩ := id hA; have hG := hV.1; have k20 := hS.k.1; have hm2 := hS.m2; have tm := hS.ob
  exact wf_X7_laneFor (by omega) ⟨fun q => h1 (by omega), fun q => ⟨fun q2 => ⟨fun q3 => h1 (by omega), fun q3 => ⟨fun q4 => ⟨a0, 20, a1, k20, cs_laneGiven (by omega) hS.k hS.p hS.c hR hG (by omega) (by omega) (h2 (by omega))⟩, fun q4 => h1 (by omega)⟩⟩, fun q2 => h1 (by omega)⟩⟩
end
