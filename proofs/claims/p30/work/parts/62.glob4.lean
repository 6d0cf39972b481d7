section
variable {d : Nat} {K N : Nat → Nat} {I I' : Nat → Nat → Int} {P P' : Nat → Nat → Option Nat} {z : Nat} {Q : am_V → am_T} {X : Nat → am_T} {W W' V : Int → Int} {S : Int → Int → Int} {c : Int} {T : Int → Int} {n : Int} {s s2 dr : Nat}
theorem cl_begin {b : Nat} {x y u : Int} (kb : K b = 0) (h : ∀ I', (∀ a, ¬ a = b → I' a = I a) → (I' b 0 = x ∧ I' b 1 = y ∧ I' b 2 = u ∧ I' b 3 = 0 ∧ I' b 4 = 0) → Q am_nl K N I' P z) : am_C d m_X0_begin [am_r b, am_i x, am_i y, am_i u] K N I P z Q am_nx := by
  refine wf_X0_begin ⟨kb, ?_⟩
  rintro I2 rfl I3 rfl I4 rfl I5 rfl I6 rfl
  refine h _ (fun a ha => by rw [am_u2_ne ha, am_u2_ne ha, am_u2_ne ha, am_u2_ne ha, am_u2_ne ha]) ?_
  refine ⟨?_, ?_, ?_, ?_, ?_⟩ <;> simp (disch := omega) only [am_u2_o, am_u2_s]
theorem cx_addLane (hd : 6 ≤ d) (h : GI K N I P z W S c T n) {x y u : Int} (h1 : ¬ ((1 ≤ x ∧ x ≤ 4999) ∧ (1 ≤ y ∧ y ≤ 200) ∧ (1 ≤ u ∧ u ≤ 50)) → X 1 K N I P z)
    (h2 : (1 ≤ x ∧ x ≤ 4999) ∧ (1 ≤ y ∧ y ≤ 200) ∧ (1 ≤ u ∧ u ≤ 50) → W 7 = 6 → X 2 K N I P z)
    (h3 : (1 ≤ x ∧ x ≤ 4999) ∧ (1 ≤ y ∧ y ≤ 200) ∧ (1 ≤ u ∧ u ≤ 50) → ¬ W 7 = 6 → ∀ I' P', GF I I' → GP P P' → GI K N I' P' z (v_u (v_u (v_u (v_u W (16 + W 7) x) (22 + W 7) y) (28 + W 7) u) 7 (W 7 + 1)) (v_svS S c W) (v_svc c) T n → Q (am_i (W 7)) K N I' P' z) : am_C d m_X7_addLane [am_r 4, am_i x, am_i y, am_i u] K N I P z Q X := by
  obtain ⟨σ, dr, hA, hB, hC, ⟨⟨⟨m, L, π, hS, hR⟩, hV, hRC⟩, d4, d5⟩⟩ := id h; obtain ⟨⟨a0, a1, a2, a3, a4, a5, a6⟩, ⟨b0, b1, b2, b3, b4, b5, b6, b7, b8, b9⟩, -⟩ := id hA; have hG := hV.1; have k20 := hS.k.1; have hm2 := hS.m2; have tm := hS.ob
  have g7 := hG.l7
  have e2 : I 20 2 = W 7 := hS.c.2.1
  refine wf_X7_addLane hd ⟨fun q => h1 (by omega), fun q => ⟨fun q2 => ⟨fun q3 => h1 (by omega), fun q3 => ⟨fun q4 => ⟨fun q5 => h1 (by omega), fun q5 => ⟨fun q6 => ⟨a0, 20, a1, k20, fun q7 => ?_, fun q7 => h2 (by omega) (by omega)⟩, fun q6 => h1 (by omega)⟩⟩, fun q4 => h1 (by omega)⟩⟩, fun q2 => h1 (by omega)⟩⟩
  rw [e2] at q7
  have h3 := h3 (by omega) (by omega)
  refine cx_save (by omega) h ?_
  intro I2 P2 f1 f2 h
  clear e2
  clear hA hB hC hS hR hV hRC d4 d5 a0 a1 a2 a3 a4 a5 a6 b0 b1 b2 b3 b4 b5 b6 b7 b8 b9 hG k20 hm2 tm σ dr m L π
  obtain ⟨σ, dr, hA, hB, hC, ⟨⟨⟨m, L, π, hS, hR⟩, hV, hRC⟩, d4, d5⟩⟩ := id h; obtain ⟨⟨a0, a1, a2, a3, a4, a5, a6⟩, ⟨b0, b1, b2, b3, b4, b5, b6, b7, b8, b9⟩, -⟩ := id hA; have hG := hV.1; have k20 := hS.k.1; have hm2 := hS.m2; have tm := hS.ob
  obtain ⟨c0, c1, c2, c3, c4, c5, c6, c7⟩ := id hS.c
  have s12 := hS.k.2.2.2.2.2.2.2.2.2.2.2.2.1
  obtain ⟨t0, t1, t2, t3, t4, t5, t6⟩ := id hS.p
  have kl : K (20 + 7 + (W 7).toNat) = 0 := s12 _ (by omega) (by omega)
  refine ⟨a0, 20, a1, k20, 22, t1, hS.k.2.2.2.1, ?_⟩
  rw [c1]
  refine ⟨by rw [hS.k.2.2.2.2.1]; omega, 20 + 7 + (W 7).toNat, t6 _ (by omega) (by omega), kl, cl_begin kl ?_⟩
  intro I3 f3 f4
  refine ⟨a0, 20, a1, k20, ?_⟩
  rintro I24 rfl
  rw [f3 20 (by omega), c1, am_wE (by omega) (by omega)]
  obtain ⟨v0, v1, v2, v3, v4⟩ := f4
  have l0 := hG.l0
  obtain ⟨W', hW'⟩ : ∃ W', W' = v_u (v_u (v_u (v_u W (16 + W 7) x) (22 + W 7) y) (28 + W 7) u) 7 (W 7 + 1) := ⟨_, rfl⟩
  rw [← hW'] at h3
  have w7 : W' 7 = W 7 + 1 := by rw [hW', v_us]
  have w16 : W' (16 + W 7) = x := by rw [hW', v_un (by omega), v_un (by omega), v_un (by omega), v_us]
  have w22 : W' (22 + W 7) = y := by rw [hW', v_un (by omega), v_un (by omega), v_us]
  have w28 : W' (28 + W 7) = u := by rw [hW', v_un (by omega), v_us]
  have wo : ∀ i : Int, ¬ i = 7 → ¬ i = 16 + W 7 → ¬ i = 22 + W 7 → ¬ i = 28 + W 7 → W' i = W i := fun i x1 x2 x3 x4 => by rw [hW', v_un x1, v_un x4, v_un x3, v_un x2]
  clear hW'
  have o0 := l0 (W 7) (Int.le_refl _) (by omega)
  refine h3 _ P2 ((f1.tr (fun a ha => f3 a (by omega))).tr (fun a ha => am_u2_ne (by omega))) f2 (h.low (fun a ha => by rw [am_u2_ne (by omega), f3 a (by omega)]) (by rw [am_u2_o (by omega), f3 20 (by omega)]) ?_ (fun j hj => wo j (by omega) (by omega) (by omega) (by omega)) (wo 9 (by omega) (by omega) (by omega) (by omega)) ?_)
  · have g : ∀ a k, ¬ a = 20 + 7 + (W 7).toNat → ¬ (a = 20 ∧ k = 2) → am_u2 I3 20 2 (W 7 + 1) a k = I2 a k := fun a k x1 x2 => by rw [am_u2_o x2, f3 a x1]
    refine ⟨fun k x1 x2 => ?_, by rw [am_u2_s, w7], fun j k x1 x2 x3 x4 => ?_, ?_, fun k x1 x2 => ⟨?_, ?_⟩, ?_, ?_, ?_⟩
    · rw [g _ _ (by omega) (by omega), wo _ (by omega) (by omega) (by omega) (by omega)]; exact c0 k x1 x2
    · by_cases e : j = W 7
      · subst e
        rw [am_u2_o (by omega)]
        rcases (show k = 0 ∨ k = 1 ∨ k = 2 ∨ k = 3 ∨ k = 4 by omega) with q | q | q | q | q
        · subst q; rw [show 16 + 6 * (0 : Int) + W 7 = 16 + W 7 by omega, w16]; exact v0
        · subst q; rw [show 16 + 6 * (1 : Int) + W 7 = 22 + W 7 by omega, w22]; exact v1
        · subst q; rw [show 16 + 6 * (2 : Int) + W 7 = 28 + W 7 by omega, w28]; exact v2
        · subst q; rw [show 16 + 6 * (3 : Int) + W 7 = 34 + W 7 by omega, wo _ (by omega) (by omega) (by omega) (by omega), o0.1]; exact v3
        · subst q; rw [show 16 + 6 * (4 : Int) + W 7 = 40 + W 7 by omega, wo _ (by omega) (by omega) (by omega) (by omega), o0.2]; exact v4
      · rw [g _ _ (by omega) (by omega), wo _ (by omega) (by omega) (by omega) (by omega)]; exact c2 j k x1 x2 x3 x4
    · rw [g _ _ (by omega) (by omega), wo _ (by omega) (by omega) (by omega) (by omega)]; exact c3
    · rw [g _ _ (by omega) (by omega), wo _ (by omega) (by omega) (by omega) (by omega)]; exact (c4 k x1 x2).1
    · rw [g _ _ (by omega) (by omega), wo _ (by omega) (by omega) (by omega) (by omega)]; exact (c4 k x1 x2).2
    · rw [g _ _ (by omega) (by omega), wo _ (by omega) (by omega) (by omega) (by omega)]; exact c5
    · rw [g _ _ (by omega) (by omega), wo _ (by omega) (by omega) (by omega) (by omega)]; exact c6
    · rw [g _ _ (by omega) (by omega), wo _ (by omega) (by omega) (by omega) (by omega)]; exact c7
  · have w06 : ∀ i : Int, 0 ≤ i → i < 7 → W' i = W i := fun i x1 x2 => wo i (by omega) (by omega) (by omega) (by omega)
    have w9 : W' 9 = W 9 := wo 9 (by omega) (by omega) (by omega) (by omega)
    have w106 : ∀ i : Int, 106 ≤ i → W' i = W i := fun i hi => wo i (by omega) (by omega) (by omega) (by omega)
    have w8 : W' 8 = W 8 := wo 8 (by omega) (by omega) (by omega) (by omega)
    refine hV.lr w06 w9 w106 (hG.lr w06 w9 w106 (by omega) (by rw [w8]; exact hG.r8) (fun l x1 x2 => ?_) (fun l x1 x2 => ?_) (fun k x1 x2 => ?_))
    · by_cases e : l = W 7
      · subst e
        rw [w16, w22, w28, wo (34 + W 7) (by omega) (by omega) (by omega) (by omega), o0.1]; omega
      · rw [wo (16 + l) (by omega) (by omega) (by omega) (by omega), wo (22 + l) (by omega) (by omega) (by omega) (by omega), wo (28 + l) (by omega) (by omega) (by omega) (by omega), wo (34 + l) (by omega) (by omega) (by omega) (by omega)]
        exact hG.ln l x1 (by omega)
    · rw [wo (34 + l) (by omega) (by omega) (by omega) (by omega), wo (40 + l) (by omega) (by omega) (by omega) (by omega)]
      exact l0 l (by omega) x2
    · have g8 := hG.r8
      rw [w8] at x2
      rw [wo (46 + k) (by omega) (by omega) (by omega) (by omega), wo (76 + k) (by omega) (by omega) (by omega) (by omega)]
      have := hG.rt k x1 x2
      omega
theorem cx_emptyLane (hd : 6 ≤ d) (h : GI K N I P z W S c T n) {x : Int} (h1 : ¬ (0 ≤ x ∧ x < W 7) → X 0 K N I P z)
    (h2 : 0 ≤ x ∧ x < W 7 → ∀ I' P', GF I I' → GP P P' → GI K N I' P' z (v_u W (34 + x) 0) (v_svS S c W) (v_svc c) T n → Q (am_i (W (34 + x))) K N I' P' z) : am_C d m_X7_emptyLane [am_r 4, am_i x] K N I P z Q X := by
  obtain ⟨σ, dr, hA, hB, hC, ⟨⟨⟨m, L, π, hS, hR⟩, hV, hRC⟩, d4, d5⟩⟩ := id h; obtain ⟨⟨a0, a1, a2, a3, a4, a5, a6⟩, ⟨b0, b1, b2, b3, b4, b5, b6, b7, b8, b9⟩, -⟩ := id hA; have hG := hV.1; have k20 := hS.k.1; have hm2 := hS.m2; have tm := hS.ob
  have g7 := hG.l7
  refine wf_X7_emptyLane hd ⟨a0, 20, a1, k20, cs_hasLane k20 hS.c.2.1 ?_⟩
  simp only [am_iv, ite_z]
  refine ⟨fun q => ⟨a0, ?_⟩, fun q => h1 q⟩
  simp only [Decidable.not_not] at q
  have h2 := h2 q
  refine cx_save (by omega) h ?_
  intro I2 P2 f1 f2 h
  clear hA hB hC hS hR hV hRC d4 d5 a0 a1 a2 a3 a4 a5 a6 b0 b1 b2 b3 b4 b5 b6 b7 b8 b9 hG k20 hm2 tm σ dr m L π
  obtain ⟨σ, dr, hA, hB, hC, ⟨⟨⟨m, L, π, hS, hR⟩, hV, hRC⟩, d4, d5⟩⟩ := id h; obtain ⟨⟨a0, a1, a2, a3, a4, a5, a6⟩, ⟨b0, b1, b2, b3, b4, b5, b6, b7, b8, b9⟩, -⟩ := id hA; have hG := hV.1; have k20 := hS.k.1; have hm2 := hS.m2; have tm := hS.ob
  have s12 := hS.k.2.2.2.2.2.2.2.2.2.2.2.2.1
  obtain ⟨t0, t1, t2, t3, t4, t5, t6⟩ := id hS.p
  have kl : K (20 + 7 + x.toNat) = 0 := s12 _ (by omega) (by omega)
  refine ⟨a0, 20, a1, k20, 22, t1, hS.k.2.2.2.1, by rw [hS.k.2.2.2.2.1]; omega, 20 + 7 + x.toNat, t6 _ (by omega) (by omega), kl, by rw [hS.k.2.2.2.2.1]; omega, 20 + 7 + x.toNat, t6 _ (by omega) (by omega), kl, ?_⟩
  rintro I25 rfl
  have ce := hS.c.ln (i := x) (by omega) (by omega)
  rw [ce.2.2.2.1]
  refine h2 _ P2 (f1.tr (fun a ha => am_u2_ne (by omega))) f2 (h.low (fun a ha => am_u2_ne (by omega)) (am_u2_o (by omega)) ?_ (fun j hj => v_un (by omega)) (v_un (by omega)) ?_)
  · refine hS.c.lane (l := x) (by omega) (by omega) (fun a k x1 x2 x3 x4 => ?_) (fun k k0 k1 => ?_) (fun i x1 x2 x3 => v_un (by omega))
    · by_cases e : a = 20 + 7 + x.toNat
      · rw [am_u2_o (by omega)]
      · rw [am_u2_o (fun q => e q.1)]
    · by_cases e : k = 3
      · subst e
        rw [show (16 : Int) + 6 * 3 + x = 34 + x by omega, v_us]
        exact am_u2_s
      · rw [am_u2_o (by omega), v_un (by omega)]
        exact hS.c.2.2.1 x k (by omega) (by omega) k0 k1
  · have w06 : ∀ i : Int, 0 ≤ i → i < 7 → v_u W (34 + x) 0 i = W i := fun i x1 x2 => v_un (by omega)
    have w9 : v_u W (34 + x) 0 9 = W 9 := v_un (by omega)
    have w106 : ∀ i : Int, 106 ≤ i → v_u W (34 + x) 0 i = W i := fun i hi => v_un (by omega)
    have w7 : v_u W (34 + x) 0 7 = W 7 := v_un (by omega)
    have w8 : v_u W (34 + x) 0 8 = W 8 := v_un (by omega)
    refine hV.lr w06 w9 w106 (hG.lr w06 w9 w106 (by rw [w7]; exact g7) (by rw [w8]; exact hG.r8) (fun l x1 x2 => ?_) (fun l x1 x2 => ?_) (fun k x1 x2 => ?_))
    · rw [w7] at x2
      have := hG.ln l x1 x2
      rw [v_un (by omega), v_un (by omega), v_un (by omega)]
      by_cases e : l = x
      · subst e; rw [v_us]; omega
      · rw [v_un (by omega)]; exact this
    · rw [w7] at x1
      rw [v_un (by omega), v_un (by omega)]
      exact hG.l0 l x1 x2
    · rw [w8] at x2
      have g8 := hG.r8
      rw [v_un (by omega), v_un (by omega), w7]
      exact hG.rt k x1 x2
theorem cx_route (hd : 6 ≤ d) (h : GI K N I P z W S c T n) {x l : Int} (h1 : ¬ (0 ≤ x ∧ x ≤ 999) → X 1 K N I P z) (h2 : 0 ≤ x ∧ x ≤ 999 → ¬ (0 ≤ l ∧ l < W 7) → X 0 K N I P z)
    (h3 : 0 ≤ x ∧ x ≤ 999 → 0 ≤ l ∧ l < W 7 → ¬ v_has W x → W 8 = 30 → X 2 K N I P z)
    (h4 : 0 ≤ x ∧ x ≤ 999 → 0 ≤ l ∧ l < W 7 → v_has W x → ∀ I' P', GF I I' → GP P P' → GI K N I' P' z (v_u (v_u W (46 + v_place W x) x) (76 + v_place W x) l) (v_svS S c W) (v_svc c) T n → Q (am_i (W (76 + v_place W x))) K N I' P' z)
    (h5 : 0 ≤ x ∧ x ≤ 999 → 0 ≤ l ∧ l < W 7 → ¬ v_has W x → ¬ W 8 = 30 → ∀ I' P', GF I I' → GP P P' → GI K N I' P' z (v_rt W (v_place W x) x l) (v_svS S c W) (v_svc c) T n → Q (am_i (-1)) K N I' P' z) : am_C d m_X7_route [am_r 4, am_i x, am_i l] K N I P z Q X := by
  obtain ⟨σ, dr, hA, hB, hC, ⟨⟨⟨m, L, π, hS, hR⟩, hV, hRC⟩, d4, d5⟩⟩ := id h; obtain ⟨⟨a0, a1, a2, a3, a4, a5, a6⟩, ⟨b0, b1, b2, b3, b4, b5, b6, b7, b8, b9⟩, -⟩ := id hA; have hG := hV.1; have k20 := hS.k.1; have hm2 := hS.m2; have tm := hS.ob
  have g7 := hG.l7
  have g8 := hG.r8
  have bp := v_place_bd g8.1 x
  refine wf_X7_route hd ⟨fun q => h1 (by omega), fun q => ⟨fun q2 => ⟨a0, 20, a1, k20, cs_hasLane k20 hS.c.2.1 ?_⟩, fun q2 => h1 (by omega)⟩⟩
  simp only [am_iv, ite_z]
  refine ⟨fun q3 => ⟨a0, 20, a1, k20, 23, hS.p.2.2.1, hS.k.2.2.2.2.2.1, cr_laneOf (by omega) hS.k hS.p hS.c g8 ?_⟩, fun q3 => h2 (by omega) q3⟩
  simp only [Decidable.not_not] at q3
  -- the State after the save, with a route put
  have hh : v_has W x ↔ (v_place W x < W 8 ∧ W (46 + v_place W x) = x) := Iff.rfl
  have vg : ∀ W' : Int → Int, (∀ i : Int, ¬ i = 8 → ¬ (46 ≤ i ∧ i < 106) → W' i = W i) → (0 ≤ W' 8 ∧ W' 8 ≤ 30) → (∀ k, 0 ≤ k → k < W' 8 → (0 ≤ W' (46 + k) ∧ W' (46 + k) ≤ 999) ∧ (0 ≤ W' (76 + k) ∧ W' (76 + k) < W 7)) → VG W' := by
    intro W' wo w8 wr
    have w06 : ∀ i : Int, 0 ≤ i → i < 7 → W' i = W i := fun i x1 x2 => wo i (by omega) (by omega)
    have w9 : W' 9 = W 9 := wo 9 (by omega) (by omega)
    have w106 : ∀ i : Int, 106 ≤ i → W' i = W i := fun i hi => wo i (by omega) (by omega)
    have w7 : W' 7 = W 7 := wo 7 (by omega) (by omega)
    refine hV.lr w06 w9 w106 (hG.lr w06 w9 w106 (by rw [w7]; exact g7) w8 (fun l x1 x2 => ?_) (fun l x1 x2 => ?_) (fun k x1 x2 => ?_))
    · rw [w7] at x2
      rw [wo _ (by omega) (by omega), wo _ (by omega) (by omega), wo _ (by omega) (by omega), wo _ (by omega) (by omega)]
      exact hG.ln l x1 x2
    · rw [w7] at x1
      rw [wo _ (by omega) (by omega), wo _ (by omega) (by omega)]
      exact hG.l0 l x1 x2
    · rw [w7]; exact wr k x1 x2
  have go : ¬ (¬ v_has W x ∧ W 8 = 30) → am_C (d - 1) m_X7_save [am_r 4] K N I P z (fun _ K21 N22 I23 P24 z25 =>
            K21 4 = 7 ∧ ∃ b28, P24 4 0 = some b28 ∧ K21 b28 = 6 ∧ ∃ b30, P24 b28 3 = some b30 ∧ K21 b30 = 3 ∧ am_C (d - 1) m_X3_put [am_r b30, am_i x, am_i l] K21 N22 I23 P24 z25 (fun _ K31 N32 I33 P34 z35 =>
            Q (am_i (if v_has W x then W (76 + v_place W x) else -1)) K31 N32 I33 P34 z35) am_nx) am_nx := by
    intro hn
    refine cx_save (by omega) h ?_
    intro I2 P2 f1 f2 h
    clear hA hB hC hS hR hV hRC d4 d5 a0 a1 a2 a3 a4 a5 a6 b0 b1 b2 b3 b4 b5 b6 b7 b8 b9 hG k20 hm2 tm σ dr m L π
    obtain ⟨σ, dr, hA, hB, hC, ⟨⟨⟨m, L, π, hS, hR⟩, hV, hRC⟩, d4, d5⟩⟩ := id h; obtain ⟨⟨a0, a1, a2, a3, a4, a5, a6⟩, ⟨b0, b1, b2, b3, b4, b5, b6, b7, b8, b9⟩, -⟩ := id hA; have hG := hV.1; have k20 := hS.k.1; have hm2 := hS.m2; have tm := hS.ob
    refine ⟨a0, 20, a1, k20, 23, hS.p.2.2.1, hS.k.2.2.2.2.2.1, cr_put (s := 20) (by omega) hS.k hS.p hS.c g8 ?_ ?_ ?_⟩
    · intro e I3 f3 f4
      rw [if_pos e]
      refine h4 (by omega) q3 e _ P2 (f1.tr (fun a ha => f3 a (by omega))) f2 (h.low (fun a ha => f3 a (by omega)) (by rw [f3 20 (by omega)]) f4 (fun j hj => by rw [v_un (by omega), v_un (by omega)]) (by rw [v_un (by omega), v_un (by omega)]) (vg _ (fun i x1 x2 => by rw [v_un (by omega), v_un (by omega)]) (by rw [v_un (by omega), v_un (by omega)]; exact g8) (fun k x1 x2 => ?_)))
      rw [v_un (by omega), v_un (by omega)] at x2
      have gk := hG.rt k x1 x2
      by_cases e2 : k = v_place W x
      · subst e2
        rw [v_un (by omega), v_us, v_us]; omega
      · rw [v_un (by omega), v_un (by omega), v_un (by omega), v_un (by omega)]; exact gk
    · intro e e8 I3 f3 f4
      rw [if_neg e]
      have b := bp
      generalize v_place W x = k0 at *
      have w8 : v_rt W k0 x l 8 = W 8 + 1 := by unfold v_rt; rw [v_un (by omega), v_un (by omega), v_us]
      have wo : ∀ i : Int, ¬ i = 8 → ¬ (46 ≤ i ∧ i < 106) → v_rt W k0 x l i = W i := by
        intro i x1 x2
        unfold v_rt
        rw [v_un (by omega), v_un (by omega), v_un (by omega)]
        unfold v_ins
        rw [if_neg (by omega)]
      refine h5 (by omega) q3 e (by omega) _ P2 (f1.tr (fun a ha => f3 a (by omega))) f2 (h.low (fun a ha => f3 a (by omega)) (by rw [f3 20 (by omega)]) f4 (fun j hj => wo j (by omega) (by omega)) (wo 9 (by omega) (by omega)) (vg _ wo (by omega) (fun k x1 x2 => ?_)))
      rw [w8] at x2
      unfold v_rt
      by_cases e2 : k = k0
      · subst e2
        rw [v_un (by omega), v_us, v_us]; omega
      · rw [v_un (by omega), v_un (by omega), v_un (by omega), v_un (by omega), v_un (by omega), v_un (by omega)]
        unfold v_ins
        by_cases e3 : k0 < k
        · have gk := hG.rt (k - 1) (by omega) (by omega)
          rw [if_pos (by omega), if_pos (by omega), show 46 + k - 1 = 46 + (k - 1) by omega, show 76 + k - 1 = 76 + (k - 1) by omega]
          exact gk
        · have gk := hG.rt k x1 (by omega)
          rw [if_neg (by omega), if_neg (by omega)]
          exact gk
    · intro e
      rcases (show W 8 < 30 ∨ W 8 = 30 by omega) with r | r
      · exact r
      · exact (hn ⟨e, r⟩).elim
  by_cases hq : v_has W x
  · have go := go (fun q => q.1 hq)
    have gk := hG.rt (v_place W x) bp.1 hq.1
    rw [if_pos hq] at go ⊢
    simp only [am_iv]
    exact ⟨fun _ => ⟨a0, go⟩, fun r => absurd r (by omega)⟩
  · rw [if_neg hq] at go ⊢
    simp only [am_iv]
    refine ⟨fun r => absurd r (by decide), fun _ => ⟨a0, 20, a1, k20, 23, hS.p.2.2.1, hS.k.2.2.2.2.2.1, fun r => go (fun q => ?_), fun r => h3 (by omega) q3 hq ?_⟩⟩
    · have e3 : I 23 2 = W 8 := hS.c.2.2.2.1
      omega
    · have e3 : I 23 2 = W 8 := hS.c.2.2.2.1
      omega
theorem cx_removeRoute (hd : 6 ≤ d) (h : GI K N I P z W S c T n) {x : Int} (h1 : ¬ (0 ≤ x ∧ x ≤ 999) → X 1 K N I P z) (h2 : 0 ≤ x ∧ x ≤ 999 → ¬ v_has W x → X 2 K N I P z)
    (h3 : 0 ≤ x ∧ x ≤ 999 → v_has W x → ∀ I' P', GF I I' → GP P P' → GI K N I' P' z (v_del W (v_place W x) (W 8 - 1)) (v_svS S c W) (v_svc c) T n → Q (am_i (W (76 + v_place W x))) K N I' P' z) : am_C d m_X7_removeRoute [am_r 4, am_i x] K N I P z Q X := by
  obtain ⟨σ, dr, hA, hB, hC, ⟨⟨⟨m, L, π, hS, hR⟩, hV, hRC⟩, d4, d5⟩⟩ := id h; obtain ⟨⟨a0, a1, a2, a3, a4, a5, a6⟩, ⟨b0, b1, b2, b3, b4, b5, b6, b7, b8, b9⟩, -⟩ := id hA; have hG := hV.1; have k20 := hS.k.1; have hm2 := hS.m2; have tm := hS.ob
  have g7 := hG.l7
  have g8 := hG.r8
  have bp := v_place_bd g8.1 x
  refine wf_X7_removeRoute hd ⟨fun q => h1 (by omega), fun q => ⟨fun q2 => ⟨a0, 20, a1, k20, 23, hS.p.2.2.1, hS.k.2.2.2.2.2.1, cr_laneOf (by omega) hS.k hS.p hS.c g8 ?_⟩, fun q2 => h1 (by omega)⟩⟩
  by_cases hq : v_has W x
  · have gk := hG.rt (v_place W x) bp.1 hq.1
    rw [if_pos hq]
    refine ⟨fun _ => ⟨a0, ?_⟩, fun r => absurd r (by omega)⟩
    have h3 := h3 (by omega) hq
    refine cx_save (by omega) h ?_
    intro I2 P2 f1 f2 h
    clear hA hB hC hS hR hV hRC d4 d5 a0 a1 a2 a3 a4 a5 a6 b0 b1 b2 b3 b4 b5 b6 b7 b8 b9 hG k20 hm2 tm σ dr m L π
    obtain ⟨σ, dr, hA, hB, hC, ⟨⟨⟨m, L, π, hS, hR⟩, hV, hRC⟩, d4, d5⟩⟩ := id h; obtain ⟨⟨a0, a1, a2, a3, a4, a5, a6⟩, ⟨b0, b1, b2, b3, b4, b5, b6, b7, b8, b9⟩, -⟩ := id hA; have hG := hV.1; have k20 := hS.k.1; have hm2 := hS.m2; have tm := hS.ob
    refine ⟨a0, 20, a1, k20, 23, hS.p.2.2.1, hS.k.2.2.2.2.2.1, cr_drop (s := 20) (by omega) hS.k hS.p hS.c g8 hq ?_⟩
    intro I3 f3 f4
    have wo : ∀ i : Int, ¬ i = 8 → ¬ (46 ≤ i ∧ i < 106) → v_del W (v_place W x) (W 8 - 1) i = W i := by
      intro i x1 x2
      unfold v_del
      rw [if_neg x1, if_neg (by omega)]
    have w8 : v_del W (v_place W x) (W 8 - 1) 8 = W 8 - 1 := if_pos rfl
    have hl := hq.1
    refine h3 _ P2 (f1.tr (fun a ha => f3 a (by omega))) f2 (h.low (fun a ha => f3 a (by omega)) (by rw [f3 20 (by omega)]) f4 (fun j hj => wo j (by omega) (by omega)) (wo 9 (by omega) (by omega)) ?_)
    generalize v_place W x = k0 at *
    have w06 : ∀ i : Int, 0 ≤ i → i < 7 → v_del W k0 (W 8 - 1) i = W i := fun i x1 x2 => wo i (by omega) (by omega)
    have w9 : v_del W k0 (W 8 - 1) 9 = W 9 := wo 9 (by omega) (by omega)
    have w106 : ∀ i : Int, 106 ≤ i → v_del W k0 (W 8 - 1) i = W i := fun i hi => wo i (by omega) (by omega)
    have w7 : v_del W k0 (W 8 - 1) 7 = W 7 := wo 7 (by omega) (by omega)
    refine hV.lr w06 w9 w106 (hG.lr w06 w9 w106 (by rw [w7]; exact g7) (by omega) (fun l x1 x2 => ?_) (fun l x1 x2 => ?_) (fun k x1 x2 => ?_))
    · rw [w7] at x2
      rw [wo _ (by omega) (by omega), wo _ (by omega) (by omega), wo _ (by omega) (by omega), wo _ (by omega) (by omega)]
      exact hG.ln l x1 x2
    · rw [w7] at x1
      rw [wo _ (by omega) (by omega), wo _ (by omega) (by omega)]
      exact hG.l0 l x1 x2
    · rw [w8] at x2
      rw [w7]
      unfold v_del
      rw [if_neg (show ¬ 46 + k = 8 by omega), if_neg (show ¬ 76 + k = 8 by omega)]
      by_cases e3 : k0 ≤ k
      · have gk := hG.rt (k + 1) (by omega) (by omega)
        rw [if_pos (by omega), if_pos (by omega), show 46 + k + 1 = 46 + (k + 1) by omega, show 76 + k + 1 = 76 + (k + 1) by omega]
        exact gk
      · have gk := hG.rt k x1 (by omega)
        rw [if_neg (by omega), if_neg (by omega)]
        exact gk
  · rw [if_neg hq]
    exact ⟨fun r => absurd rfl r, fun _ => h2 (by omega) hq⟩
end
