section
variable {d : Nat} {K N : Nat → Nat} {I I' : Nat → Nat → Int} {P P' : Nat → Nat → Option Nat} {z : Nat} {Q : am_V → am_T} {X : Nat → am_T} {W W' V W0 L0 : Int → Int} {S : Int → Int → Int} {c : Int} {T : Int → Int} {n : Int} {s s2 dr : Nat} {m m0 : Int} {L : Int → Int} {π π0 : Int → Nat}
theorem v_readFor_o {p x i : Int} (h : ¬ v_cl p i) : v_readFor W p x i = W i := by
  unfold v_cl at h
  unfold v_readFor
  split
  · rw [v_un (by omega), v_un (by omega)]
  split
  · split
    · rw [v_un (by omega), v_un (by omega)]
    · rw [v_un (by omega)]
  · rw [v_un (by omega), v_un (by omega)]
theorem v_readFor_b {p x : Int} (x0 : 0 ≤ x) (x1 : x ≤ 999) (h4 : -1 ≤ W (1100 + p) ∧ W (1100 + p) ≤ 999) (h5 : W (1400 + p) = 0 ∨ W (1400 + p) = 1) : (-1 ≤ v_readFor W p x (1100 + p) ∧ v_readFor W p x (1100 + p) ≤ 999) ∧ (v_readFor W p x (1400 + p) = 0 ∨ v_readFor W p x (1400 + p) = 1) ∧ v_readFor W p x (1700 + p) = W (1700 + p) ∧ v_readFor W p x (2600 + p) = W (2600 + p) := by
  unfold v_readFor
  split
  · rw [v_un (by omega), v_us, v_un (by omega), v_un (by omega), v_un (by omega), v_un (by omega), v_un (by omega), v_un (by omega)]
    exact ⟨by omega, h5, rfl, rfl⟩
  split
  · split
    · rw [v_un (by omega), v_un (by omega), v_un (by omega), v_un (by omega), v_un (by omega), v_un (by omega), v_un (by omega), v_un (by omega)]
      exact ⟨h4, h5, rfl, rfl⟩
    · rw [v_un (by omega), v_un (by omega), v_un (by omega), v_un (by omega)]
      exact ⟨h4, h5, rfl, rfl⟩
  · rw [v_un (by omega), v_un (by omega), v_un (by omega), v_us, v_un (by omega), v_un (by omega), v_un (by omega), v_un (by omega)]
    exact ⟨h4, Or.inr rfl, rfl, rfl⟩
theorem cx_read (hd : 6 ≤ d) (h : GI K N I P z W S c T n) {x : Int} (h1 : ¬ (0 ≤ x ∧ x ≤ 999) → X 1 K N I P z)
    (h2 : 0 ≤ x ∧ x ≤ 999 → v_own W = -1 → ∀ I' P', GF I I' → GP P P' → GI K N I' P' z (v_u W 10 (am_wr (W 10 + 1))) (v_svS S c W) (v_svc c) T n → Q (am_i (-1)) K N I' P' z)
    (h3 : 0 ≤ x ∧ x ≤ 999 → ¬ v_own W = -1 → ∀ I' P', GF I I' → GP P P' → GI K N I' P' z (v_readFor W (v_own W) x) (v_svS S c W) (v_svc c) T n → Q (am_i (v_own W)) K N I' P' z) : am_C d m_X7_read [am_r 4, am_i x] K N I P z Q X := by
  have a0 := h
  obtain ⟨σ, dr, hA, hB, hC, ⟨⟨⟨m, L, π, hS, hR⟩, hV, hRC⟩, d4, d5⟩⟩ := id h
  refine wf_X7_read hd ⟨fun q => h1 (by omega), fun q => ⟨fun q2 => ⟨hA.1.1, ?_⟩, fun q2 => h1 (by omega)⟩⟩
  have h2 := h2 (by omega)
  have h3 := h3 (by omega)
  have x0 : 0 ≤ x := by omega
  refine cx_save (by omega) h ?_
  intro I2 P2 f1 f2 h
  clear hS hA hB hC hR d4 d5 hRC hV σ dr m L π a0
  obtain ⟨σ, dr, hA, hB, hC, ⟨⟨⟨m, L, π, hS, hR⟩, hV, hRC⟩, d4, d5⟩⟩ := id h; obtain ⟨⟨a0, a1, a2, a3, a4, a5, a6⟩, ⟨b0, b1, b2, b3, b4, b5, b6, b7, b8, b9⟩, -⟩ := id hA; have hG := hV.1; have k20 := hS.k.1; have hm2 := hS.m2; have tm := hS.ob
  have g9 := hG.n9
  obtain ⟨c0, c1, c2, c3, c4, c5, c6, c7⟩ := id hS.c
  refine ⟨a0, 20, a1, k20, cs_owner (by omega) hS hG ?_ ?_⟩
  · intro ho
    refine ⟨fun _ => ⟨a0, 20, a1, k20, ?_⟩, fun b16 q => by cases q⟩
    rintro I20 rfl
    rw [c7]
    have wo : ∀ i : Int, ¬ i = 10 → v_u W 10 (am_wr (W 10 + 1)) i = W i := fun i hi => v_un hi
    refine h2 ho _ P2 (f1.tr (fun a ha => am_u2_ne (by omega))) f2 (h.low (fun a ha => am_u2_ne (by omega)) (am_u2_o (by omega)) ?_ (fun j hj => wo j (by omega)) (wo 9 (by omega)) ?_)
    · refine ⟨fun k a b => ?_, ?_, fun i k a b e f => ?_, ?_, fun k a b => ⟨?_, ?_⟩, ?_, ?_, ?_⟩
      · rw [am_u2_o (by omega), wo _ (by omega)]; exact c0 k a b
      · rw [am_u2_o (by omega), wo _ (by omega)]; exact c1
      · rw [am_u2_o (by omega), wo _ (by omega)]; exact c2 i k a b e f
      · rw [am_u2_o (by omega), wo _ (by omega)]; exact c3
      · rw [am_u2_o (by omega), wo _ (by omega)]; exact (c4 k a b).1
      · rw [am_u2_o (by omega), wo _ (by omega)]; exact (c4 k a b).2
      · rw [am_u2_o (by omega), wo _ (by omega)]; exact c5
      · rw [am_u2_o (by omega), wo _ (by omega)]; exact c6
      · rw [am_u2_s, v_us]
    · refine hV.lr (fun i i0 i1 => wo i (by omega)) (wo 9 (by omega)) (fun i hi => wo i (by omega)) (hG.pts (fun i i0 i1 i2 i3 => wo i i3) (by rw [wo 9 (by omega)]; exact g9) (fun p p0 p1 => ?_) (fun p q p0 p1 p2 p3 p4 => ?_))
      · rw [wo 9 (by omega)] at p1
        rw [wo _ (by omega), wo _ (by omega), wo _ (by omega), wo _ (by omega), wo _ (by omega), wo _ (by omega), wo _ (by omega)]
        exact hG.pt p p0 p1
      · rw [wo 9 (by omega)] at p2
        rw [wo _ (by omega)] at p3 p4
        rw [wo _ (by omega), wo _ (by omega), wo _ (by omega)]
        exact hG.od p q p0 p1 p2 p3 p4
  · intro j j0 j1 ho
    have o := hS.b.on j0 j1
    have kp := hS.kp j0 (show j < 20 by omega)
    have bj := hS.i.bd j0 (show j < 20 by omega)
    have gp := hG.pt _ o.1 o.2.1
    have h3 := h3 (by omega)
    rw [ho] at h3
    refine ⟨fun q => (by cases q), fun b16 q => ?_⟩
    cases q
    refine ⟨a0, 20, a1, k20, 21, hS.p.1, hS.k.2.1, by rw [hS.k.2.2.1]; omega, kp, ?_⟩
    rw [c6, hS.c.st2]
    refine cp_accept kp (hS.t j j0 j1) x0 o.1 (by omega) ?_
    intro I3 f3 f4 f5 f6 f7
    refine ⟨kp, ?_⟩
    rw [f5.1]
    have wo : ∀ i : Int, ¬ v_cl (L j) i → v_readFor W (L j) x i = W i := fun i hi => v_readFor_o hi
    have wb := v_readFor_b (W := W) (p := L j) x0 q2 gp.2.2.1 gp.2.2.2.1
    have w9 : v_readFor W (L j) x 9 = W 9 := wo 9 (by simp only [v_cl]; omega)
    have wq : ∀ p c : Int, 0 ≤ p → p < W 9 → ¬ p = L j → v_col c → v_readFor W (L j) x (c + p) = W (c + p) := fun p c p0 p1 p2 hc => wo _ (by unfold v_col at hc; simp only [v_cl]; omega)
    have w8 : ∀ p : Int, 0 ≤ p → p < W 9 → v_readFor W (L j) x (800 + p) = W (800 + p) := fun p p0 p1 => wo _ (by simp only [v_cl]; omega)
    have w5 : ∀ p : Int, 0 ≤ p → p < W 9 → v_readFor W (L j) x (500 + p) = W (500 + p) := fun p p0 p1 => wo _ (by simp only [v_cl]; omega)
    have w2 : ∀ p : Int, 0 ≤ p → p < W 9 → v_readFor W (L j) x (200 + p) = W (200 + p) := fun p p0 p1 => wo _ (by simp only [v_cl]; omega)
    refine h3 I3 P2 (f1.tr (fun a ha => f3 a (by omega))) f2 (h.now (fun a ha hb => f3 a (by omega)) (fun _ _ => rfl) ⟨m, L, π, hS.pt (by omega) j0 j1 f3 (fun i i0 hi => wo i hi) f5⟩ (fun a x y => ?_) (fun i i0 i1 => wo _ (by simp only [v_cl]; omega)) ⟨?_, ?_, ?_⟩ ?_ ?_)
    · have hb := (hB 20 sN.now).2.2.1 a x y
      by_cases e : a = π j
      · subst e
        refine ⟨?_, by rw [f7]; exact hb.2⟩
        rcases f6 with r | r
        · rw [r]; exact hb.1
        · exact Or.inr r
      · rw [f3 a e]; exact hb
    · refine hG.pts (fun i i0 i1 i2 i3 => wo i (by simp only [v_cl]; omega)) (by rw [w9]; exact g9) (fun p p0 p1 => ?_) (fun p q p0 p1 p2 p3 p4 => ?_)
      · rw [w9] at p1
        have gq := hG.pt p p0 p1
        rw [w2 p p0 p1, w5 p p0 p1, w8 p p0 p1]
        by_cases e : p = L j
        · subst e
          rw [wb.2.2.1, wb.2.2.2]
          exact ⟨gq.1, gq.2.1, wb.1, wb.2.1, gq.2.2.2.2⟩
        · rw [wq p 1100 p0 p1 e (by unfold v_col; omega), wq p 1400 p0 p1 e (by unfold v_col; omega), wq p 1700 p0 p1 e (by unfold v_col; omega), wq p 2600 p0 p1 e (by unfold v_col; omega)]
          exact gq
      · rw [w9] at p2
        rw [w8 p p0 (by omega)] at p3
        rw [w8 q (by omega) p2] at p4
        rw [w5 q (by omega) p2, w5 p p0 (by omega), w2 p p0 (by omega)]
        exact hG.od p q p0 p1 p2 p3 p4
    · intro p p0 p1 p2
      rw [w9] at p1
      rw [w8 p p0 p1] at p2
      rw [w5 p p0 p1, wo 5 (by simp only [v_cl]; omega)]
      exact hV.2.1 p p0 p1 p2
    · rw [wo 0 (by simp only [v_cl]; omega)]; exact hV.2.2
    · intro p p0 p1 p2
      refine ⟨by rw [w9]; exact p1, fun c hc => wq p c p0 p1 (fun e => p2 (by rw [e]; exact o.2.2)) hc⟩
    · intro p k p0 p1 p2 k0 k1
      rw [w9] at p1
      rw [w8 p p0 p1] at p2
      rw [f3 7 (by omega), hRC p k p0 p1 p2 k0 k1]
      exact (v_pp_sub (fun c hc => wq p c p0 p1 (fun e => p2 (by rw [e]; exact o.2.2)) hc) p2).symm
theorem DP.rf (hS : ST K N I P s W m L π) : DP I W m m L π W L π := ⟨Int.le_refl _, hS.m2.2, fun j a b => absurd b (by omega), fun i a b => ⟨i, a, b, rfl, rfl⟩⟩
theorem cx_takeOff (hd : 6 ≤ d) (h : GI K N I P z W S c T n) {x : Int} (h1 : ¬ (0 ≤ x ∧ x < W 9) → X 0 K N I P z) (h2 : 0 ≤ x ∧ x < W 9 → ¬ W (800 + x) = 0 → X 2 K N I P z)
    (h3 : 0 ≤ x ∧ x < W 9 → W (800 + x) = 0 → ∀ I' P', GF I I' → GP P P' → GI K N I' P' z (v_u W (800 + x) 9) (v_svS S c W) (v_svc c) T n → Q (am_i (W (500 + x))) K N I' P' z) : am_C d m_X7_takeOff [am_r 4, am_i x] K N I P z Q X := by
  obtain ⟨σ, dr, hA, hB, hC, ⟨⟨⟨m, L, π, hS, hR⟩, hV, hRC⟩, d4, d5⟩⟩ := id h; obtain ⟨⟨a0, a1, a2, a3, a4, a5, a6⟩, ⟨b0, b1, b2, b3, b4, b5, b6, b7, b8, b9⟩, -⟩ := id hA; have hG := hV.1; have k20 := hS.k.1; have hm2 := hS.m2; have tm := hS.ob
  have g9 := hG.n9
  refine wf_X7_takeOff hd ⟨a0, cx_has h ?_⟩
  simp only [am_iv, ite_z]
  refine ⟨fun q => ⟨a0, 20, a1, k20, cs_placeOf hS ?_ ?_⟩, fun q => h1 q⟩
  · intro j j0 j1 j2
    simp only [Decidable.not_not] at q
    have o := hS.b.on j0 j1
    rw [j2] at o
    have h3 := h3 q o.2.2
    refine ⟨fun _ => ⟨a0, ?_⟩, fun r => absurd r (by omega)⟩
    refine cx_save2 (by omega) h ?_
    intro I2 P2 f1 f2 h fx
    have hS2 : ST K N I2 P2 20 W m L π := hS.tr (fun a x y => (fx.1 a (by omega)).1) (fun a k x y _ => by rw [(fx.1 a (by omega)).2])
    clear hS hA hB hC hR d4 d5 a0 a1 a2 a3 a4 a5 a6 b0 b1 b2 b3 b4 b5 b6 b7 b8 b9 tm hRC hV σ dr
    obtain ⟨σ, dr, hA, hB, hC, ⟨⟨_, hV, hRC⟩, d4, d5⟩⟩ := id h
    obtain ⟨⟨a0, a1, a2, a3, a4, a5, a6⟩, ⟨b0, b1, b2, b3, b4, b5, b6, b7, b8, b9⟩, -⟩ := id hA
    have tm := hS2.ob
    have t3 : P2 20 5 = some 26 := hS2.p.2.2.2.1
    have s10 : K 26 = 12 := hS2.k.2.2.2.2.2.2.2.2.2.2.1
    have s11 : N 26 = 20 := hS2.k.2.2.2.2.2.2.2.2.2.2.2.1
    have kp := hS2.kp j0 (show j < 20 by omega)
    have bj := hS2.i.bd j0 (show j < 20 by omega)
    refine ⟨a0, 20, a1, k20, 26, t3, s10, by omega, π j, hS2.i.pl j0 (by omega), kp, cs_leave hS2.k t3 hS2.i tm j0 j1 hm2.2 ?_⟩
    intro P3 g1 g2
    have fr : (I2 (π j) 2) = W (500 + x) := by rw [(hS2.t j j0 j1).2.2.1, j2]
    rw [tm, fr]
    have hS3 := hS2.lv (by omega) (f := 9) j0 j1 (by omega) g1 g2
    have hD3 := (DP.rf hS2).lv hS2 (by omega) (i := j) (f := 9) j0 j1 (by omega) (by rw [j2]; exact o.2.2)
    rw [j2] at hS3 hD3
    have wo : ∀ i : Int, ¬ i = 800 + x → v_u W (800 + x) 9 i = W i := fun i hi => v_un hi
    have ws : v_u W (800 + x) 9 (800 + x) = 9 := v_us
    have w9 := wo 9 (by omega)
    have hG3 : v_G (v_u W (800 + x) 9) := by
      refine hG.pts (fun i i0 i1 i2 i3 => wo i (by omega)) (by rw [w9]; exact g9) (fun p p0 p1 => ?_) (fun p q p0 p1 p2 p3 p4 => ?_)
      · rw [w9] at p1
        have gq := hG.pt p p0 p1
        rw [wo (200 + p) (by omega), wo (500 + p) (by omega), wo (1100 + p) (by omega), wo (1400 + p) (by omega), wo (1700 + p) (by omega), wo (2600 + p) (by omega)]
        refine ⟨gq.1, gq.2.1, gq.2.2.1, gq.2.2.2.1, gq.2.2.2.2.1, gq.2.2.2.2.2.1, ?_⟩
        by_cases e : p = x
        · rw [e, ws]; omega
        · rw [wo _ (by omega)]; exact gq.2.2.2.2.2.2
      · rw [w9] at p2
        have np : ¬ p = x := by rintro rfl; rw [ws] at p3; omega
        have nq : ¬ q = x := by rintro rfl; rw [ws] at p4; omega
        rw [wo _ (by omega)] at p3 p4
        rw [wo (500 + q) (by omega), wo (500 + p) (by omega), wo (200 + p) (by omega)]
        exact hG.od p q p0 p1 p2 p3 p4
    have hsub : Sub W (v_u W (800 + x) 9) := fun p p0 p1 p2 => ⟨by rw [w9]; exact p1, fun c2 hc => wo _ (by
      have : ¬ p = x := by rintro rfl; exact p2 o.2.2
      unfold v_col at hc; omega)⟩
    refine ⟨a0, cx_keep (by omega) a0 (by rw [g1 4 (by omega)]; exact a1) (by rw [g1 4 (by omega)]; exact a4) b2 (by rw [g1 6 (by omega)]; exact b3) b4 b5 hS3 hG3 hD3 ?_⟩
    intro I4 e0 e1 e2
    refine h3 I4 P3 (f1.tr (fun a ha => ?_)) (f2.tr (fun a x y => g1 a (by omega))) (h.now (fun a ha hb => ?_) g1 ⟨_, _, _, hS3.tr (fun a x y => e0 a (by omega)) (fun _ _ _ _ _ => rfl)⟩ (fun a x y => ?_) (fun i i0 i1 => wo _ (by omega)) ⟨hG3, fun p p0 p1 p2 => ?_, by rw [wo 0 (by omega)]; exact hV.2.2⟩ hsub ?_)
    · rw [e0 a (by omega), am_u2_ne (by omega), am_u2_ne (by omega)]
    · rw [e0 a hb, am_u2_ne (by omega), am_u2_ne (by omega)]
    · rw [e0 a (by omega), am_u2_o (by omega), am_u2_o (by omega), am_u2_o (by omega), am_u2_o (by omega)]
      exact (hB 20 sN.now).2.2.1 a x y
    · rw [w9] at p1
      have np : ¬ p = x := by rintro rfl; rw [ws] at p2; omega
      rw [wo _ (by omega)] at p2
      rw [wo _ (by omega), wo 5 (by omega)]
      exact hV.2.1 p p0 p1 p2
    · refine RC.mv (I := am_u2 (am_u2 I2 (π j) 3 9) 20 6 (m - 1)) (π := v_rot π j m) (W0 := W) (L0 := L) (π0 := π) (m0 := m) ?_ hS2.b hS3.b hsub w9 ?_ e1 e2
      · intro p k p0 p1 p2 k0 k1
        rw [am_u2_ne (by omega), am_u2_ne (by omega)]
        exact hRC p k p0 p1 p2 k0 k1
      · obtain ⟨q1, q2, q3, q4⟩ := hD3
        refine ⟨q1, q2, fun i i0 i1 => ?_, q4⟩
        obtain ⟨r1, r2⟩ := q3 i i0 i1
        have bi := hS3.i.bd (j := i) (by omega) (by omega)
        exact ⟨r1.cg (fun k _ => by rw [e0 _ (by omega)]) ⟨rfl, rfl, rfl, rfl, rfl, rfl, rfl, rfl, rfl, rfl⟩, r2⟩
  · intro hno
    simp only [Decidable.not_not] at q
    refine ⟨fun r => absurd r (by decide), fun _ => h2 q (fun r => ?_)⟩
    obtain ⟨j, j0, j1, j2⟩ := hS.b.ex q.1 q.2 r
    exact hno j j0 j1 j2
theorem cx_undo (hd : 6 ≤ d) (h : GI K N I P z W S c T n) (h1 : c = 0 → X 2 K N I P z) (h2 : ¬ c = 0 → ∀ I' P', GF I I' → GP P P' → GI K N I' P' z (S (c - 1)) S (c - 1) T n → Q (am_i (c - 1)) K N I' P' z) : am_C d m_X7_undo [am_r 4] K N I P z Q X := by
  obtain ⟨σ, dr, hA, hB, hC, ⟨⟨⟨m, L, π, hS, hR⟩, hV, hRC⟩, d4, d5⟩⟩ := id h; obtain ⟨⟨a0, a1, a2, a3, a4, a5, a6⟩, ⟨b0, b1, b2, b3, b4, b5, b6, b7, b8, b9⟩, -⟩ := id hA; have hG := hV.1; have k20 := hS.k.1; have hm2 := hS.m2; have tm := hS.ob
  have hc := hC.2.1
  have e3 := hC.1
  refine wf_X7_undo hd ⟨a0, fun q => ?_, fun q => h1 (by omega)⟩
  rintro I2 rfl
  rw [e3, am_wE (by omega) (by omega)]
  have h2 := h2 (by omega)
  obtain ⟨g1, g2, g3⟩ := hA.2.2.1 (c - 1) (by omega) (by omega)
  have gb := g2.b
  obtain ⟨⟨m2, L2, π2, hS2, hR2⟩, u2, u3, u4⟩ := d4 (c - 1) (by omega) (by omega)
  obtain ⟨x1, x2, x3, ⟨π3, x4⟩, r0, x5, x6⟩ := hB 20 sN.now
  obtain ⟨y1, y2, y3, y4, r, y5, y6⟩ := hB _ g2
  have e43 : am_u2 I 4 3 (c - 1) 4 3 = c - 1 := am_u2_s
  rw [e43]
  refine ⟨20, a1, 5, a3, b0, by omega, σ (c - 1), g1, x1.1, ?_⟩
  have hS2' : ST K N (am_u2 I 4 3 (c - 1)) P (σ (c - 1)) (S (c - 1)) m2 L2 π2 := hS2.tr (fun a x y => am_u2_ne (by omega)) (fun _ _ _ _ _ => rfl)
  refine cs_copy (s := 20) (by omega) x1 x2 x4 hS2' (fun a x y => by rw [am_u2_ne (by omega)]; exact y3 a x y) (by unfold sN at g2; omega) y5 ?_
  rintro I3 P3 f1 rfl f3 f4
  have pe : ∀ a, ¬ a = 20 → am_p2 P 20 4 (some r) a = P a := fun a ha => am_p2_ne ha
  have ie : ∀ a, ¬ (20 ≤ a ∧ a < 53) → ¬ a = 4 → I3 a = I a := fun a h1 h2 => by rw [f1 a h1, am_u2_ne h2]
  have far : ∀ a, (10 ≤ a ∧ a < 20) ∨ 564 ≤ a → I3 a = I a ∧ am_p2 P 20 4 (some r) a = P a := fun a ha => ⟨ie a (by omega) (by omega), pe a (by omega)⟩
  have e43' : I3 4 3 = c - 1 := by rw [f1 4 (by omega), am_u2_s]
  rw [e43']
  have sv : SD K N I3 (am_p2 P 20 4 (some r)) (σ (c - 1)) (S (c - 1)) := SD.tr ⟨m2, L2, π2, hS2, hR2⟩ gb (fun a x y => ie a (by omega) (by omega)) (fun a x y => pe a (by omega)) far
  have rr : RR K N I3 (am_p2 P 20 4 (some r)) 20 (S (c - 1)) := by
    obtain ⟨_, _, _, _, hR3⟩ := sv
    obtain ⟨r', T0, nd, e, q1, q2, q3, q4, q5, q6, q7⟩ := hR3
    rw [pe _ (by omega), y5] at q1
    cases q1
    refine ⟨r, T0, nd, e, ?_, q2, q3, q4, q5, q6, q7⟩
    unfold am_p2
    rw [if_pos ⟨rfl, rfl⟩]
  have rc : ∀ V, RC I V → RC I3 V := fun V hv p k x1 x2 x3 x4 x5 => by rw [ie 7 (by omega) (by omega)]; exact hv p k x1 x2 x3 x4 x5
  refine ⟨a0, h2 I3 _ (fun a ha => ie a (by omega) (by omega)) (fun a x y => pe a (by omega)) ⟨σ, dr, hA.p (fun a ha => pe a (by omega)), ?_, ?_, ⟨⟨m2, L2, π3, f4, rr⟩, u2, rc _ u3⟩, fun j j0 j1 => ?_, fun i j i0 i1 j1 => d5 i j i0 i1 (by omega)⟩⟩
  · refine hB.one sN.now (fun a x y e => ⟨ie a e (by omega), pe a (by omega)⟩) ⟨x1, f4.p, f3, ⟨π3, f4.i⟩, r, ?_, y6⟩
    unfold am_p2
    rw [if_pos ⟨rfl, rfl⟩]
  · obtain ⟨_, q2, q3, q4, q5⟩ := hC
    exact ⟨e43', by omega, by rw [ie 8 (by omega) (by omega)]; exact q3, q4, fun k x y => by rw [ie 9 (by omega) (by omega)]; exact q5 k x y⟩
  · obtain ⟨e1, e2, e4, e5⟩ := d4 j j0 (by omega)
    have gj := hA.2.2.1 j j0 (by omega)
    have bj := gj.2.1.b
    exact ⟨e1.tr bj (fun a x y => ie a (by omega) (by omega)) (fun a x y => pe a (by omega)) far, e2, rc _ e4, d5 j (c - 1) j0 j1 (by omega)⟩
end
