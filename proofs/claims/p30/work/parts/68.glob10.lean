section
variable {d : Nat} {K N : Nat → Nat} {I I' : Nat → Nat → Int} {P P' : Nat → Nat → Option Nat} {z : Nat} {Q : am_V → am_T} {X : Nat → am_T} {W W' V W0 L0 : Int → Int} {S : Int → Int → Int} {c : Int} {T : Int → Int} {n : Int} {s s2 dr : Nat} {m m0 : Int} {L : Int → Int} {π π0 : Int → Nat}
theorem GI.tri (h : GI K N I P z W S c T n) (hI : ∀ a, ¬ (53 ≤ a ∧ a < 86) → I' a = I a) (hP : ∀ a, ¬ (53 ≤ a ∧ a < 86) → P' a = P a) (hS : ST K N I' P' 53 V m L π) (hB : SBo I' 53) (hr : P' 53 4 = P 53 4 ∨ P' 53 4 = P 20 4) : GI K N I' P' z W S c T n := by
  obtain ⟨σ, dr, hA, hB0, hC, ⟨⟨d1, d2, d3⟩, d4, d5⟩⟩ := h
  have far : ∀ a, (10 ≤ a ∧ a < 20) ∨ 564 ≤ a → I' a = I a ∧ P' a = P a := fun a ha => ⟨hI a (by omega), hP a (by omega)⟩
  obtain ⟨_, _, _, _, r1, u1, u2⟩ := hB0 20 sN.now
  obtain ⟨_, _, _, _, r2, v1, v2⟩ := hB0 53 sN.tri
  have rc : ∀ V, RC I V → RC I' V := fun V hv p k x1 x2 x3 x4 x5 => by rw [hI 7 (by omega)]; exact hv p k x1 x2 x3 x4 x5
  refine ⟨σ, dr, hA.p (fun a ha => hP a (by omega)), hB0.one sN.tri (fun a x y e => ⟨hI a e, hP a e⟩) ⟨hS.k, hS.p, hB, ⟨π, hS.i⟩, ?_⟩, hC.i (hI 4 (by omega)) (hI 8 (by omega)) (hI 9 (by omega)), ⟨d1.tr (by omega) (fun a x y => hI a (by omega)) (fun a x y => hP a (by omega)) far, d2, rc _ d3⟩, fun j j0 j1 => ?_, d5⟩
  · rcases hr with q | q
    · exact ⟨r2, by rw [q]; exact v1, v2⟩
    · exact ⟨r1, by rw [q]; exact u1, u2⟩
  · obtain ⟨e1, e2, e3, e4⟩ := d4 j j0 j1
    have hs := hA.2.2.1 j j0 (by have := hC.2.1; omega)
    have b := hs.2.1.b
    exact ⟨e1.tr b (fun a x y => hI a (by omega)) (fun a x y => hP a (by omega)) far, e2, rc _ e3, e4⟩
theorem GI.sb (h : GI K N I P z W S c T n) : SBo I 53 := by
  obtain ⟨σ, dr, hA, hB, hC, hD⟩ := h
  exact (hB 53 sN.tri).2.2.1
theorem cx_trial (hd : 6 ≤ d) (h : GI K N I P z W S c T n) (hq : ∀ I' P' m L π, GF I I' → GP P P' → GI K N I' P' z W S c T n → SM K N I' P' 53 W m L π m W L π → I' 53 10 = 0 → (∀ a, ¬ (53 ≤ a ∧ a < 86) → I' a = I a ∧ P' a = P a) → Q am_nl K N I' P' z) : am_C d m_X7_startTrial [am_r 4] K N I P z Q am_nx := by
  obtain ⟨σ, dr, hA, hB, hC, ⟨⟨⟨m, L, π, hS, hR⟩, hV, hRC⟩, d4, d5⟩⟩ := id h; obtain ⟨⟨a0, a1, a2, a3, a4, a5, a6⟩, ⟨b0, b1, b2, b3, b4, b5, b6, b7, b8, b9⟩, -⟩ := id hA; have hG := hV.1; have k20 := hS.k.1; have hm2 := hS.m2; have tm := hS.ob
  obtain ⟨x1, x2, x3, ⟨π3, x4⟩, r0, x5, x6⟩ := hB 53 sN.tri
  obtain ⟨y1, y2, y3, y4, r, y5, y6⟩ := hB 20 sN.now
  refine wf_X7_startTrial (by omega) ⟨a0, 53, a2, 20, a1, x1.1, ?_⟩
  refine cs_copy (s := 53) (by omega) x1 x2 x4 hS y3 (by omega) y5 ?_
  rintro I2 P2 f1 hP2 f3 f4
  have pe : ∀ a, ¬ a = 53 → P2 a = P a := fun a ha => by rw [hP2]; exact am_p2_ne ha
  have p53 : P2 53 4 = some r := by rw [hP2]; unfold am_p2; rw [if_pos ⟨rfl, rfl⟩]
  have rr : RR K N I2 P2 53 W := by
    obtain ⟨r', T0, nd, e, q1, q2, q3, q4, q5, q6, q7⟩ := hR.fr (I' := I2) (P' := P2) (W' := W) (fun a ha => ⟨f1 a (by omega), pe a (by omega)⟩) (by rw [pe 20 (by omega)]) (fun _ _ _ => rfl)
    rw [pe 20 (by omega), y5] at q1
    cases q1
    exact ⟨r, T0, nd, e, p53, q2, q3, q4, q5, q6, q7⟩
  refine ⟨a0, 53, by rw [pe 4 (by omega)]; exact a2, x1.1, cs_aim (by omega) (by omega) f4 rr hG ?_⟩
  intro I3 g1 g2 g3 g4
  have ie : ∀ a, ¬ (53 ≤ a ∧ a < 86) → I3 a = I a := fun a ha => by rw [g1.1 a ha]; exact f1 a ha
  exact hq I3 P2 m L π3 (fun a ha => ie a (by omega)) (fun a x y => pe a (by omega)) (h.tri ie (fun a ha => pe a (by omega)) g2 (f3.f g1) (Or.inr (by rw [p53, y5]))) ⟨g2, g3, DP.rf g2, fun _ _ _ e => e⟩ g4 (fun a ha => ⟨ie a ha, pe a (by omega)⟩)
theorem v_it_stay (hG : v_G W) (hF : v_F W) {x : Int} (x0 : 0 ≤ x) (x1 : x < W 9) {k : Nat} (hk : ¬ (v_it k W) (800 + x) = 0) : ∀ j : Nat, (v_it (j + k) W) (800 + x) = (v_it k W) (800 + x)
  | 0 => by rw [Nat.zero_add]
  | j + 1 => by
    have ih := v_it_stay hG hF x0 x1 hk j
    obtain ⟨i1, i2, i3, i4⟩ := v_it_G hG hF (j + k)
    have := ((v_go_on i1 i2 x0 (by rw [i3.n9]; exact x1)).2 (by rw [ih]; exact hk)).1
    rw [show j + 1 + k = (j + k) + 1 by omega]
    show v_go (v_it (j + k) W) (800 + x) = _
    rw [this, ih]
theorem v_it_fate (hG : v_G W) (hF : v_F W) {x : Int} (x0 : 0 ≤ x) (x1 : x < W 9) {k l : Nat} (hk : ¬ (v_it k W) (800 + x) = 0) (hl : ¬ (v_it l W) (800 + x) = 0) : (v_it k W) (800 + x) = (v_it l W) (800 + x) := by
  rcases (show k ≤ l ∨ l ≤ k by omega) with q | q
  · have := v_it_stay hG hF x0 x1 hk (l - k)
    rw [show l - k + k = l by omega] at this
    exact this.symm
  · have := v_it_stay hG hF x0 x1 hl (k - l)
    rw [show k - l + l = k by omega] at this
    exact this
theorem cx_fateOf (hd : 7 ≤ d) (h : GI K N I P z W S c T n) {x : Int} (h1 : ¬ (0 ≤ x ∧ x < W 9) → X 0 K N I P z) (h2 : 0 ≤ x ∧ x < W 9 → ∀ k : Nat, ¬ (v_it k W) (800 + x) = 0 → ∀ I' P', GF I I' → GP P P' → GI K N I' P' z W S c T n → Q (am_i ((v_it k W) (800 + x))) K N I' P' z) : am_C d m_X7_fateOf [am_r 4, am_i x] K N I P z Q X := by
  obtain ⟨σ, dr, hA, hB, hC, hD⟩ := id h
  have a0 := hA.1.1
  have a2 := hA.1.2.2.1
  have hV := hD.1.2.1
  have hG := hV.1
  have g9 := hG.n9
  have g5 := hG.s5
  have g0 := hG.d0
  refine wf_X7_fateOf (by omega) ⟨a0, cx_has h ?_⟩
  simp only [am_iv, ite_z]
  refine ⟨fun q => ⟨a0, cx_trial (by omega) h ?_⟩, fun q => h1 q⟩
  simp only [Decidable.not_not] at q
  have h2 := h2 q
  intro I2 P2 m L π f1 f2 h' hM f3 f4
  have hS := hM.1
  have k53 := hS.k.1
  have t3 : P2 53 5 = some 59 := hS.p.2.2.2.1
  have s10 : K 59 = 12 := hS.k.2.2.2.2.2.2.2.2.2.2.1
  have s11 : N 59 = 20 := hS.k.2.2.2.2.2.2.2.2.2.2.2.1
  have hm2 := hS.m2
  have p41 : P2 4 1 = some 53 := by rw [(f4 4 (by omega)).2]; exact a2
  refine ⟨a0, 53, p41, k53, cs_placeOf hS ?_ ?_⟩
  · intro j j0 j1 j2
    refine ⟨fun _ => ⟨a0, 53, p41, k53, 59, t3, s10, by omega, π j, hS.i.pl j0 (by omega), ?_⟩, fun r => absurd r (by omega)⟩
    have kp := hS.kp j0 (show j < 20 by omega)
    have key : ∀ (r k : Nat) (rd : Int) (I' : Nat → Nat → Int) (P' : Nat → Nat → Option Nat) (m' : Int) (L' : Int → Int) (π' : Int → Nat), rd + r = 6000 → 0 ≤ rd → rd ≤ k → rd ≤ 5000 → SF 53 I2 I' → (∀ b, ¬ b = 59 → P' b = P2 b) → SM K N I' P' 53 (v_it k W) m' L' π' m W L π → (I' 53 10 = 0 ∨ v_SV (v_it k W)) → L_X7_fateOf_56 d 4 (π j) rd K N I' P' z Q X := by
      intro r
      induction r with
      | zero => intro k rd I' P' m' L' π' hr r0 r1 r2; omega
      | succ r ih =>
        intro k rd I' P' m' L' π' hr r0 r1 r2 g1 g2 hM' hf
        obtain ⟨i1, i2, i3, i4⟩ := v_it_G hG hV.2.1 k
        have hw := v_it_on hG hV.2.1 q.1 q.2 k
        obtain ⟨j', j0', j1', e1, e2⟩ := hM'.2.2.1.2.2.2 j j0 j1
        have hpc : PC I' (π j) (v_it k W) x := by
          rw [← e2, ← j2, ← e1]
          rcases (show j' < m' ∨ m' ≤ j' by omega) with t | t
          · exact hM'.1.t j' j0' t
          · exact (hM'.2.2.1.2.2.1 j' t j1').1
        have e3 := hpc.2.2.2.1
        refine wf_X7_fateOf_56 (by omega) ⟨fun t => absurd t (by omega), fun _ => ⟨kp, fun t => ?_, fun t => ⟨a0, 53, by rw [g2 4 (by omega)]; exact p41, k53, ?_⟩⟩⟩
        · rw [e3] at t ⊢
          exact h2 k t I' P' (f1.tr (fun a ha => g1.1 a (by omega))) (f2.tr (fun a x y => g2 a (by omega))) (h'.tri (fun a ha => g1.1 a ha) (fun a ha => g2 a (by omega)) hM'.1 (h'.sb.f g1) (Or.inl (by rw [g2 53 (by omega)])))
        · rw [e3] at t
          have o := hw t
          have fr := i2 x q.1 (by rw [i3.n9]; exact q.2) t
          have gp := hG.pt x q.1 q.2
          have g5' := i1.s5
          refine cs_stride (by omega) hM' i1 i2 (by have := hV.2.2; omega) (by omega) (by omega) hf ?_
          intro q1 I4 P4 m4 L4 π4 hq hit e4 e5 hM4 hf4
          simp only [am_iv]
          rw [am_wE (x := rd + 1) (by omega) (by omega)]
          have ew : v_it (q1 + 1) (v_it k W) = v_it (q1 + 1 + k) W := (v_it_add k (q1 + 1)).symm
          rw [ew] at hM4 hf4
          exact ih (q1 + 1 + k) (rd + 1) I4 P4 m4 L4 π4 (by omega) (by omega) (by omega) (by omega) (g1.tr e4) (fun b hb => (e5 b hb).trans (g2 b hb)) hM4 hf4
    exact key 6000 0 0 I2 P2 m L π (by omega) (by omega) (by omega) (by omega) SF.rf (fun _ _ => rfl) hM (Or.inl f3)
  · intro hno
    have off : ¬ W (800 + x) = 0 := by
      intro r
      obtain ⟨j, j0, j1, j2⟩ := hS.b.ex q.1 q.2 r
      exact hno j j0 j1 j2
    exact ⟨fun r => absurd r (by decide), fun _ => ⟨a0, cx_pp (by omega) h' q.1 q.2 (by omega) (by omega) (h2 0 off I2 P2 f1 f2 h')⟩⟩
/-- the same parts are on the belt: the last one is the same -/
theorem v_la_cg (h9 : W' 9 = W 9) (h0 : 0 ≤ W 9) (h8 : ∀ p, 0 ≤ p → p < W 9 → W' (800 + p) = W (800 + p)) : v_la W' = v_la W := by
  show v_prev (v_on W') (W' 9).toNat = v_prev (v_on W) (W 9).toNat
  rw [h9]
  exact v_prev_cg _ (fun p a b => by simp only [v_on, h8 p a (by omega)])
theorem v_ob_cg (h9 : W' 9 = W 9) (h0 : 0 ≤ W 9) (h8 : ∀ p, 0 ≤ p → p < W 9 → W' (800 + p) = W (800 + p)) : v_ob W' = v_ob W := by
  show v_cnt (v_on W') (W' 9).toNat = v_cnt (v_on W) (W 9).toNat
  rw [h9]
  exact v_cnt_cg _ (fun p a b => by simp only [v_on, h8 p a (by omega)])
theorem cx_nextLeaving (hd : 7 ≤ d) (h : GI K N I P z W S c T n) (h1 : v_ob W = 0 → Q (am_i (-1)) K N I P z) (h2 : ¬ v_ob W = 0 → ∀ k : Nat, (∀ j : Nat, j < k → v_ob (v_it j W) = v_ob W) → ¬ v_ob (v_it k W) = v_ob W → ∀ I' P', GF I I' → GP P P' → GI K N I' P' z W S c T n → Q (am_i k) K N I' P' z) : am_C d m_X7_nextLeaving [am_r 4] K N I P z Q am_nx := by
  obtain ⟨σ, dr, hA, hB, hC, ⟨⟨⟨m, L, π, hS, hR⟩, hV, hRC⟩, d4, d5⟩⟩ := id h; obtain ⟨⟨a0, a1, a2, a3, a4, a5, a6⟩, ⟨b0, b1, b2, b3, b4, b5, b6, b7, b8, b9⟩, -⟩ := id hA; have hG := hV.1; have k20 := hS.k.1; have hm2 := hS.m2; have tm := hS.ob
  have g9 := hG.n9
  have g0 := hG.d0
  have ob0 := hS.b.ob (by omega)
  refine wf_X7_nextLeaving (by omega) ⟨a0, 20, a1, k20, fun q => cx_trial (by omega) h ?_, fun q => h1 (by omega)⟩
  have h2 := h2 (by omega)
  rw [tm]
  intro I2 P2 m2 L2 π2 f1 f2 h' hM f3 f4
  have em : m2 = m := by rw [← hM.1.b.ob (by omega), ob0]
  subst em
  have k53 := hM.1.k.1
  have p41 : P2 4 1 = some 53 := by rw [(f4 4 (by omega)).2]; exact a2
  have mpos : 0 < m2 := by omega
  -- somebody is on the belt: he leaves it in time
  have o := hM.1.b.on (j := 0) (by omega) mpos
  have gp := hG.pt _ o.1 o.2.1
  have short : ∀ k : Nat, v_ob (v_it k W) = v_ob W → (k : Int) < 5000 := by
    intro k hk
    obtain ⟨i1, i2, i3, i4⟩ := v_it_G hG hV.2.1 k
    have hc : v_cnt (v_on (v_it k W)) (W 9).toNat = v_cnt (v_on W) (W 9).toNat := by
      have : v_cnt (v_on (v_it k W)) ((v_it k W) 9).toNat = v_cnt (v_on W) (W 9).toNat := hk
      rw [i3.n9] at this
      exact this
    have t := of_decide_eq_true ((v_cnt_le (f := v_on W) (g := v_on (v_it k W)) (W 9).toNat (fun p a b => v_it_off hG hV.2.1 k a (by omega))).2 hc (L2 0) o.1 (by omega) (decide_eq_true o.2.2))
    have a1 := v_it_on hG hV.2.1 o.1 o.2.1 k t
    have a2 := i2 (L2 0) o.1 (by rw [i3.n9]; exact o.2.1) t
    have a3 := i1.s5
    omega
  have key : ∀ (r k : Nat) (rd : Int) (I' : Nat → Nat → Int) (P' : Nat → Nat → Option Nat) (m' : Int) (L' : Int → Int) (π' : Int → Nat), rd + r = 6000 → 0 ≤ rd → rd ≤ k → rd ≤ 5000 → (∀ j : Nat, j < k → v_ob (v_it j W) = v_ob W) → SF 53 I2 I' → (∀ b, ¬ b = 59 → P' b = P2 b) → SM K N I' P' 53 (v_it k W) m' L' π' m2 W L2 π2 → (I' 53 10 = 0 ∨ v_SV (v_it k W)) → (k : Int) ≤ 2000000 → L_X7_nextLeaving_22 d 4 m2 k rd K N I' P' z Q := by
    intro r
    induction r with
    | zero => intro k rd I' P' m' L' π' hr r0 r1 r2; omega
    | succ r ih =>
      intro k rd I' P' m' L' π' hr r0 r1 r2 hpre g1 g2 hM' hf hk2
      obtain ⟨i1, i2, i3, i4⟩ := v_it_G hG hV.2.1 k
      have ob' := hM'.1.b.ob (by rw [i3.n9]; omega)
      have tm' := hM'.1.ob
      refine wf_X7_nextLeaving_22 (by omega) ⟨fun t => absurd t (by omega), fun _ => ⟨a0, 53, by rw [g2 4 (by omega)]; exact p41, k53, fun t => ?_, fun t => ?_⟩⟩
      · exact h2 k hpre (by omega) I' P' (f1.tr (fun a ha => g1.1 a (by omega))) (f2.tr (fun a x y => g2 a (by omega))) (h'.tri (fun a ha => g1.1 a ha) (fun a ha => g2 a (by omega)) hM'.1 (h'.sb.f g1) (Or.inl (by rw [g2 53 (by omega)])))
      · have hob : v_ob (v_it k W) = v_ob W := by omega
        have sh := short k hob
        refine cs_stride (by omega) hM' i1 i2 (by have := hV.2.2; omega) (by omega) (by omega) hf ?_
        intro q1 I4 P4 m4 L4 π4 hq hit e4 e5 hM4 hf4
        simp only [am_iv]
        have ew : v_it (q1 + 1) (v_it k W) = v_it (q1 + 1 + k) W := (v_it_add k (q1 + 1)).symm
        rw [ew] at hM4 hf4
        have pre : ∀ j : Nat, j < q1 + 1 + k → v_ob (v_it j W) = v_ob W := by
          intro j hj
          rcases (show j < k ∨ k ≤ j by omega) with u | u
          · exact hpre j u
          · have e := hit (j - k) (by omega)
            rw [← v_it_add k (j - k), show j - k + k = j by omega] at e
            rw [e, ← hob]
            exact v_ob_cg (v_s1_same (by rw [i3.n9]; omega)).n9 (by rw [i3.n9]; omega) (fun p a b => v_s1_8 a (by rw [i3.n9]; omega))
        have q5 : (q1 : Int) + k < 5000 := by
          have := short (q1 + k) (pre (q1 + k) (by omega))
          omega
        rw [am_wE (x := rd + 1) (by omega) (by omega), am_wE (x := (k : Int) + ((q1 : Int) + 1)) (by omega) (by omega), show (k : Int) + ((q1 : Int) + 1) = ((q1 + 1 + k : Nat) : Int) by omega]
        exact ih (q1 + 1 + k) (rd + 1) I4 P4 m4 L4 π4 (by omega) (by omega) (by omega) (by omega) pre (g1.tr e4) (fun b hb => (e5 b hb).trans (g2 b hb)) hM4 hf4 (by omega)
  exact key 6000 0 0 I2 P2 m2 L2 π2 (by omega) (by omega) (by omega) (by omega) (fun j hj => absurd hj (by omega)) SF.rf (fun _ _ => rfl) hM (Or.inl f3) (by omega)
theorem cx_entryIn (hd : 7 ≤ d) (h : GI K N I P z W S c T n) (h2 : ∀ k : Nat, (∀ j : Nat, j < k → ¬ v_ce (v_it j W)) → v_ce (v_it k W) → ∀ I' P', GF I I' → GP P P' → GI K N I' P' z W S c T n → Q (am_i k) K N I' P' z) : am_C d m_X7_entryIn [am_r 4] K N I P z Q am_nx := by
  obtain ⟨σ, dr, hA, hB, hC, hD⟩ := id h
  have a0 := hA.1.1
  have a2 := hA.1.2.2.1
  have hV := hD.1.2.1
  have hG := hV.1
  have g9 := hG.n9
  have g5 := hG.s5
  have g0 := hG.d0
  refine wf_X7_entryIn (by omega) ⟨a0, cx_trial (by omega) h ?_⟩
  intro I2 P2 m L π f1 f2 h' hM f3 f4
  have k53 := hM.1.k.1
  have p41 : P2 4 1 = some 53 := by rw [(f4 4 (by omega)).2]; exact a2
  have short : ∀ k : Nat, ¬ v_ce (v_it k W) → (k : Int) < 600 := by
    intro k hk
    obtain ⟨i1, i2, i3, i4⟩ := v_it_G hG hV.2.1 k
    have g6 := i1.s6
    rcases (show (k : Int) < 600 ∨ 600 ≤ (k : Int) by omega) with t | t
    · exact t
    · refine (hk ?_).elim
      by_cases e : v_prev (v_on (v_it k W)) (W 9).toNat = -1
      · refine Or.inl ?_
        show v_prev (v_on (v_it k W)) ((v_it k W) 9).toNat = -1
        rw [i3.n9]; exact e
      · refine Or.inr ?_
        show (v_it k W) 6 ≤ v_tl (v_it k W) (v_prev (v_on (v_it k W)) ((v_it k W) 9).toNat)
        have := v_it_lat hG hV.2.1 k e
        rw [i3.n9]
        omega
  have key : ∀ (r k : Nat) (rd : Int) (I' : Nat → Nat → Int) (P' : Nat → Nat → Option Nat) (m' : Int) (L' : Int → Int) (π' : Int → Nat), rd + r = 6000 → 0 ≤ rd → rd ≤ k → rd ≤ 5000 → (∀ j : Nat, j < k → ¬ v_ce (v_it j W)) → SF 53 I2 I' → (∀ b, ¬ b = 59 → P' b = P2 b) → SM K N I' P' 53 (v_it k W) m' L' π' m W L π → (I' 53 10 = 0 ∨ v_SV (v_it k W)) → L_X7_entryIn_8 d 4 k rd K N I' P' z Q := by
    intro r
    induction r with
    | zero => intro k rd I' P' m' L' π' hr r0 r1 r2; omega
    | succ r ih =>
      intro k rd I' P' m' L' π' hr r0 r1 r2 hpre g1 g2 hM' hf
      obtain ⟨i1, i2, i3, i4⟩ := v_it_G hG hV.2.1 k
      have g6 := i1.s6
      have la := hM'.1.b.la (by rw [i3.n9]; omega)
      have hm' := hM'.1.m2
      have lb : m' = 0 ∨ (-400 ≤ v_tl (v_it k W) (L' (m' - 1)) ∧ v_tl (v_it k W) (L' (m' - 1)) ≤ 5000) := by
        by_cases e : m' = 0
        · exact Or.inl e
        · have o := hM'.1.b.on (j := m' - 1) (by omega) (by omega)
          have gp := i1.pt _ o.1 o.2.1
          right
          simp only [v_tl]; omega
      refine wf_X7_entryIn_8 (by omega) ⟨fun t => absurd t (by omega), fun _ => ⟨a0, 53, by rw [g2 4 (by omega)]; exact p41, k53, 54, hM'.1.p.1, hM'.1.k.2.1, by rw [hM'.1.k.2.2.1]; omega, cs_free (by omega) hM'.1 i1 ?_⟩⟩
      simp only [am_iv]
      rw [hM'.1.c.st5]
      obtain ⟨fr, hfr⟩ : ∃ fr, fr = (if m' = 0 then (1000000 : Int) else v_tl (v_it k W) (L' (m' - 1))) := ⟨_, rfl⟩
      rw [← hfr]
      have fb : -400 ≤ fr ∧ fr ≤ 1000000 := by
        rw [hfr]
        split
        · omega
        · rcases lb with e | e
          · omega
          · omega
      have ce : v_ce (v_it k W) ↔ (v_it k W) 6 ≤ fr := by
        have e : v_ce (v_it k W) ↔ (v_la (v_it k W) = -1 ∨ (v_it k W) 6 ≤ v_tl (v_it k W) (v_la (v_it k W))) := Iff.rfl
        rw [e, la, hfr]
        by_cases e : m' = 0
        · rw [if_pos e, if_pos e]
          exact ⟨fun _ => by omega, fun _ => Or.inl rfl⟩
        · have o := hM'.1.b.on (j := m' - 1) (by omega) (by omega)
          rw [if_neg e, if_neg e]
          exact ⟨fun t => by rcases t with t | t; omega; exact t, fun t => Or.inr t⟩
      rw [am_wE (x := (v_it k W) 6 - fr) (by omega) (by omega)]
      refine ⟨fun t => ⟨a0, 53, by rw [g2 4 (by omega)]; exact p41, k53, ?_⟩, fun t => ?_⟩
      · have nce : ¬ v_ce (v_it k W) := fun u => absurd (ce.mp u) (by omega)
        have sh := short k nce
        have mz : ¬ m' = 0 := by
          intro e
          rw [if_pos e] at hfr
          omega
        refine cs_stride (by omega) hM' i1 i2 (by have := hV.2.2; omega) (by omega) (by omega) hf ?_
        intro q1 I4 P4 m4 L4 π4 hq hit e4 e5 hM4 hf4
        simp only [am_iv]
        have ew : v_it (q1 + 1) (v_it k W) = v_it (q1 + 1 + k) W := (v_it_add k (q1 + 1)).symm
        rw [ew] at hM4 hf4
        have pre : ∀ j : Nat, j < q1 + 1 + k → ¬ v_ce (v_it j W) := by
          intro j hj
          rcases (show j < k ∨ k ≤ j by omega) with u | u
          · exact hpre j u
          · have e := hit (j - k) (by omega)
            rw [← v_it_add k (j - k), show j - k + k = j by omega] at e
            rw [e]
            have l2 : v_la (v_s1 (v_it k W) ((j - k : Nat) : Int) ((v_it k W) 9)) = v_la (v_it k W) := v_la_cg (v_s1_same (by rw [i3.n9]; omega)).n9 (by rw [i3.n9]; omega) (fun p a b => v_s1_8 a (by rw [i3.n9]; omega))
            have o := hM'.1.b.on (j := m' - 1) (by omega) (by omega)
            intro hce
            have hce2 : v_la (v_s1 (v_it k W) ((j - k : Nat) : Int) ((v_it k W) 9)) = -1 ∨ (v_s1 (v_it k W) ((j - k : Nat) : Int) ((v_it k W) 9)) 6 ≤ v_tl (v_s1 (v_it k W) ((j - k : Nat) : Int) ((v_it k W) 9)) (v_la (v_s1 (v_it k W) ((j - k : Nat) : Int) ((v_it k W) 9))) := hce
            rw [l2, la, if_neg mz] at hce2
            rcases hce2 with v | v
            · omega
            · have e9 := i3.n9
              simp only [v_tl] at v
              rw [v_s1_o (i := 6) (by rw [i3.n9]; omega) (by omega) (by omega), v_s1_o (i := 200 + L' (m' - 1)) (by rw [i3.n9]; omega) (by omega) (by omega), v_s1_5 o.1, if_pos ⟨o.2.1, o.2.2⟩] at v
              rw [if_neg mz] at hfr
              simp only [v_tl] at hfr
              omega
        rw [am_wE (x := rd + 1) (by omega) (by omega), am_wE (x := (k : Int) + ((q1 : Int) + 1)) (by omega) (by omega), show (k : Int) + ((q1 : Int) + 1) = ((q1 + 1 + k : Nat) : Int) by omega]
        exact ih (q1 + 1 + k) (rd + 1) I4 P4 m4 L4 π4 (by omega) (by omega) (by omega) (by omega) pre (g1.tr e4) (fun b hb => (e5 b hb).trans (g2 b hb)) hM4 hf4
      · exact h2 k hpre (ce.mpr (by omega)) I' P' (f1.tr (fun a ha => g1.1 a (by omega))) (f2.tr (fun a x y => g2 a (by omega))) (h'.tri (fun a ha => g1.1 a ha) (fun a ha => g2 a (by omega)) hM'.1 (h'.sb.f g1) (Or.inl (by rw [g2 53 (by omega)])))
  exact key 6000 0 0 I2 P2 m L π (by omega) (by omega) (by omega) (by omega) (fun j hj => absurd hj (by omega)) SF.rf (fun _ _ => rfl) hM (Or.inl f3)
end
