/-- a State while its belt moves -/
def SM (K N : Nat → Nat) (I : Nat → Nat → Int) (P : Nat → Nat → Option Nat) (s : Nat) (W : Int → Int) (m : Int) (L : Int → Int) (π : Int → Nat) (m0 : Int) (W0 L0 : Int → Int) (π0 : Int → Nat) : Prop := ST K N I P s W m L π ∧ SA I W m L π ∧ DP I W m m0 L π W0 L0 π0 ∧ (∀ p, 0 ≤ p → p < W 9 → W (800 + p) = 0 → W0 (800 + p) = 0)
theorem SC.dist {I I' : Nat → Nat → Int} {s : Nat} {W W' : Int → Int} (h : SC I s W) (hI : ∀ a k, s ≤ a → a < s + 13 → ¬ (a = s ∧ (k = 6 ∨ k = 8 ∨ 10 ≤ k)) → I' a k = I a k) (h8 : I' s 8 = W' 0) (hW : ∀ i : Int, 0 < i → i < 106 → W' i = W i) : SC I' s W' := by
  obtain ⟨c0, c1, c2, c3, c4, c5, c6, c7⟩ := h
  refine ⟨fun k a b => ?_, ?_, fun i k a b e f => ?_, ?_, fun k a b => ⟨?_, ?_⟩, ?_, h8, ?_⟩
  · rw [hI _ _ (by omega) (by omega) (by omega), hW _ (by omega) (by omega)]; exact c0 k a b
  · rw [hI _ _ (by omega) (by omega) (by omega), hW _ (by omega) (by omega)]; exact c1
  · rw [hI _ _ (by omega) (by omega) (by omega), hW _ (by omega) (by omega)]; exact c2 i k a b e f
  · rw [hI _ _ (by omega) (by omega) (by omega), hW _ (by omega) (by omega)]; exact c3
  · rw [hI _ _ (by omega) (by omega) (by omega), hW _ (by omega) (by omega)]; exact (c4 k a b).1
  · rw [hI _ _ (by omega) (by omega) (by omega), hW _ (by omega) (by omega)]; exact (c4 k a b).2
  · rw [hI _ _ (by omega) (by omega) (by omega), hW _ (by omega) (by omega)]; exact c5
  · rw [hI _ _ (by omega) (by omega) (by omega), hW _ (by omega) (by omega)]; exact c7
theorem SC.lane {I I' : Nat → Nat → Int} {s : Nat} {W W' : Int → Int} {l : Int} (h : SC I s W) (l0 : 0 ≤ l) (l1 : l < 6) (hI : ∀ a k, s ≤ a → a < s + 13 → ¬ (a = s + 7 + l.toNat ∧ k < 5) → ¬ (a = s ∧ (k = 6 ∨ 10 ≤ k)) → I' a k = I a k) (hl : ∀ k : Int, 0 ≤ k → k < 5 → I' (s + 7 + l.toNat) k.toNat = W' (16 + 6 * k + l)) (hW : ∀ i : Int, 0 ≤ i → i < 106 → ¬ (i = 16 + l ∨ i = 22 + l ∨ i = 28 + l ∨ i = 34 + l ∨ i = 40 + l) → W' i = W i) : SC I' s W' := by
  obtain ⟨c0, c1, c2, c3, c4, c5, c6, c7⟩ := h
  refine ⟨fun k a b => ?_, ?_, fun i k a b e f => ?_, ?_, fun k a b => ⟨?_, ?_⟩, ?_, ?_, ?_⟩
  · rw [hI _ _ (by omega) (by omega) (by omega) (by omega), hW _ (by omega) (by omega) (by omega)]; exact c0 k a b
  · rw [hI _ _ (by omega) (by omega) (by omega) (by omega), hW _ (by omega) (by omega) (by omega)]; exact c1
  · by_cases q : i = l
    · subst q; exact hl k e f
    · rw [hI _ _ (by omega) (by omega) (by omega) (by omega), hW _ (by omega) (by omega) (by omega)]; exact c2 i k a b e f
  · rw [hI _ _ (by omega) (by omega) (by omega) (by omega), hW _ (by omega) (by omega) (by omega)]; exact c3
  · rw [hI _ _ (by omega) (by omega) (by omega) (by omega), hW _ (by omega) (by omega) (by omega)]; exact (c4 k a b).1
  · rw [hI _ _ (by omega) (by omega) (by omega) (by omega), hW _ (by omega) (by omega) (by omega)]; exact (c4 k a b).2
  · rw [hI _ _ (by omega) (by omega) (by omega) (by omega), hW _ (by omega) (by omega) (by omega)]; exact c5
  · rw [hI _ _ (by omega) (by omega) (by omega) (by omega), hW _ (by omega) (by omega) (by omega)]; exact c6
  · rw [hI _ _ (by omega) (by omega) (by omega) (by omega), hW _ (by omega) (by omega) (by omega)]; exact c7
theorem v_s1_o {W : Int → Int} {k n i : Int} (hn : n ≤ 300) (h0 : ¬ i = 0) (h : ¬ (500 ≤ i ∧ i < 800)) : v_s1 W k n i = W i := by unfold v_s1; rw [if_neg h0, if_neg (by omega)]
section
variable {d : Nat} {K N : Nat → Nat} {I I' : Nat → Nat → Int} {P P' : Nat → Nat → Option Nat} {z : Nat} {Q : am_V → am_T} {W W' W0 L0 : Int → Int} {s : Nat} {m m0 : Int} {L : Int → Int} {π π0 : Int → Nat}
theorem cs_advance (hM : SM K N I P s W m L π m0 W0 L0 π0) (hG : v_G W) {x : Int} (x0 : 0 ≤ x) (hx : ∀ p, 0 ≤ p → p < W 9 → W (800 + p) = 0 → W (500 + p) + x ≤ 100000) (hx0 : W 0 + x ≤ 2000000) (x1 : x ≤ 2000000) (h : ∀ I', SF s I I' → SM K N I' P s (v_s1 W x (W 9)) m L π m0 W0 L0 π0 → I' s 10 = I s 10 → Q am_nl K N I' P z) : am_C d m_X6_advance [am_r s, am_i x] K N I P z Q am_nx := by
  obtain ⟨hS, hA, hD, hO⟩ := hM
  have g9 := hG.n9
  have g0 := hG.d0
  obtain ⟨s0, s1, s2, s3, s4, s5, s6, s7, s8, s9, s10, s11, s12, s13⟩ := id hS.k; obtain ⟨t0, t1, t2, t3, t4, t5, t6⟩ := id hS.p; have tm := hS.ob; have hm2 := hS.m2
  refine wf_X6_advance ⟨s0, ?_⟩
  rintro I2 rfl
  obtain ⟨_, _, _, _, _, _, c6, _⟩ := hS.c
  rw [c6, am_wE (by omega) (by omega)]
  have key : ∀ (n : Nat) (j : Int) (I' : Nat → Nat → Int), 0 ≤ j → j + n = m → (∀ a k, ¬ (k = 2 ∧ s + 13 ≤ a ∧ a < s + 33) → ¬ (a = s ∧ k = 8) → I' a k = I a k) → I' s 8 = W 0 + x → (∀ i, 0 ≤ i → i < 20 → I' (π i) 2 = if i < j then I (π i) 2 + x else I (π i) 2) → L_X6_advance_12 d s x j K N I' P z Q := by
    intro n
    induction n with
    | zero =>
      intro j I' j0 j1 h1 h2 h3
      have hjm : j = m := by omega
      subst hjm
      have t6 : I' s 6 = I s 6 := h1 s 6 (by omega) (by omega)
      refine wf_X6_advance_12 ⟨s0, fun _ => h I' ⟨fun a ha => funext fun k => h1 a k (by omega) (by omega), fun a b c => ⟨h1 a 5 (by omega) (by omega), h1 a 6 (by omega) (by omega)⟩⟩ ⟨⟨hS.k, hS.p, hS.i, ?_, t6.trans tm, ?_, hm2.2, fun i a b => ?_⟩, fun i a b => ?_, ⟨hD.1, hD.2.1, fun i a b => ?_, hD.2.2.2⟩, fun p a b e => ?_⟩ (h1 s 10 (by omega) (by omega)), fun q => absurd tm (by omega)⟩
      · refine hS.c.dist (fun a k x y e => h1 a k (by omega) (by omega)) ?_ (fun i a b => v_s1_o (by omega) (by omega) (by omega))
        rw [h2]; unfold v_s1; rw [if_pos rfl]
      · exact hS.b.cg (v_s1_o (by omega) (by omega) (by omega)) (fun p a b => v_s1_8 a (by omega))
      · have o := hS.b.on a b
        have bi := hS.i.bd a (show i < 20 by omega)
        obtain ⟨e0, e1, e2, e3, e4, e5, e6, e7, e8, e9, e10⟩ := hS.t i a b
        have f : ∀ k, ¬ k = 2 → I' (π i) k = I (π i) k := fun k hk => h1 _ _ (by omega) (by omega)
        have g : ∀ c : Int, 200 ≤ c → ¬ (500 ≤ c ∧ c < 800) → v_s1 W x (W 9) c = W c := fun c a b => v_s1_o (by omega) (by omega) b
        unfold PC
        rw [f 0 (by omega), f 1 (by omega), f 3 (by omega), f 4 (by omega), f 5 (by omega), f 6 (by omega), f 7 (by omega), f 8 (by omega), f 9 (by omega), f 10 (by omega), g (200 + L i) (by omega) (by omega), g (800 + L i) (by omega) (by omega), g (1100 + L i) (by omega) (by omega), g (1400 + L i) (by omega) (by omega), g (1700 + L i) (by omega) (by omega), g (2000 + L i) (by omega) (by omega), g (2300 + L i) (by omega) (by omega), g (2600 + L i) (by omega) (by omega), g (2900 + L i) (by omega) (by omega), h3 i a (by omega), if_pos b, v_s1_5 o.1, if_pos ⟨o.2.1, o.2.2⟩, e2]
        exact ⟨e0, e1, rfl, e3, e4, e5, e6, e7, e8, e9, e10⟩
      · have o := hS.b.on a b
        have bi := hS.i.bd a (show i < 20 by omega)
        rw [h1 _ _ (by omega) (by omega), hA i a b]
        exact (hG.lo_cg (v_s1_same (by omega)) o.1 (by omega)).symm
      · obtain ⟨e1, e2, e3, e4⟩ := hD.2.2.1 i a b
        have hm0 := hD.2.1
        have bi := hS.i.bd (j := i) (by omega) (by omega)
        have g : ∀ c : Int, 200 ≤ c → ¬ (500 ≤ c ∧ c < 800) → v_s1 W x (W 9) c = W c := fun c a b => v_s1_o (by omega) (by omega) b
        refine ⟨e1.cg (fun k hk => ?_) ⟨g _ (by omega) (by omega), ?_, g _ (by omega) (by omega), g _ (by omega) (by omega), g _ (by omega) (by omega), g _ (by omega) (by omega), g _ (by omega) (by omega), g _ (by omega) (by omega), g _ (by omega) (by omega), g _ (by omega) (by omega)⟩, ?_, by rw [g _ (by omega) (by omega)]; exact e3, e4⟩
        · by_cases q : k = 2
          · subst q; rw [h3 i (by omega) (by omega), if_neg (by omega)]
          · exact h1 _ _ (by omega) (by omega)
        · rw [v_s1_5 e2.1, if_neg (fun q => e3 q.2)]
        · rw [v_s1_o (by omega) (by omega) (by omega)]; exact e2
      · rw [v_s1_o (by omega) (by omega) (by omega)] at b
        rw [v_s1_8 a (by omega)] at e
        exact hO p a b e
    | succ n ih =>
      intro j I' j0 j1 h1 h2 h3
      have t6 : I' s 6 = I s 6 := h1 s 6 (by omega) (by omega)
      refine wf_X6_advance_12 ⟨s0, fun q => absurd tm (by omega), fun _ => ⟨s + 6, t3, s10, by omega, π j, hS.i.pl j0 (by omega), hS.kp j0 (by omega), ?_⟩⟩
      have bj := hS.i.bd j0 (show j < 20 by omega)
      have o := hS.b.on j0 (show j < m by omega)
      have gp := hG.pt _ o.1 o.2.1
      have hx2 := hx _ o.1 o.2.1 o.2.2
      rintro I6 rfl
      have ej := h3 j j0 (by omega)
      rw [if_neg (by omega), (hS.t j j0 (by omega)).2.2.1] at ej
      rw [am_wE (x := j + 1) (by omega) (by omega), ej, am_wE (by omega) (by omega)]
      refine ih (j + 1) _ (by omega) (by omega) (fun a k x y => ?_) ?_ (fun i a b => ?_)
      · rw [am_u2_o (by omega)]; exact h1 a k x y
      · rw [am_u2_o (by omega)]; exact h2
      · by_cases q : i = j
        · subst q
          rw [am_u2_s, if_pos (by omega), (hS.t i j0 (by omega)).2.2.1]
        · rw [am_u2_o (fun r => hS.ne j0 (by omega) a b q r.1), h3 i a b]
          by_cases q2 : i < j
          · rw [if_pos q2, if_pos (by omega)]
          · rw [if_neg q2, if_neg (by omega)]
  refine key m.toNat 0 _ (by omega) (by omega) (fun a k x y => am_u2_o (by omega)) am_u2_s (fun i a b => ?_)
  have bi := hS.i.bd a b
  rw [if_neg (by omega), am_u2_o (by omega)]
theorem cp_reason {b : Nat} {p : Int} (hk : K b = 2) (hp : PC I b W p) (hG : v_G W) (p0 : 0 ≤ p) (p1 : p < W 9) (h : Q (am_i (v_reason W p)) K N I P z) : am_C d m_X2_reason [am_r b] K N I P z Q am_nx := by
  have g := hG.pt p p0 p1
  obtain ⟨e0, e1, e2, e3, e4, e5, e6, e7, e8, e9, e10⟩ := hp
  unfold v_reason at h
  refine wf_X2_reason ⟨hk, ?_⟩
  rw [e4, e5, e6, e9]
  refine ⟨fun q => ⟨fun q2 => ⟨fun q3 => ⟨fun q4 => ?_, fun q4 => ?_⟩, fun q3 => ?_⟩, fun q2 => ?_⟩, fun q => ?_⟩
  · rw [if_neg q, if_neg (by omega), if_neg (by omega), if_neg (by omega)] at h; exact h
  · rw [if_neg q, if_neg (by omega), if_neg (by omega), if_pos (by omega)] at h; exact h
  · rw [if_neg q, if_neg (by omega), if_pos (by omega)] at h; exact h
  · rw [if_neg q, if_pos (by omega)] at h; exact h
  · rw [if_pos q] at h; exact h
/-- a try to divert the part at place i -/
theorem cs_diverts (hd : 3 ≤ d) (hS : ST K N I P s W m L π) (hA : SA I W m L π) (hG : v_G W) {i l : Int} (i0 : 0 ≤ i) (i1 : i < m) (hl : l = v_lo W (L i))
    (h0 : l = -1 ∨ ¬ v_win W (L i) l → Q (am_i 0) K N I P z)
    (h1 : ¬ l = -1 → v_win W (L i) l → ¬ (v_clr W (L i) ∧ W (34 + l) < W (28 + l)) → Q (am_i 0) K N (am_u2 I (π i) 9 (if v_clr W (L i) then 6 else 5)) P z)
    (h2 : ¬ l = -1 → v_win W (L i) l → v_clr W (L i) ∧ W (34 + l) < W (28 + l) → Q (am_i 1) K N (am_u2 (am_u2 I (s + 7 + l.toNat) 3 (W (34 + l) + 1)) (s + 7 + l.toNat) 4 (am_wr (W (40 + l) + 1))) P z) : am_C d m_X6_diverts [am_r s, am_i i] K N I P z Q am_nx := by
  obtain ⟨s0, s1, s2, s3, s4, s5, s6, s7, s8, s9, s10, s11, s12, s13⟩ := id hS.k; obtain ⟨t0, t1, t2, t3, t4, t5, t6⟩ := id hS.p; have tm := hS.ob; have hm2 := hS.m2
  have o := hS.b.on i0 i1
  have bl := hG.lo (p := L i)
  rw [← hl] at bl
  have g7 := hG.l7
  have kp := hS.kp i0 (show i < 20 by omega)
  have ha := hA i i0 i1
  rw [← hl] at ha
  refine wf_X6_diverts (by omega) ⟨s0, s + 6, t3, s10, by omega, π i, hS.i.pl i0 (by omega), kp, cs_hasLane s0 hS.c.2.1 ?_⟩
  rw [ha]
  simp only [am_iv, ite_z]
  refine ⟨fun q => ?_, fun q => h0 (Or.inl (by omega))⟩
  have l0 : 0 ≤ l := by omega
  have l1 : l < W 7 := by omega
  have gl := hG.ln l l0 l1
  have ce := hS.c.ln (i := l) l0 (by omega)
  have kl : K (s + 7 + l.toNat) = 0 := s12 _ (by omega) (by omega)
  refine ⟨s0, s + 2, t1, kp, s3, by omega, s + 7 + l.toNat, t6 l l0 (by omega), cp_middle kp (hS.t i i0 i1) hG o.1 o.2.1 ?_⟩
  simp only [am_iv]
  have hwin : v_win W (L i) l ↔ (W (16 + l) ≤ v_md W (L i) ∧ v_md W (L i) < W (16 + l) + W (22 + l)) := Iff.rfl
  have gaps : W (16 + l) ≤ v_md W (L i) → v_md W (L i) < W (16 + l) + W (22 + l) → am_C (d - 1) m_X6_hasGaps [am_r s, am_i i] K N I P z (fun v K30 N31 I32 P33 z34 => am_iv v fun x36 =>
        ((¬ x36 = 0 →
        K30 (s + 7 + l.toNat) = 0 ∧ am_C (d - 1) m_X0_takes [am_r (s + 7 + l.toNat)] K30 N31 I32 P33 z34 (fun v K37 N38 I39 P40 z41 => am_iv v fun x43 =>
          ((¬ x43 = 0 →
          Q (am_i 1) K37 N38 I39 P40 z41) ∧
          (x43 = 0 →
          K37 (π i) = 2 ∧ ∀ I45, I45 = am_u2 I39 (π i) 9 6 → Q (am_i 0) K37 N38 I45 P40 z41))) am_nx) ∧
        (x36 = 0 →
        K30 (π i) = 2 ∧ ∀ I47, I47 = am_u2 I32 (π i) 9 5 → Q (am_i 0) K30 N31 I47 P33 z34))) am_nx := by
    intro w1 w2
    refine cs_hasGaps (by omega) hS hG i0 i1 ?_
    by_cases c1 : v_clr W (L i)
    · rw [if_pos c1]
      refine ⟨fun _ => ⟨kl, wf_X0_takes ⟨kl, ?_⟩⟩, fun q => absurd q (by decide)⟩
      rw [ce.2.2.1, ce.2.2.2.1]
      refine ⟨fun c2 => ?_, fun c2 => ?_⟩
      · rintro I2 rfl I3 rfl
        rw [am_u2_o (by omega), ce.2.2.2.2, am_wE (x := W (34 + l) + 1) (by omega) (by omega)]
        exact ⟨fun _ => h2 (by omega) ⟨w1, w2⟩ ⟨c1, c2⟩, fun q => absurd q (by decide)⟩
      · refine ⟨fun q => absurd rfl q, fun _ => ⟨kp, ?_⟩⟩
        rintro I45 rfl
        have := h1 (by omega) ⟨w1, w2⟩ (fun q => c2 q.2)
        rw [if_pos c1] at this
        exact this
    · rw [if_neg c1]
      refine ⟨fun q => absurd rfl q, fun _ => ⟨kp, ?_⟩⟩
      rintro I45 rfl
      have := h1 (by omega) ⟨w1, w2⟩ (fun q => c1 q.1)
      rw [if_neg c1] at this
      exact this
  refine ⟨kl, wf_X0_covers ⟨kl, ?_⟩⟩
  rw [ce.1, ce.2.1, am_wE (by omega) (by omega)]
  refine ⟨fun r => ?_, fun r => ⟨fun r2 => ?_, fun r2 => ?_⟩⟩
  · exact ⟨fun q => absurd rfl q, fun _ => h0 (Or.inr (fun w => absurd w.1 (by omega)))⟩
  · exact ⟨fun q => absurd rfl q, fun _ => h0 (Or.inr (fun w => absurd w.2 (by omega)))⟩
  · exact ⟨fun _ => ⟨s0, gaps (by omega) (by omega)⟩, fun q => absurd q (by decide)⟩
end
