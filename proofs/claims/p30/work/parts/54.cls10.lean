theorem v_QP_mono {W : Int → Int} {x y p : Int} (h : v_QP W x p) (hy : y ≤ x) : v_QP W y p := ⟨by have := h.1; omega, fun a b => by have := h.2 a b; omega⟩
section
variable {d : Nat} {K N : Nat → Nat} {I I' : Nat → Nat → Int} {P P' : Nat → Nat → Option Nat} {z : Nat} {Q : am_V → am_T} {W W' W0 L0 : Int → Int} {s : Nat} {m m0 : Int} {L : Int → Int} {π π0 : Int → Nat}
theorem cs_quiet (hd : 1 ≤ d) (hS : ST K N I P s W m L π) (hA : SA I W m L π) (hG : v_G W) (hF : v_F W) (h : ∀ x, 0 ≤ x → x ≤ 1000000 → (∀ p, 0 ≤ p → p < W 9 → W (800 + p) = 0 → v_QP W x p) → Q (am_i x) K N I P z) : am_C d m_X6_quietMillimeters [am_r s] K N I P z Q am_nx := by
  obtain ⟨s0, s1, s2, s3, s4, s5, s6, s7, s8, s9, s10, s11, s12, s13⟩ := id hS.k; obtain ⟨t0, t1, t2, t3, t4, t5, t6⟩ := id hS.p; have tm := hS.ob; have hm2 := hS.m2
  have g5 := hG.s5
  have g7 := hG.l7
  refine wf_X6_quietMillimeters ?_
  have key : ∀ (n : Nat) (j x : Int), 0 ≤ j → j + n = m → 0 ≤ x → x ≤ 1000000 → (∀ k, 0 ≤ k → k < j → v_QP W x (L k)) → L_X6_quietMillimeters_5 d s x j K N I P z Q := by
    intro n
    induction n with
    | zero =>
      intro j x j0 j1 x0 x1 hx
      refine wf_X6_quietMillimeters_5 hd ⟨s0, fun _ => h x x0 x1 (fun p a b c => ?_), fun q => absurd tm (by omega)⟩
      obtain ⟨k, k0, k1, k2⟩ := hS.b.ex a b c
      rw [← k2]
      exact hx k k0 (by omega)
    | succ n ih =>
      intro j x j0 j1 x0 x1 hx
      have o := hS.b.on j0 (show j < m by omega)
      have gp := hG.pt _ o.1 o.2.1
      have fp := hF _ o.1 o.2.1 o.2.2
      have bl := hG.lo (p := L j)
      have kp := hS.kp j0 (show j < 20 by omega)
      have ha := hA j j0 (by omega)
      have e2 := (hS.t j j0 (by omega)).2.2.1
      have e4 := hS.c.st4
      refine wf_X6_quietMillimeters_5 hd ⟨s0, fun q => absurd tm (by omega), fun _ => ⟨s + 6, t3, s10, by omega, π j, hS.i.pl j0 (by omega), s + 1, t0, s1, by omega, kp, cs_hasLane s0 hS.c.2.1 ?_⟩⟩
      rw [ha, e2, e4, am_wE (x := W 5 - 1) (by omega) (by omega), am_wE (x := W 5 - 1 - W (500 + L j)) (by omega) (by omega), am_wE (x := j + 1) (by omega) (by omega)]
      simp only [am_iv, ite_z]
      obtain ⟨y, hy⟩ : ∃ y, y = (if W 5 - 1 - W (500 + L j) < x then W 5 - 1 - W (500 + L j) else x) := ⟨_, rfl⟩
      rw [← hy]
      have y0 : 0 ≤ y ∧ y ≤ x ∧ y ≤ W 5 - 1 - W (500 + L j) := by rw [hy]; split <;> omega
      clear hy
      refine ⟨fun q => ?_, fun q => ?_⟩
      · refine ih (j + 1) y (by omega) (by omega) (by omega) (by omega) (fun k k0 k1 => ?_)
        rcases (show k < j ∨ k = j by omega) with r | r
        · exact v_QP_mono (hx k k0 r) y0.2.1
        · subst r; exact ⟨by omega, fun r2 => by omega⟩
      · have gl := hG.ln (v_lo W (L j)) (by omega) (by omega)
        refine ⟨s0, s + 2, t1, kp, s3, by omega, s + 7 + (v_lo W (L j)).toNat, t6 _ (by omega) (by omega), s12 _ (by omega) (by omega), cp_middle kp (hS.t j j0 (by omega)) hG o.1 o.2.1 ?_⟩
        have el := (hS.c.ln (i := v_lo W (L j)) (by omega) (by omega)).1
        simp only [am_iv]
        rw [el, am_wE (x := W (16 + v_lo W (L j)) - 1) (by omega) (by omega), am_wE (by simp only [v_md]; omega) (by simp only [v_md]; omega)]
        refine ⟨fun r => ?_, fun r => ?_⟩
        · refine ih (j + 1) y (by omega) (by omega) (by omega) (by omega) (fun k k0 k1 => ?_)
          rcases (show k < j ∨ k = j by omega) with r | r
          · exact v_QP_mono (hx k k0 r) y0.2.1
          · subst r; exact ⟨by omega, fun _ r2 => by omega⟩
        · obtain ⟨u, hu⟩ : ∃ u, u = (if W (16 + v_lo W (L j)) - 1 - v_md W (L j) < y then W (16 + v_lo W (L j)) - 1 - v_md W (L j) else y) := ⟨_, rfl⟩
          rw [← hu]
          have u0 : 0 ≤ u ∧ u ≤ y ∧ u ≤ W (16 + v_lo W (L j)) - 1 - v_md W (L j) := by rw [hu]; split <;> omega
          refine ih (j + 1) u (by omega) (by omega) (by omega) (by omega) (fun k k0 k1 => ?_)
          rcases (show k < j ∨ k = j by omega) with r | r
          · exact v_QP_mono (hx k k0 r) (by omega)
          · subst r; exact ⟨by omega, fun _ _ => by omega⟩
  exact key m.toNat 0 1000000 (by omega) (by omega) (by omega) (by omega) (fun k a b => absurd b (by omega))
theorem SM.fl (hM : SM K N I P s W m L π m0 W0 L0 π0) {x : Int} : SM K N (am_u2 I s 10 x) P s W m L π m0 W0 L0 π0 := by
  obtain ⟨hS, hA, hD, hO⟩ := hM
  have hm := hS.m2
  refine ⟨hS.fr (fun a k _ _ _ e => am_u2_o e), fun j a b => ?_, ⟨hD.1, hD.2.1, fun j a b => ?_, hD.2.2.2⟩, hO⟩
  · rw [am_u2_o (by omega)]; exact hA j a b
  · obtain ⟨e1, e2⟩ := hD.2.2.1 j a b
    have hm0 := hD.2.1
    have bj := hS.i.bd (j := j) (by omega) (by omega)
    exact ⟨e1.cg (fun k _ => am_u2_o (by omega)) ⟨rfl, rfl, rfl, rfl, rfl, rfl, rfl, rfl, rfl, rfl⟩, e2⟩
theorem cs_stride (hd : 6 ≤ d) (hM : SM K N I P s W m L π m0 W0 L0 π0) (hG : v_G W) (hF : v_F W) (h0 : W 0 ≤ 60000) {a : Int} (a1 : 1 ≤ a) (a2 : a ≤ 1000000) (hV : I s 10 = 0 ∨ v_SV W)
    (h : ∀ (q : Nat) I' P' m' L' π', (q : Int) + 1 ≤ a → (∀ k : Nat, k ≤ q → v_it k W = v_s1 W k (W 9)) → SF s I I' → (∀ b, ¬ b = s + 6 → P' b = P b) → SM K N I' P' s (v_it (q + 1) W) m' L' π' m0 W0 L0 π0 → (I' s 10 = 0 ∨ v_SV (v_it (q + 1) W)) → Q (am_i ((q : Int) + 1)) K N I' P' z) : am_C d m_X6_stride [am_r s, am_i a] K N I P z Q am_nx := by
  have hS := hM.1
  have g9 := hG.n9
  have g0 := hG.d0
  have g5 := hG.s5
  obtain ⟨s0, s1, s2, s3, s4, s5, s6, s7, s8, s9, s10, s11, s12, s13⟩ := id hS.k; obtain ⟨t0, t1, t2, t3, t4, t5, t6⟩ := id hS.p; have tm := hS.ob; have hm2 := hS.m2
  have fin : ∀ (q : Nat) (x : Int), x = (q : Int) + 1 → (q : Int) + 1 ≤ a → (∀ p, 0 ≤ p → p < W 9 → W (800 + p) = 0 → W (500 + p) + q ≤ W 5 - 1) → (∀ k : Nat, k ≤ q → v_it k W = v_s1 W k (W 9)) → am_C (d - 1) m_X6_advance [am_r s, am_i x] K N I P z (fun _ K2 N3 I4 P5 z6 =>
      K2 s = 6 ∧ am_C (d - 1) m_X6_divertParts [am_r s] K2 N3 I4 P5 z6 (fun _ K8 N9 I10 P11 z12 =>
      K8 s = 6 ∧ am_C (d - 1) m_X6_loseParts [am_r s] K8 N9 I10 P11 z12 (fun _ K13 N14 I15 P16 z17 =>
      K13 s = 6 ∧ ((¬ I15 s 6 = I4 s 6 →
      ∀ I20, I20 = am_u2 I15 s 10 0 → Q (am_i x) K13 N14 I20 P16 z17) ∧
      (I15 s 6 = I4 s 6 →
      ∀ I21, I21 = am_u2 I15 s 10 1 → Q (am_i x) K13 N14 I21 P16 z17))) am_nx) am_nx) am_nx := by
    rintro q x rfl q1 hq hit
    refine cs_advance hM hG (by omega) (fun p b c e => by have := hq p b c e; omega) (by omega) (by omega) ?_
    intro I2 f2 hM2 _
    have hG1 := v_s1_G hG (k := (q : Int) + 1) (by omega) (fun p b c e => by have := hq p b c e; omega)
    have e19 : (v_s1 W ((q : Int) + 1) (W 9)) 9 = W 9 := (v_s1_same (by omega)).n9
    refine ⟨s0, cs_divert (by omega) hM2 hG1 ?_⟩
    intro I3 P3 m3 L3 π3 f3 p3 hM3
    rw [e19] at hM3
    have hG2 := v_s2_G hG1 (W 9).toNat (by rw [e19]; omega)
    have e29 := hG2.2.n9
    rw [e19] at e29
    refine ⟨s0, cs_lose (by omega) hM3 hG2.1 ?_⟩
    intro I4 P4 m4 L4 π4 f4 p4 hM4
    rw [e29] at hM4
    have eW : v_it (q + 1) W = v_s3 (v_s2 (v_s1 W ((q : Int) + 1) (W 9)) (W 9).toNat) (W 9) := by
      show v_go (v_it q W) = _
      rw [hit q (Nat.le_refl _)]
      unfold v_go
      rw [(v_s1_same (W := W) (k := (q : Int)) (n := W 9) (by omega)).n9, v_s1_add (by omega)]
    rw [← eW] at hM4
    have om2 : I2 s 6 = m := hM2.1.ob
    have om4 : I4 s 6 = m4 := hM4.1.ob
    have fr : ∀ x : Int, SF s I (am_u2 I4 s 10 x) := fun x => ((f2.tr f3).tr f4).put (by omega)
    have pr : ∀ b, ¬ b = s + 6 → P4 b = P b := fun b hb => (p4 b hb).trans (p3 b hb)
    refine ⟨s0, fun r => ?_, fun r => ?_⟩
    · rintro I5 rfl
      exact h q _ P4 m4 L4 π4 q1 hit (fr 0) pr hM4.fl (Or.inl am_u2_s)
    · rintro I5 rfl
      refine h q _ P4 m4 L4 π4 q1 hit (fr 1) pr hM4.fl (Or.inr ?_)
      obtain ⟨i1, i2, i3, i4⟩ := v_it_G hG hF q
      refine v_go_SV i1 i2 ?_
      have b4 : v_ob (v_it (q + 1) W) = m4 := hM4.1.b.ob (by have := (v_it_G hG hF (q + 1)).2.2.1.n9; omega)
      have bq : v_ob (v_it q W) = m := by
        refine BL.ob (L := L) (hS.b.cg i3.n9 (fun p b c => ?_)) (by rw [i3.n9]; omega)
        rw [hit q (Nat.le_refl _)]
        exact v_s1_8 b (by omega)
      show v_ob (v_it (q + 1) W) = _
      rw [b4, bq]
      omega
  refine wf_X6_stride (by omega) ⟨s0, fun q => ?_, fun q => ?_⟩
  · refine fin 0 _ (by rw [am_wE (by omega) (by omega)]; rfl) (by omega) (fun p b c e => by have := hF p b c e; omega) (fun k hk => ?_)
    rw [show k = 0 by omega]
    funext i
    unfold v_s1
    show W i = _
    by_cases c : i = 0
    · subst c; rw [if_pos rfl]; omega
    · rw [if_neg c]
      split
      · omega
      · rfl
  · have hV2 : v_SV W := by
      rcases hV with r | r
      · exact (q r).elim
      · exact r
    refine cs_quiet (by omega) hS hM.2.1 hG hF ?_
    intro x x0 x1 hx
    simp only [am_iv]
    refine ⟨s0, ?_⟩
    rw [am_wE (x := a - 1) (by omega) (by omega)]
    obtain ⟨y, hy⟩ : ∃ y, y = (if 0 < (if a - 1 < x then a - 1 else x) then (if a - 1 < x then a - 1 else x) else 0) := ⟨_, rfl⟩
    rw [← hy]
    have y0 : 0 ≤ y ∧ y ≤ x ∧ y ≤ a - 1 := by
      rw [hy]
      by_cases c : a - 1 < x
      · rw [if_pos c]; split <;> omega
      · rw [if_neg c]; split <;> omega
    clear hy
    have hq : ∀ p, 0 ≤ p → p < W 9 → W (800 + p) = 0 → v_QP W y.toNat p := fun p b c e => v_QP_mono (hx p b c e) (by omega)
    exact fin y.toNat _ (by rw [am_wE (by omega) (by omega)]; omega) (by omega) (fun p b c e => (hq p b c e).1) (fun k hk => v_quiet hG hF hV2 hq k hk)
end
