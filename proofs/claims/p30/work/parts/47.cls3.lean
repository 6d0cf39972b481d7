/-- only what lies in the State at s was written, and no part's truth values -/
def SF (s : Nat) (I I' : Nat → Nat → Int) : Prop := (∀ a, ¬ (s ≤ a ∧ a < s + 33) → I' a = I a) ∧ (∀ a, s + 13 ≤ a → a < s + 33 → I' a 5 = I a 5 ∧ I' a 6 = I a 6)
theorem SF.rf {s : Nat} {I : Nat → Nat → Int} : SF s I I := ⟨fun _ _ => rfl, fun _ _ _ => ⟨rfl, rfl⟩⟩
theorem SF.tr {s : Nat} {I I1 I2 : Nat → Nat → Int} (h : SF s I I1) (h2 : SF s I1 I2) : SF s I I2 := ⟨fun a h3 => (h2.1 a h3).trans (h.1 a h3), fun a b c => ⟨(h2.2 a b c).1.trans (h.2 a b c).1, (h2.2 a b c).2.trans (h.2 a b c).2⟩⟩
theorem SF.put {s : Nat} {I I1 : Nat → Nat → Int} (h : SF s I I1) {a k : Nat} {x : Int} (ha : (s ≤ a ∧ a < s + 33) ∧ ¬ (s + 13 ≤ a ∧ (k = 5 ∨ k = 6))) : SF s I (am_u2 I1 a k x) := ⟨fun b hb => by rw [am_u2_ne (by omega), h.1 b hb], fun b h1 h2 => ⟨by rw [am_u2_o (by omega)]; exact (h.2 b h1 h2).1, by rw [am_u2_o (by omega)]; exact (h.2 b h1 h2).2⟩⟩
/-- truth values of all parts -/
def SBo (I : Nat → Nat → Int) (s : Nat) : Prop := ∀ a, s + 13 ≤ a → a < s + 33 → (I a 5 = 0 ∨ I a 5 = 1) ∧ (I a 6 = 0 ∨ I a 6 = 1)
theorem SBo.f {s : Nat} {I I' : Nat → Nat → Int} (h : SBo I s) (hf : SF s I I') : SBo I' s := fun a b c => by rw [(hf.2 a b c).1, (hf.2 a b c).2]; exact h a b c
/-- the State's rule stands for the text in W -/
def RR (K N : Nat → Nat) (I : Nat → Nat → Int) (P : Nat → Nat → Option Nat) (s : Nat) (W : Int → Int) : Prop := ∃ (r : Nat) (T : Int → Int) (nd e : Int), P s 4 = some r ∧ RO K N P r ∧ ((10 ≤ r ∧ r + 4 < 20) ∨ 564 ≤ r) ∧ I r 4 ≤ 80 ∧ (∀ i : Int, 0 ≤ i → i < 80 → T i = W (106 + i)) ∧ e ≤ 80 ∧ RN I r T 50 0 0 nd e
theorem RN.cg {I I' : Nat → Nat → Int} {r : Nat} {T : Int → Int} (he : ∀ a, r ≤ a → a < r + 5 → I' a = I a) : ∀ (f : Nat) (nd p nd' p' : Int), RN I r T f nd p nd' p' → RN I' r T f nd p nd' p'
  | 0, _, _, _, _, h => h
  | f + 1, nd, p, nd', p', h => by
    obtain ⟨h0, h⟩ := h
    have e0 := he r (by omega) (by omega)
    have e1 := he (r + 1) (by omega) (by omega)
    have e2 := he (r + 2) (by omega) (by omega)
    have e3 := he (r + 3) (by omega) (by omega)
    have e4 := he (r + 4) (by omega) (by omega)
    unfold RN
    rw [e0, e1, e2, e3, e4]
    refine ⟨h0, ?_⟩
    rcases h with h | ⟨h1, h2, h3, h4, h5, n1, p1, h6, h7, h8, h9⟩
    · exact Or.inl h
    · exact Or.inr ⟨h1, h2, h3, h4, h5, n1, p1, RN.cg he f _ _ _ _ h6, h7, h8, RN.cg he f _ _ _ _ h9⟩
theorem RR.fr {K N : Nat → Nat} {I I' : Nat → Nat → Int} {P P' : Nat → Nat → Option Nat} {s : Nat} {W W' : Int → Int} (h : RR K N I P s W) (hf : ∀ a, (10 ≤ a ∧ a < 20) ∨ 564 ≤ a → I' a = I a ∧ P' a = P a) (h4 : P' s 4 = P s 4) (hW : ∀ i : Int, 0 ≤ i → i < 80 → W' (106 + i) = W (106 + i)) : RR K N I' P' s W' := by
  obtain ⟨r, T, nd, e, h1, h2, h3, h5, h6, h7, h8⟩ := h
  refine ⟨r, T, nd, e, h4.trans h1, ?_, h3, ?_, fun i a b => (h6 i a b).trans (hW i a b).symm, h7, h8.cg (fun a x y => (hf a (by omega)).1)⟩
  · unfold RO at h2 ⊢
    rw [(hf r (by omega)).2]
    exact h2
  · rw [(hf r (by omega)).1]; exact h5
theorem ST.fr {K N : Nat → Nat} {I I' : Nat → Nat → Int} {P : Nat → Nat → Option Nat} {s : Nat} {W : Int → Int} {m : Int} {L : Int → Int} {π : Int → Nat} (hS : ST K N I P s W m L π) (h : ∀ a k, s ≤ a → a < s + 33 → ¬ (s + 13 ≤ a ∧ k = 11) → ¬ (a = s ∧ k = 10) → I' a k = I a k) : ST K N I' P s W m L π := by
  refine ⟨hS.k, hS.p, hS.i, ?_, (h s 6 (by omega) (by omega) (by omega) (by omega)).trans hS.ob, hS.b, hS.m2.2, ?_⟩
  · obtain ⟨c0, c1, c2, c3, c4, c5, c6, c7⟩ := hS.c
    refine ⟨fun k a b => (h _ _ (by omega) (by omega) (by omega) (by omega)).trans (c0 k a b), (h _ _ (by omega) (by omega) (by omega) (by omega)).trans c1, fun i k a b e f => (h _ _ (by omega) (by omega) (by omega) (by omega)).trans (c2 i k a b e f), (h _ _ (by omega) (by omega) (by omega) (by omega)).trans c3, fun k a b => ⟨(h _ _ (by omega) (by omega) (by omega) (by omega)).trans (c4 k a b).1, (h _ _ (by omega) (by omega) (by omega) (by omega)).trans (c4 k a b).2⟩, (h _ _ (by omega) (by omega) (by omega) (by omega)).trans c5, (h _ _ (by omega) (by omega) (by omega) (by omega)).trans c6, (h _ _ (by omega) (by omega) (by omega) (by omega)).trans c7⟩
  · intro j a b
    have hb := hS.i.bd a (by have := hS.m2; omega)
    have e : ∀ k, k < 11 → I' (π j) k = I (π j) k := fun k hk => h _ _ (by omega) (by omega) (by omega) (by omega)
    have := hS.t j a b
    unfold PC at this ⊢
    rw [e 0 (by omega), e 1 (by omega), e 2 (by omega), e 3 (by omega), e 4 (by omega), e 5 (by omega), e 6 (by omega), e 7 (by omega), e 8 (by omega), e 9 (by omega), e 10 (by omega)]
    exact this
/-- the lanes as they were looked up -/
def SA (I : Nat → Nat → Int) (W : Int → Int) (m : Int) (L : Int → Int) (π : Int → Nat) : Prop := ∀ j, 0 ≤ j → j < m → I (π j) 11 = v_lo W (L j)
def v_dl (W : Int → Int) (p : Int) : Int := if v_lo W p = -1 then 1000000 else W (16 + v_lo W p) - v_md W p
section
variable {d : Nat} {K N : Nat → Nat} {I : Nat → Nat → Int} {P : Nat → Nat → Option Nat} {z : Nat} {Q : am_V → am_T} {W : Int → Int} {s : Nat} {m : Int} {L : Int → Int} {π : Int → Nat}
theorem cs_laneGiven (hd : 3 ≤ d) (hk : SK K N s) (hp : SP P s) (hc : SC I s W) (hR : RR K N I P s W) (hG : v_G W) {c l : Int} (c0 : 0 ≤ c) (c1 : c ≤ 999) (h : Q (am_i (v_lby W c l)) K N I P z) : am_C d m_X6_laneGiven [am_r s, am_i c, am_i l] K N I P z Q am_nx := by
  refine wf_X6_laneGiven (by omega) ⟨hk.1, s + 3, hp.2.2.1, hk.2.2.2.2.2.1, cr_laneOf (by omega) hk hp hc hG.r8 ?_⟩
  simp only [am_iv]
  unfold v_lby at h
  have b := v_place_bd hG.r8.1 c
  have g8 := hG.r8
  by_cases hh : v_has W c
  · rw [if_pos hh] at h ⊢
    have g := (hG.rt _ b.1 hh.1).2
    refine ⟨fun _ => ⟨hk.1, cs_hasLane hk.1 hc.2.1 ?_⟩, fun q => absurd q (by omega)⟩
    rw [if_pos g]
    exact ⟨fun q => absurd q (by decide), fun _ => h⟩
  · rw [if_neg hh] at h ⊢
    obtain ⟨r, T, nd, e, h1, h2, h3, h5, h6, h7, h8⟩ := hR
    refine ⟨fun q => absurd rfl q, fun _ => ⟨hk.1, r, h1, h2.1, wf_X4_laneBy (cu_laneBy (by omega) h2 h5 c0 c1 50 0 0 nd e 0 h8 (by omega) (by omega) ?_)⟩⟩
    intro x hx
    simp only [am_iv]
    refine ⟨hk.1, cs_hasLane hk.1 hc.2.1 ?_⟩
    have he := (v_r_cg (T := T) (T' := v_T W) (fun i a b => (h6 i a b).symm) 50 0 e (by omega) h7 (RN.rend _ _ _ _ _ h8)).2 c l
    unfold v_byR at h
    rw [he] at h
    have g7 := hG.l7
    by_cases q : 0 ≤ x ∧ x < W 7
    · rw [if_pos q]
      rw [if_pos (by omega)] at h
      rw [show x = v_rev T 50 0 c l - 48 by omega]
      exact ⟨fun q => absurd q (by decide), fun _ => h⟩
    · rw [if_neg q]
      rw [if_neg (by omega)] at h
      exact ⟨fun _ => h, fun q => absurd rfl q⟩
theorem cs_laneOf (hd : 4 ≤ d) (hk : SK K N s) (hp : SP P s) (hc : SC I s W) (hR : RR K N I P s W) (hG : v_G W) {b : Nat} {p : Int} (hb : K b = 2) (hpc : PC I b W p) (p0 : 0 ≤ p) (p1 : p < W 9) (h : Q (am_i (v_lo W p)) K N I P z) : am_C d m_X6_laneOf [am_r s, am_r b] K N I P z Q am_nx := by
  obtain ⟨b0, b1, b2, b3, b4, b5, b6, b7⟩ := hpc
  have g := hG.pt p p0 p1
  unfold v_lo at h
  refine wf_X6_laneOf (by omega) ⟨hb, ?_⟩
  rw [b4, b5, b6, b1]
  refine ⟨fun q => ?_, fun q => ⟨fun q2 => ?_, fun q2 => ⟨fun q3 => ⟨hk.1, ?_⟩, fun q3 => ?_⟩⟩⟩
  · rw [if_pos (Or.inl q)] at h; exact h
  · rw [if_pos (by omega)] at h; exact h
  · rw [if_neg (by omega)] at h
    exact cs_laneGiven (by omega) hk hp hc hR hG (by omega) (by omega) h
  · rw [if_pos (by omega)] at h; exact h
theorem cs_aim (hd : 5 ≤ d) (hs : 20 ≤ s ∧ s + 33 ≤ 284) (hS : ST K N I P s W m L π) (hR : RR K N I P s W) (hG : v_G W) (h : ∀ I', SF s I I' → ST K N I' P s W m L π → SA I' W m L π → I' s 10 = 0 → Q am_nl K N I' P z) : am_C d m_X6_aimParts [am_r s] K N I P z Q am_nx := by
  refine wf_X6_aimParts ?_
  have key : ∀ (n : Nat) (j : Int) (I' : Nat → Nat → Int), 0 ≤ j → j + n = m → SF s I I' → ST K N I' P s W m L π → SA I' W j L π → L_X6_aimParts_2 d s j K N I' P z Q := by
    intro n
    induction n with
    | zero =>
      intro j I' j0 j1 hF hS hA
      obtain ⟨s0, s1, s2, s3, s4, s5, s6, s7, s8, s9, s10, s11, s12, s13⟩ := id hS.k; obtain ⟨t0, t1, t2, t3, t4, t5, t6⟩ := id hS.p; have tm := hS.ob; have hm2 := hS.m2
      refine wf_X6_aimParts_2 (by omega) ⟨s0, fun _ => ?_, fun q => absurd tm (by omega)⟩
      rintro I2 rfl
      have hjm : j = m := by omega
      subst hjm
      refine h _ (hF.put (by omega)) (hS.fr (fun a k x y e f => am_u2_o (by omega))) (fun i a b => ?_) am_u2_s
      have hb := hS.i.bd a (by omega)
      rw [am_u2_o (by omega)]; exact hA i a b
    | succ n ih =>
      intro j I' j0 j1 hF hS hA
      have hR' : RR K N I' P s W := hR.fr (fun a ha => ⟨hF.1 a (by omega), rfl⟩) rfl (fun _ _ _ => rfl)
      obtain ⟨s0, s1, s2, s3, s4, s5, s6, s7, s8, s9, s10, s11, s12, s13⟩ := id hS.k; obtain ⟨t0, t1, t2, t3, t4, t5, t6⟩ := id hS.p; have tm := hS.ob; have hm2 := hS.m2
      refine wf_X6_aimParts_2 (by omega) ⟨s0, fun q => absurd tm (by omega), fun _ => ⟨s + 6, t3, s10, by omega, π j, hS.i.pl j0 (by omega), by omega, π j, hS.i.pl j0 (by omega), ?_⟩⟩
      have o := hS.b.on j0 (show j < m by omega)
      have hb := hS.i.bd j0 (show j < 20 by omega)
      refine cs_laneOf (by omega) hS.k hS.p hS.c hR' hG (hS.kp j0 (by omega)) (hS.t j j0 (by omega)) o.1 o.2.1 ?_
      refine ⟨hS.kp j0 (by omega), ?_⟩
      rintro I2 rfl
      rw [am_wE (by omega) (by omega)]
      refine ih (j + 1) _ (by omega) (by omega) (hF.put (by omega)) (hS.fr (fun a k x y e f => am_u2_o (by omega))) ?_
      intro i a b
      by_cases e : i = j
      · subst e; rw [am_u2_s]
      · rw [am_u2_o (fun q => e (hS.i.2.1 i j a (by omega) j0 (by omega) q.1))]
        exact hA i a (by omega)
  exact key m.toNat 0 I (by omega) (by have := hS.m2; omega) SF.rf hS (fun i a b => absurd b (by omega))
theorem cs_dist (hd : 2 ≤ d) (hS : ST K N I P s W m L π) (hA : SA I W m L π) (hG : v_G W) {i : Int} (i0 : 0 ≤ i) (i1 : i < m) (h : Q (am_i (v_dl W (L i))) K N I P z) : am_C d m_X6_distanceToLane [am_r s, am_i i] K N I P z Q am_nx := by
  obtain ⟨s0, s1, s2, s3, s4, s5, s6, s7, s8, s9, s10, s11, s12, s13⟩ := id hS.k; obtain ⟨t0, t1, t2, t3, t4, t5, t6⟩ := id hS.p; have tm := hS.ob; have hm2 := hS.m2
  have o := hS.b.on i0 i1
  have g := hG.pt _ o.1 o.2.1
  have bl := hG.lo (p := L i)
  have g7 := hG.l7
  refine wf_X6_distanceToLane (by omega) ⟨s0, s + 6, t3, s10, by omega, π i, hS.i.pl i0 (by omega), hS.kp i0 (by omega), cs_hasLane s0 hS.c.2.1 ?_⟩
  rw [hA i i0 i1]
  unfold v_dl at h
  by_cases q : v_lo W (L i) = -1
  · rw [if_pos q] at h
    rw [if_neg (by omega)]
    exact ⟨fun _ => h, fun r => absurd rfl r⟩
  · rw [if_neg q] at h
    rw [if_pos (by omega)]
    have gl := hG.ln (v_lo W (L i)) (by omega) (by omega)
    refine ⟨fun r => absurd r (by decide), fun _ => ⟨s0, s + 2, t1, hS.kp i0 (by omega), s3, by omega, s + 7 + (v_lo W (L i)).toNat, t6 _ (by omega) (by omega), s12 _ (by omega) (by omega), cp_middle (hS.kp i0 (by omega)) (hS.t i i0 i1) hG o.1 o.2.1 ?_⟩⟩
    have e := (hS.c.ln (i := v_lo W (L i)) (by omega) (by omega)).1
    simp only [v_md] at h
    simp only [am_iv, v_md]
    rw [e, am_wE (by omega) (by omega)]
    exact h
theorem cs_rank (hd : 3 ≤ d) (hS : ST K N I P s W m L π) (hA : SA I W m L π) (hG : v_G W) {i : Int} (i0 : 0 ≤ i) (i1 : i < m) (h : Q (am_i (v_cnt (fun j => decide (v_dl W (L j) < v_dl W (L i) ∨ (v_dl W (L j) = v_dl W (L i) ∧ j < i))) m.toNat)) K N I P z) : am_C d m_X6_rankOf [am_r s, am_i i] K N I P z Q am_nx := by
  obtain ⟨s0, s1, s2, s3, s4, s5, s6, s7, s8, s9, s10, s11, s12, s13⟩ := id hS.k; obtain ⟨t0, t1, t2, t3, t4, t5, t6⟩ := id hS.p; have tm := hS.ob; have hm2 := hS.m2
  refine wf_X6_rankOf (by omega) ⟨s0, cs_dist (by omega) hS hA hG i0 i1 ?_⟩
  simp only [am_iv]
  have key : ∀ (n j : Nat), (j : Int) + n = m → L_X6_rankOf_11 d s i (v_cnt (fun j => decide (v_dl W (L j) < v_dl W (L i) ∨ (v_dl W (L j) = v_dl W (L i) ∧ j < i))) j) (v_dl W (L i)) j K N I P z Q := by
    intro n
    induction n with
    | zero =>
      intro j hj
      refine wf_X6_rankOf_11 (by omega) ⟨s0, fun _ => ?_, fun q => absurd tm (by omega)⟩
      rw [show j = m.toNat by omega]; exact h
    | succ n ih =>
      intro j hj
      have ih2 := ih (j + 1) (by omega)
      have bd := v_cnt_bd (fun j => decide (v_dl W (L j) < v_dl W (L i) ∨ (v_dl W (L j) = v_dl W (L i) ∧ j < i))) j
      rw [v_cnt] at ih2
      generalize v_cnt (fun j => decide (v_dl W (L j) < v_dl W (L i) ∨ (v_dl W (L j) = v_dl W (L i) ∧ j < i))) j = e at *
      simp only [decide_eq_true_eq, Int.natCast_add, Int.cast_ofNat_Int] at ih2
      refine wf_X6_rankOf_11 (by omega) ⟨s0, fun q => absurd tm (by omega), fun q => cs_dist (by omega) hS hA hG (by omega) (by omega) ?_⟩
      simp only [am_iv]
      rw [am_wE (x := (j : Int) + 1) (by omega) (by omega), am_wE (x := e + 1) (by omega) (by omega)]
      refine ⟨fun r => ?_, fun r => ⟨fun r2 => ?_, fun r2 => ⟨fun r3 => ?_, fun r3 => ?_⟩⟩⟩
      · rw [if_pos (Or.inl r)] at ih2; exact ih2
      · rw [if_neg (fun q => by rcases q with q | q; exact r q; exact r2 q.1), show e + 0 = e by omega] at ih2; exact ih2
      · rw [if_neg (fun q => by rcases q with q | q; exact r q; omega), show e + 0 = e by omega] at ih2; exact ih2
      · rw [if_pos (Or.inr ⟨r2, by omega⟩)] at ih2; exact ih2
  exact key m.toNat 0 (by omega)
end
