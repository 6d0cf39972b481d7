section
variable {d : Nat} {K N : Nat → Nat} {I : Nat → Nat → Int} {P : Nat → Nat → Option Nat} {z : Nat} {Q : am_V → am_T} {W : Int → Int} {s : Nat} {m : Int} {L : Int → Int} {π : Int → Nat}
theorem cp_tail {b : Nat} {p : Int} (hk : K b = 2) (hp : PC I b W p) (hG : v_G W) (p0 : 0 ≤ p) (p1 : p < W 9) (h : Q (am_i (v_tl W p)) K N I P z) : am_C d m_X2_tail [am_r b] K N I P z Q am_nx := by
  have g := hG.pt p p0 p1
  refine wf_X2_tail ⟨hk, ?_⟩
  rw [hp.2.1, hp.2.2.1, am_wE (by omega) (by omega)]
  exact h
theorem cp_middle {b : Nat} {p : Int} (hk : K b = 2) (hp : PC I b W p) (hG : v_G W) (p0 : 0 ≤ p) (p1 : p < W 9) (h : Q (am_i (v_md W p)) K N I P z) : am_C d m_X2_middle [am_r b] K N I P z Q am_nx := by
  have g := hG.pt p p0 p1
  refine wf_X2_middle ⟨hk, ?_⟩
  rw [hp.2.1, hp.2.2.1, Int.tdiv_eq_ediv_of_nonneg (by omega), am_wE (x := W (200 + p) / 2) (by omega) (by omega), am_wE (by omega) (by omega)]
  exact h
theorem cs_hasLane (hk : K s = 6) (hc : I s 2 = W 7) {a : Int} (h : Q (am_i (if 0 ≤ a ∧ a < W 7 then 1 else 0)) K N I P z) : am_C d m_X6_hasLane [am_r s, am_i a] K N I P z Q am_nx := by
  refine wf_X6_hasLane ⟨fun q => ?_, fun q => ⟨hk, fun r => ?_, fun r => ?_⟩⟩
  · rw [if_neg (by omega)] at h; exact h
  · rw [if_neg (by omega)] at h; exact h
  · rw [if_pos (by omega)] at h; exact h
theorem cs_placeOf (hS : ST K N I P s W m L π) {p : Int} (h1 : ∀ j, 0 ≤ j → j < m → L j = p → Q (am_i j) K N I P z) (h2 : (∀ j, 0 ≤ j → j < m → ¬ L j = p) → Q (am_i (-1)) K N I P z) : am_C d m_X6_placeOf [am_r s, am_i p] K N I P z Q am_nx := by
  refine wf_X6_placeOf ?_
  obtain ⟨s0, s1, s2, s3, s4, s5, s6, s7, s8, s9, s10, s11, s12, s13⟩ := id hS.k; obtain ⟨t0, t1, t2, t3, t4, t5, t6⟩ := id hS.p; have tm := hS.ob; have hm2 := hS.m2
  have key : ∀ (n : Nat) (j : Int), 0 ≤ j → j + n = m → (∀ i, 0 ≤ i → i < j → ¬ L i = p) → L_X6_placeOf_2 d s p j K N I P z Q := by
    intro n
    induction n with
    | zero =>
      intro j j0 j1 hp
      refine wf_X6_placeOf_2 ⟨s0, fun q => h2 (fun i a b => hp i a (by omega)), fun q => absurd tm (by omega)⟩
    | succ n ih =>
      intro j j0 j1 hp
      refine wf_X6_placeOf_2 ⟨s0, fun q => absurd tm (by omega), fun q => ⟨s + 6, t3, s10, by omega, π j, hS.i.pl j0 (by omega), hS.kp j0 (by omega), fun r => ?_, fun r => ?_⟩⟩
      · rw [am_wE (by omega) (by omega)]
        refine ih (j + 1) (by omega) (by omega) (fun i a b => ?_)
        rcases (show i < j ∨ i = j by omega) with e | e
        · exact hp i a e
        · subst e
          rw [(hS.t i j0 (by omega)).1] at r
          exact r
      · rw [(hS.t j j0 (by omega)).1] at r
        exact h1 j j0 (by omega) r
  exact key m.toNat 0 (by omega) (by omega) (fun i a b => absurd b (by omega))
theorem cs_gap (hd : 1 ≤ d) (hS : ST K N I P s W m L π) (hG : v_G W) {i j : Int} (i0 : 0 ≤ i) (i1 : i < m) (j0 : 0 ≤ j) (j1 : j < m) (h : Q (am_i (v_tl W (L i) - W (500 + L j))) K N I P z) : am_C d m_X6_gapBetween [am_r s, am_i i, am_i j] K N I P z Q am_nx := by
  obtain ⟨s0, s1, s2, s3, s4, s5, s6, s7, s8, s9, s10, s11, s12, s13⟩ := id hS.k; obtain ⟨t0, t1, t2, t3, t4, t5, t6⟩ := id hS.p; have tm := hS.ob; have hm2 := hS.m2
  have a := hS.b.on i0 i1
  have b := hS.b.on j0 j1
  have ga := hG.pt (L i) a.1 a.2.1
  have gb := hG.pt (L j) b.1 b.2.1
  refine wf_X6_gapBetween hd ⟨s0, s + 6, t3, s10, by omega, π i, hS.i.pl i0 (by omega), hS.kp i0 (by omega), cp_tail (hS.kp i0 (by omega)) (hS.t i i0 i1) hG a.1 a.2.1 ?_⟩
  refine ⟨s0, s + 6, t3, s10, by omega, π j, hS.i.pl j0 (by omega), hS.kp j0 (by omega), ?_⟩
  rw [(hS.t j j0 j1).2.2.1]
  simp only [v_tl] at h ⊢
  rw [am_wE (by omega) (by omega)]
  exact h
theorem cs_free (hd : 1 ≤ d) (hS : ST K N I P s W m L π) (hG : v_G W) (h : Q (am_i (if m = 0 then 1000000 else v_tl W (L (m - 1)))) K N I P z) : am_C d m_X6_freeAtEntry [am_r s] K N I P z Q am_nx := by
  obtain ⟨s0, s1, s2, s3, s4, s5, s6, s7, s8, s9, s10, s11, s12, s13⟩ := id hS.k; obtain ⟨t0, t1, t2, t3, t4, t5, t6⟩ := id hS.p; have tm := hS.ob; have hm2 := hS.m2
  refine wf_X6_freeAtEntry hd ⟨s0, fun q => ?_, fun q => ?_⟩
  · rw [if_pos (by omega)] at h; exact h
  · rw [if_neg (by omega)] at h
    have a := hS.b.on (j := m - 1) (by omega) (by omega)
    rw [tm, am_wE (by omega) (by omega)]
    exact ⟨s + 6, t3, s10, by omega, π (m - 1), hS.i.pl (by omega) (by omega), hS.kp (by omega) (by omega), cp_tail (hS.kp (by omega) (by omega)) (hS.t (m - 1) (by omega) (by omega)) hG a.1 a.2.1 h⟩
/-! routes -/
theorem cr_placeFor (hk : SK K N s) (hp : SP P s) (hc : SC I s W) (h8 : 0 ≤ W 8 ∧ W 8 ≤ 30) {c : Int} (h : Q (am_i (v_place W c)) K N I P z) : am_C d m_X3_placeFor [am_r (s + 3), am_i c] K N I P z Q am_nx := by
  obtain ⟨s0, s1, s2, s3, s4, s5, s6, s7, s8, s9, s10, s11, s12, s13⟩ := hk
  obtain ⟨t0, t1, t2, t3, t4, t5, t6⟩ := hp
  obtain ⟨c0, c1, c2, c3, c4, c5⟩ := hc
  refine wf_X3_placeFor ?_
  have key : ∀ (n : Nat) (j : Int), 0 ≤ j → j + n = W 8 → Q (am_i (v_pl W c n j)) K N I P z → L_X3_placeFor_2 d (s + 3) c j K N I P z Q := by
    intro n
    induction n with
    | zero =>
      intro j j0 j1 hh
      refine wf_X3_placeFor_2 ⟨s5, fun q => ?_, fun q => absurd c3 (by omega)⟩
      rw [c3, ← j1]; simpa [v_pl] using hh
    | succ n ih =>
      intro j j0 j1 hh
      unfold v_pl at hh
      have e := (c4 j j0 (by omega)).1
      refine wf_X3_placeFor_2 ⟨s5, fun q => absurd c3 (by omega), fun q => ⟨s + 4, t4, s6, by omega, fun r => ?_, fun r => ?_⟩⟩
      · rw [e] at r
        rw [if_neg (by omega)] at hh
        rw [am_wE (by omega) (by omega)]
        exact ih (j + 1) (by omega) (by omega) hh
      · rw [e] at r
        rw [if_pos (by omega)] at hh
        exact hh
  exact key (W 8).toNat 0 (by omega) (by omega) h
theorem cr_laneOf (hd : 1 ≤ d) (hk : SK K N s) (hp : SP P s) (hc : SC I s W) (h8 : 0 ≤ W 8 ∧ W 8 ≤ 30) {c : Int} (h : Q (am_i (if v_has W c then W (76 + v_place W c) else -1)) K N I P z) : am_C d m_X3_laneOf [am_r (s + 3), am_i c] K N I P z Q am_nx := by
  have b := v_place_bd h8.1 c
  refine wf_X3_laneOf hd ⟨hk.2.2.2.2.2.1, cr_placeFor hk hp hc h8 ?_⟩
  obtain ⟨s0, s1, s2, s3, s4, s5, s6, s7, s8, s9, s10, s11, s12, s13⟩ := hk
  obtain ⟨t0, t1, t2, t3, t4, t5, t6⟩ := hp
  obtain ⟨c0, c1, c2, c3, c4, c5⟩ := hc
  refine ⟨s5, fun q => ?_, fun q => ⟨s + 4, t4, s6, by omega, fun r => ?_, fun r => ⟨s + 5, t5, s8, by omega, ?_⟩⟩⟩
  · rw [c3] at q
    rw [if_neg (fun r => absurd r.1 (by omega))] at h
    exact h
  · rw [c3] at q
    rw [(c4 _ b.1 (by omega)).1] at r
    rw [if_neg (fun q2 => r q2.2)] at h
    exact h
  · rw [c3] at q
    rw [(c4 _ b.1 (by omega)).1] at r
    rw [(c4 _ b.1 (by omega)).2]
    rw [if_pos ⟨by omega, r⟩] at h
    exact h
theorem cr_countTo (hk : SK K N s) (hp : SP P s) (hc : SC I s W) (h8 : 0 ≤ W 8 ∧ W 8 ≤ 30) {a : Int} (h : Q (am_i (v_rts W a)) K N I P z) : am_C d m_X3_countTo [am_r (s + 3), am_i a] K N I P z Q am_nx := by
  obtain ⟨s0, s1, s2, s3, s4, s5, s6, s7, s8, s9, s10, s11, s12, s13⟩ := hk
  obtain ⟨t0, t1, t2, t3, t4, t5, t6⟩ := hp
  obtain ⟨c0, c1, c2, c3, c4, c5⟩ := hc
  refine wf_X3_countTo ?_
  have key : ∀ (n j : Nat), (j : Int) + n = W 8 → L_X3_countTo_4 d (s + 3) a (v_cnt (fun k => decide (W (76 + k) = a)) j) j K N I P z Q := by
    intro n
    induction n with
    | zero =>
      intro j hj
      refine wf_X3_countTo_4 ⟨s5, fun q => ?_, fun q => absurd c3 (by omega)⟩
      rw [show j = (W 8).toNat by omega]; exact h
    | succ n ih =>
      intro j hj
      have ih2 := ih (j + 1) (by omega)
      have bd := v_cnt_bd (fun k => decide (W (76 + k) = a)) j
      rw [v_cnt] at ih2
      generalize v_cnt (fun k => decide (W (76 + k) = a)) j = e at *
      simp only [decide_eq_true_eq, Int.natCast_add, Int.cast_ofNat_Int] at ih2
      have e5 := (c4 j (by omega) (by omega)).2
      refine wf_X3_countTo_4 ⟨s5, fun q => absurd c3 (by omega), fun q => ⟨s + 5, t5, s8, by omega, fun r => ?_, fun r => ?_⟩⟩
      · rw [e5] at r
        rw [if_neg r, show e + 0 = e by omega] at ih2
        rw [am_wE (by omega) (by omega)]
        exact ih2
      · rw [e5] at r
        rw [if_pos r] at ih2
        rw [am_wE (x := e + 1) (by omega) (by omega), am_wE (by omega) (by omega)]
        exact ih2
  exact key (W 8).toNat 0 (by omega)
/-! the rule -/
/-- node: the place in the rows of the rule r, p: in the text T; both ends behind -/
def RN (I : Nat → Nat → Int) (r : Nat) (T : Int → Int) : Nat → Int → Int → Int → Int → Prop
  | 0, _, _, _, _ => False
  | f + 1, nd, p, nd', p' => (0 ≤ nd ∧ nd < I r 4) ∧ ((I (r + 1) nd.toNat = 120 ∧ nd' = nd + 1 ∧ p' = p + 1 ∧ ((T p = 120 ∧ I (r + 2) nd.toNat = -1) ∨ ((48 ≤ T p ∧ T p ≤ 53) ∧ I (r + 2) nd.toNat = T p - 48))) ∨
    (T p = 63 ∧ v_cok T (p + 1) = true ∧ I (r + 1) nd.toNat = T (p + 1) ∧ I (r + 2) nd.toNat = (v_n T (p + 2)).1 ∧ (T (p + 1) = 109 → I (r + 3) nd.toNat = (v_n T ((v_n T (p + 2)).2 + 1)).1) ∧ ∃ n1 p1, RN I r T f (nd + 1) (v_cend T (p + 1)) n1 p1 ∧ I (r + 4) nd.toNat = n1 ∧ nd + 1 < n1 ∧ RN I r T f n1 p1 nd' p'))
/-- a rule as an object -/
def RO (K N : Nat → Nat) (P : Nat → Nat → Option Nat) (r : Nat) : Prop := K r = 4 ∧ P r 0 = some (r + 1) ∧ P r 1 = some (r + 2) ∧ P r 2 = some (r + 3) ∧ P r 3 = some (r + 4) ∧ K (r + 1) = 9 ∧ N (r + 1) = 80 ∧ K (r + 2) = 10 ∧ N (r + 2) = 80 ∧ K (r + 3) = 10 ∧ N (r + 3) = 80 ∧ K (r + 4) = 10 ∧ N (r + 4) = 80
theorem RN.rend {r : Nat} {T : Int → Int} : ∀ (f : Nat) (nd p nd' p' : Int), RN I r T f nd p nd' p' → v_rend T f p = some p'
  | 0, _, _, _, _, h => h.elim
  | f + 1, nd, p, nd', p', h => by
    unfold v_rend
    rcases h.2 with ⟨h1, h2, h3, h4⟩ | ⟨h1, h2, h3, h4, h5, n1, p1, h6, h7, h8, h9⟩
    · rw [if_pos (by rcases h4 with q | q; exact Or.inl q.1; exact Or.inr q.1), h3]
    · rw [if_neg (by omega), if_pos ⟨h1, h2⟩, RN.rend f _ _ _ _ h6]
      exact RN.rend f _ _ _ _ h9
theorem v_cok_kind {T : Int → Int} {p : Int} (h : v_cok T p = true) : T p = 99 ∨ T p = 108 ∨ T p = 109 := (v_cok_k h).1
theorem cu_holds {k a b c l : Int} {T : Int → Int} {p : Int} (hok : v_cok T p = true) (hk : k = T p) (ha : a = (v_n T (p + 1)).1) (hb : T p = 109 → b = (v_n T ((v_n T (p + 1)).2 + 1)).1) (c0 : 0 ≤ c) (c1 : c ≤ 999) (h : Q (am_i (if v_chold T p c l = true then 1 else 0)) K N I P z) : am_C d m_X4_holds [am_i k, am_i a, am_i b, am_i c, am_i l] K N I P z Q am_nx := by
  obtain ⟨g1, g2, g3, g4⟩ := v_cok_k hok
  obtain ⟨b1, b2, b3, b4, b5⟩ := v_n_cases g2
  unfold v_chold at h
  rw [← hk] at h g1 hb g3
  rw [← ha] at h b3 b4 g3
  refine wf_X4_holds ⟨fun q => ⟨fun r => ?_, fun r => ?_⟩, fun q => ⟨fun q2 => ⟨fun r => ?_, fun r => ?_⟩, fun q2 => ⟨fun q3 => ⟨fun r => ?_, fun r => ⟨r, fun r2 => ?_, fun r2 => ?_⟩⟩, fun q3 => absurd g1 (by omega)⟩⟩⟩
  · rw [if_neg (show ¬ k = 109 by omega), if_pos q, if_neg (by simp only [decide_eq_true_eq]; omega)] at h; exact h
  · rw [if_neg (show ¬ k = 109 by omega), if_pos q, if_pos (by simp only [decide_eq_true_eq]; omega)] at h; exact h
  · rw [if_neg (show ¬ k = 109 by omega), if_neg q, if_neg (by simp only [decide_eq_true_eq]; omega)] at h; exact h
  · rw [if_neg (show ¬ k = 109 by omega), if_neg q, if_pos (by simp only [decide_eq_true_eq]; omega)] at h; exact h
  · exact ((g3 q3).2.1 r).elim
  · have hm2 := Int.emod_nonneg c r
    have hm3 := Int.emod_lt_of_pos c (b := a) (by omega)
    rw [v_rem c0 (by omega), am_wE (by omega) (by omega), hb q3] at r2
    rw [if_pos q3, if_neg (by simp only [decide_eq_true_eq]; exact r2)] at h
    exact h
  · have hm2 := Int.emod_nonneg c r
    have hm3 := Int.emod_lt_of_pos c (b := a) (by omega)
    rw [v_rem c0 (by omega), am_wE (by omega) (by omega), hb q3] at r2
    rw [if_pos q3, if_pos (by simp only [decide_eq_true_eq]; exact r2)] at h
    exact h
theorem cu_laneBy (hd : 1 ≤ d) {r : Nat} {T : Int → Int} (hr : RO K N P r) (h4 : I r 4 ≤ 80) {c l : Int} (c0 : 0 ≤ c) (c1 : c ≤ 999) : ∀ (f : Nat) (nd p nd' p' k : Int), RN I r T f nd p nd' p' → 0 ≤ k → k ≤ nd → (∀ x : Int, (x = -1 ∧ v_rev T f p c l = 120) ∨ (x = v_rev T f p c l - 48 ∧ 48 ≤ v_rev T f p c l ∧ v_rev T f p c l ≤ 53) → Q (am_i x) K N I P z) → L_X4_laneBy_5 d r c l nd k K N I P z Q
  | 0, _, _, _, _, _, h, _, _, _ => h.elim
  | f + 1, nd, p, nd', p', k, h, k0, k1, hq => by
    obtain ⟨r0, q0, q1, q2, q3, r1, n1, r2, n2, r3, n3, r4, n4⟩ := id hr
    unfold v_rev at hq
    obtain ⟨hb, h⟩ := h
    refine wf_X4_laneBy_5 hd ⟨fun e => absurd e (by omega), fun e => ⟨fun e2 => absurd e2 (by omega), fun e2 => ⟨r0, fun e3 => ⟨r + 1, q0, r1, by omega, fun e4 => ?_, fun e4 => ?_⟩, fun e3 => absurd hb.2 e3⟩⟩⟩
    · refine ⟨by omega, r + 2, q1, r2, by omega, r + 3, q2, r3, by omega, ?_⟩
      rcases h with ⟨h1, h2⟩ | ⟨h1, h2, h3, h4, h5, n1, p1, h6, h7, h8, h9⟩
      · exact (e4 h1).elim
      · have ep : p + 1 + 1 = p + 2 := by omega
        refine cu_holds (T := T) (p := p + 1) h2 h3 (by rw [ep]; exact h4) (by rw [ep]; exact h5) c0 c1 ?_
        rw [if_pos h1] at hq
        rw [am_wE (by omega) (by omega)]
        by_cases hc : v_chold T (p + 1) c l = true
        · rw [if_pos hc] at hq ⊢
          refine ⟨fun e => absurd e (by decide), fun _ => ?_⟩
          rw [am_wE (by omega) (by omega)]
          exact cu_laneBy hd hr (by omega) c0 c1 f (nd + 1) _ _ _ (k + 1) h6 (by omega) (by omega) hq
        · rw [if_neg hc] at hq ⊢
          refine ⟨fun _ => ⟨r0, r + 4, q3, r4, by omega, ?_⟩, fun e => absurd rfl e⟩
          rw [h7]
          rw [RN.rend f _ _ _ _ h6, Option.getD_some] at hq
          exact cu_laneBy hd hr (by omega) c0 c1 f n1 p1 _ _ (k + 1) h9 (by omega) (by omega) hq
    · refine ⟨r + 2, q1, r2, by omega, ?_⟩
      rcases h with ⟨h1, h2, h3, h4⟩ | ⟨h1, h2, h3, h4, h5, n1, p1, h6, h7, h8, h9⟩
      · rw [if_neg (by omega)] at hq
        rcases h4 with ⟨g1, g2⟩ | ⟨g1, g2⟩
        · exact hq _ (Or.inl ⟨g2, g1⟩)
        · exact hq _ (Or.inr ⟨g2, g1⟩)
      · have := v_cok_kind h2
        omega
end
