section
variable {d : Nat} {K N : Nat → Nat} {I I' : Nat → Nat → Int} {P P' : Nat → Nat → Option Nat} {z : Nat} {Q : am_V → am_T} {W W' W0 : Int → Int} {s s2 : Nat} {m m0 : Int} {L : Int → Int} {π π2 : Int → Nat}
theorem v_new_o {W : Int → Int} {x i : Int} (h0 : ¬ i = 9) (h : ∀ c : Int, (c = 200 ∨ c = 500 ∨ c = 800 ∨ c = 1100 ∨ c = 1400 ∨ c = 1700 ∨ c = 2000 ∨ c = 2300 ∨ c = 2600 ∨ c = 2900) → ¬ i = c + W 9) : v_new W x i = W i := by
  unfold v_new
  have h2 := h 200 (by omega)
  have h3 := h 500 (by omega)
  have h4 := h 800 (by omega)
  have h5 := h 1100 (by omega)
  have h6 := h 1400 (by omega)
  have h7 := h 1700 (by omega)
  have h8 := h 2000 (by omega)
  have h9 := h 2300 (by omega)
  have h10 := h 2600 (by omega)
  have h11 := h 2900 (by omega)
  rw [if_neg h0, if_neg h2, if_neg h5, if_neg (by omega)]
theorem v_new_9 {W : Int → Int} {x : Int} : v_new W x 9 = W 9 + 1 := if_pos rfl
theorem v_new_p {W : Int → Int} {x : Int} (h0 : 0 ≤ W 9) (h1 : W 9 ≤ 299) : v_new W x (200 + W 9) = x ∧ v_new W x (500 + W 9) = 0 ∧ v_new W x (800 + W 9) = 0 ∧ v_new W x (1100 + W 9) = -1 ∧ v_new W x (1400 + W 9) = 0 ∧ v_new W x (1700 + W 9) = 0 ∧ v_new W x (2000 + W 9) = 0 ∧ v_new W x (2300 + W 9) = 0 ∧ v_new W x (2600 + W 9) = 0 ∧ v_new W x (2900 + W 9) = 0 := by
  unfold v_new
  refine ⟨?_, ?_, ?_, ?_, ?_, ?_, ?_, ?_, ?_, ?_⟩ <;> simp (disch := omega) only [if_pos, if_neg, if_true, true_or, or_true]
theorem cp_begin {b : Nat} {p x : Int} (hk : K b = 2) (h : ∀ I', (∀ a, ¬ a = b → I' a = I a) → (I' b 0 = p ∧ I' b 1 = x ∧ I' b 2 = 0 ∧ I' b 3 = 0 ∧ I' b 4 = -1 ∧ I' b 5 = 0 ∧ I' b 6 = 0 ∧ I' b 7 = 0 ∧ I' b 8 = 0 ∧ I' b 9 = 0 ∧ I' b 10 = 0) → Q am_nl K N I' P z) : am_C d m_X2_begin [am_r b, am_i p, am_i x] K N I P z Q am_nx := by
  refine wf_X2_begin ⟨hk, ?_⟩
  rintro I2 rfl I3 rfl I4 rfl I5 rfl I6 rfl I7 rfl I8 rfl I9 rfl I10 rfl I11 rfl I12 rfl I13 rfl
  refine h _ (fun a ha => ?_) ?_
  · rw [am_u2_ne ha, am_u2_ne ha, am_u2_ne ha, am_u2_ne ha, am_u2_ne ha, am_u2_ne ha, am_u2_ne ha, am_u2_ne ha, am_u2_ne ha, am_u2_ne ha, am_u2_ne ha, am_u2_ne ha]
  · refine ⟨?_, ?_, ?_, ?_, ?_, ?_, ?_, ?_, ?_, ?_, ?_⟩ <;> simp (disch := omega) only [am_u2_o, am_u2_s]
/-- an object that stands for no part on the belt has changed -/
theorem ST.un (hS : ST K N I P s W m L π) {i : Int} (i0 : m ≤ i) (i1 : i < 20) (hI : ∀ a, ¬ a = π i → I' a = I a) : ST K N I' P s W m L π := by
  have hm := hS.m2
  have b := hS.i.bd (j := i) (by omega) i1
  refine ⟨hS.k, hS.p, hS.i, hS.c.cg (fun a k x y _ => by rw [hI a (by omega)]) (fun _ _ _ => rfl), by rw [hI s (by omega)]; exact hS.ob, hS.b, hm.2, fun j x y => ?_⟩
  exact (hS.t j x y).cg (fun k _ => by rw [hI _ (hS.ne (by omega) i1 x (by omega) (by omega))]) ⟨rfl, rfl, rfl, rfl, rfl, rfl, rfl, rfl, rfl, rfl⟩
theorem cs_begin (hd : 2 ≤ d) (hS : ST K N I P s W m L π) (hG : v_G W) (hB : SBo I s) (hm : m < 20) (h9 : W 9 < 300) {x : Int} (hfree : m = 0 ∨ 0 ≤ v_tl W (L (m - 1))) (h : ∀ I', (∀ a, ¬ (s ≤ a ∧ a < s + 33) → I' a = I a) → SBo I' s → ST K N I' P s (v_ent W x) (m + 1) (fun j => if j = m then W 9 else L j) π → Q (am_i (W 9)) K N I' P z) : am_C d m_X6_beginPart [am_r s, am_i x] K N I P z Q am_nx := by
  have g9 := hG.n9
  obtain ⟨s0, s1, s2, s3, s4, s5, s6, s7, s8, s9, s10, s11, s12, s13⟩ := id hS.k; obtain ⟨t0, t1, t2, t3, t4, t5, t6⟩ := id hS.p; have tm := hS.ob; have hm2 := hS.m2
  have bm := hS.i.bd (j := m) (by omega) hm
  have km := hS.kp (j := m) (by omega) hm
  have e7 : I s 7 = W 9 := hS.c.2.2.2.2.2.1
  have la := hS.b.la (by omega)
  have np := v_new_p (W := W) (x := x) (by omega) (by omega)
  obtain ⟨n1, n2, n3, n4, n5, n6, n7, n8, n9, n10⟩ := np
  -- what is so in the end; u: whether both are merged
  have fin : ∀ (u : Prop) (I1 I2 : Nat → Nat → Int) (V : Int → Int), (∀ a, ¬ a = π m → I1 a = I a) → (I1 (π m) 0 = W 9 ∧ I1 (π m) 1 = x ∧ I1 (π m) 2 = 0 ∧ I1 (π m) 3 = 0 ∧ I1 (π m) 4 = -1 ∧ I1 (π m) 5 = 0 ∧ I1 (π m) 6 = 0 ∧ I1 (π m) 7 = 0 ∧ I1 (π m) 8 = 0 ∧ I1 (π m) 9 = 0 ∧ I1 (π m) 10 = 0) → ((¬ u ∧ I2 = I1 ∧ V = v_new W x) ∨ (0 < m ∧ I2 = am_u2 (am_u2 I1 (π m) 6 1) (π (m - 1)) 6 1 ∧ V = v_u (v_u (v_new W x) (1700 + W 9) 1) (1700 + L (m - 1)) 1)) → V = v_ent W x → Q (am_i (W 9)) K N (am_u2 (am_u2 I2 s 6 (m + 1)) s 7 (W 9 + 1)) P z := by
    intro u I1 I2 V f0 f1 hu hV
    obtain ⟨q0, q1, q2, q3, q4, q5, q6, q7, q8, q9, q10⟩ := f1
    have o1 : ∀ j, 0 ≤ j → j < m → 0 ≤ L j ∧ L j < W 9 ∧ W (800 + L j) = 0 := fun j a b => hS.b.on a b
    have vo : ∀ i : Int, ¬ i = 9 → (∀ c : Int, (c = 200 ∨ c = 500 ∨ c = 800 ∨ c = 1100 ∨ c = 1400 ∨ c = 1700 ∨ c = 2000 ∨ c = 2300 ∨ c = 2600 ∨ c = 2900) → ¬ i = c + W 9) → ¬ (0 < m ∧ i = 1700 + L (m - 1)) → V i = W i := by
      intro i a b c
      rcases hu with ⟨_, _, r⟩ | ⟨p1, _, r⟩
      · rw [r]; exact v_new_o a b
      · rw [r, v_un (fun e => c ⟨p1, e⟩), v_un (b 1700 (by omega))]; exact v_new_o a b
    have v9 : V 9 = W 9 + 1 := by
      rcases hu with ⟨_, _, r⟩ | ⟨p1, _, r⟩
      · rw [r]; exact v_new_9
      · have := o1 (m - 1) (by omega) (by omega)
        rw [r, v_un (by omega), v_un (by omega)]; exact v_new_9
    have i2 : ∀ a k, ¬ (a = π m) → ¬ (0 < m ∧ a = π (m - 1) ∧ k = 6) → I2 a k = I a k := by
      intro a k h1 h2
      rcases hu with ⟨_, r, _⟩ | ⟨p1, r, _⟩
      · rw [r, f0 a h1]
      · rw [r, am_u2_o (fun e => h2 ⟨p1, e⟩), am_u2_o (fun e => h1 e.1), f0 a h1]
    have nem : ∀ j : Int, 0 ≤ j → j < m → ¬ π j = π m := fun j a b => hS.ne (by omega) hm a (by omega) (by omega)
    have bb : ∀ j : Int, 0 ≤ j → j < 20 → s + 13 ≤ π j ∧ π j < s + 33 := fun j a b => hS.i.bd a b
    refine h _ (fun a ha => ?_) (fun a a1 a2 => ?_) ?_
    · rw [am_u2_ne (by omega), am_u2_ne (by omega)]
      refine funext fun k => i2 a k (by omega) (fun e => ?_)
      have := bb (m - 1) (by omega) (by omega)
      omega
    · rw [am_u2_o (by omega), am_u2_o (by omega), am_u2_o (by omega), am_u2_o (by omega)]
      by_cases e : a = π m
      · subst e
        rcases hu with ⟨_, r, _⟩ | ⟨p1, r, _⟩
        · rw [r, q5, q6]; exact ⟨Or.inl rfl, Or.inl rfl⟩
        · have ne := nem (m - 1) (by omega) (by omega)
          rw [r, am_u2_o (by omega), am_u2_o (by omega), q5, am_u2_o (fun e => ne e.1.symm), am_u2_s]; exact ⟨Or.inl rfl, Or.inr rfl⟩
      · have hb := hB a a1 a2
        rw [i2 a 5 e (by omega)]
        refine ⟨hb.1, ?_⟩
        by_cases e2 : 0 < m ∧ a = π (m - 1)
        · rcases hu with ⟨_, r, _⟩ | ⟨p1, r, _⟩
          · rw [r, f0 a e]; exact hb.2
          · rw [r, e2.2, am_u2_s]; exact Or.inr rfl
        · rw [i2 a 6 e (fun q => e2 ⟨q.1, q.2.1⟩)]; exact hb.2
    · rw [← hV]
      refine ⟨hS.k, hS.p, hS.i, ?_, by rw [am_u2_o (by omega), am_u2_s], ⟨by omega, fun j a b => ?_, fun i j a b e => ?_, fun p a b e => ?_⟩, by omega, fun j a b => ?_⟩
      · obtain ⟨c0, c1, c2, c3, c4, c5, c6, c7⟩ := hS.c
        have g : ∀ a k, s ≤ a → a < s + 13 → ¬ (a = s ∧ (k = 6 ∨ k = 7)) → am_u2 (am_u2 I2 s 6 (m + 1)) s 7 (W 9 + 1) a k = I a k := by
          intro a k x1 x2 x3
          rw [am_u2_o (by omega), am_u2_o (by omega)]
          refine i2 a k (by omega) (fun e => ?_)
          have := bb (m - 1) (by omega) (by omega)
          omega
        have w : ∀ i : Int, 0 ≤ i → i < 106 → ¬ i = 9 → V i = W i := fun i x1 x2 x3 => vo i x3 (fun c hc => by omega) (fun e => by have := o1 (m - 1) (by omega) (by omega); omega)
        refine ⟨fun k a b => ?_, ?_, fun i k a b e f => ?_, ?_, fun k a b => ⟨?_, ?_⟩, ?_, ?_, ?_⟩
        · rw [g _ _ (by omega) (by omega) (by omega), w _ (by omega) (by omega) (by omega)]; exact c0 k a b
        · rw [g _ _ (by omega) (by omega) (by omega), w _ (by omega) (by omega) (by omega)]; exact c1
        · rw [g _ _ (by omega) (by omega) (by omega), w _ (by omega) (by omega) (by omega)]; exact c2 i k a b e f
        · rw [g _ _ (by omega) (by omega) (by omega), w _ (by omega) (by omega) (by omega)]; exact c3
        · rw [g _ _ (by omega) (by omega) (by omega), w _ (by omega) (by omega) (by omega)]; exact (c4 k a b).1
        · rw [g _ _ (by omega) (by omega) (by omega), w _ (by omega) (by omega) (by omega)]; exact (c4 k a b).2
        · rw [am_u2_s, v9]
        · rw [g _ _ (by omega) (by omega) (by omega), w _ (by omega) (by omega) (by omega)]; exact c6
        · rw [g _ _ (by omega) (by omega) (by omega), w _ (by omega) (by omega) (by omega)]; exact c7
      · have v8 : V (800 + W 9) = 0 := by
          rcases hu with ⟨_, _, r⟩ | ⟨p1, _, r⟩
          · rw [r]; exact n3
          · have := o1 (m - 1) (by omega) (by omega)
            rw [r, v_un (by omega), v_un (by omega)]; exact n3
        simp only
        by_cases q : j = m
        · rw [if_pos q, v9]; exact ⟨by omega, by omega, v8⟩
        · rw [if_neg q, v9]
          have o := o1 j a (by omega)
          refine ⟨o.1, by omega, ?_⟩
          rw [vo _ (by omega) (fun c hc => by omega) (fun e => by have := o1 (m - 1) (by omega) (by omega); omega)]
          exact o.2.2
      · simp only
        rw [if_neg (show ¬ i = m by omega)]
        by_cases q : j = m
        · rw [if_pos q]; exact (o1 i a (by omega)).2.1
        · rw [if_neg q]; exact hS.b.lt a b (by omega)
      · rw [v9] at b
        by_cases q : p = W 9
        · exact ⟨m, by omega, by omega, by show (if m = m then W 9 else L m) = p; rw [if_pos rfl]; exact q.symm⟩
        · rw [vo _ (by omega) (fun c hc => by omega) (fun e => by have := o1 (m - 1) (by omega) (by omega); omega)] at e
          obtain ⟨j, j0, j1, j2⟩ := hS.b.ex a (by omega) e
          exact ⟨j, j0, by omega, by simp only; rw [if_neg (by omega)]; exact j2⟩
      · simp only
        have bj := bb j a (by omega)
        have g : ∀ k, am_u2 (am_u2 I2 s 6 (m + 1)) s 7 (W 9 + 1) (π j) k = I2 (π j) k := fun k => by rw [am_u2_o (by omega), am_u2_o (by omega)]
        unfold PC
        rw [g 0, g 1, g 2, g 3, g 4, g 5, g 6, g 7, g 8, g 9, g 10]
        by_cases q : j = m
        · subst q
          rw [if_pos rfl]
          rcases hu with ⟨_, r, r2⟩ | ⟨p1, r, r2⟩
          · rw [r, r2, n1, n2, n3, n4, n5, n6, n7, n8, n9, n10]
            exact ⟨q0, q1, q2, q3, q4, q5, q6, q7, q8, q9, q10⟩
          · have ne := nem (j - 1) (by omega) (by omega)
            have o := o1 (j - 1) (by omega) (by omega)
            have gi : ∀ k, ¬ k = 6 → am_u2 (am_u2 I1 (π j) 6 1) (π (j - 1)) 6 1 (π j) k = I1 (π j) k := fun k hk => by rw [am_u2_o (by omega), am_u2_o (by omega)]
            have g6 : am_u2 (am_u2 I1 (π j) 6 1) (π (j - 1)) 6 1 (π j) 6 = 1 := by rw [am_u2_o (fun e => ne e.1.symm), am_u2_s]
            have gw : ∀ c : Int, ¬ c = 1700 → (c = 200 ∨ c = 500 ∨ c = 800 ∨ c = 1100 ∨ c = 1400 ∨ c = 2000 ∨ c = 2300 ∨ c = 2600 ∨ c = 2900) → v_u (v_u (v_new W x) (1700 + W 9) 1) (1700 + L (j - 1)) 1 (c + W 9) = v_new W x (c + W 9) := fun c _ hc => by rw [v_un (by omega), v_un (by omega)]
            have g17 : v_u (v_u (v_new W x) (1700 + W 9) 1) (1700 + L (j - 1)) 1 (1700 + W 9) = 1 := by rw [v_un (by omega), v_us]
            rw [r, r2, gi 0 (by omega), gi 1 (by omega), gi 2 (by omega), gi 3 (by omega), gi 4 (by omega), gi 5 (by omega), g6, gi 7 (by omega), gi 8 (by omega), gi 9 (by omega), gi 10 (by omega), gw 200 (by omega) (by omega), gw 500 (by omega) (by omega), gw 800 (by omega) (by omega), gw 1100 (by omega) (by omega), gw 1400 (by omega) (by omega), g17, gw 2000 (by omega) (by omega), gw 2300 (by omega) (by omega), gw 2600 (by omega) (by omega), gw 2900 (by omega) (by omega), n1, n2, n3, n4, n5, n7, n8, n9, n10]
            exact ⟨q0, q1, q2, q3, q4, q5, rfl, q7, q8, q9, q10⟩
        · rw [if_neg q]
          have o := o1 j a (by omega)
          have ne := nem j a (by omega)
          obtain ⟨e0, e1, e2, e3, e4, e5, e6, e7, e8, e9, e10⟩ := hS.t j a (by omega)
          have gi : ∀ k, ¬ k = 6 → I2 (π j) k = I (π j) k := fun k hk => i2 _ k ne (fun e => hk e.2.2)
          have gw : ∀ c : Int, ¬ c = 1700 → (c = 200 ∨ c = 500 ∨ c = 800 ∨ c = 1100 ∨ c = 1400 ∨ c = 2000 ∨ c = 2300 ∨ c = 2600 ∨ c = 2900) → V (c + L j) = W (c + L j) := fun c h1 hc => vo _ (by omega) (fun c2 hc2 => by omega) (fun e => by have := o1 (m - 1) (by omega) (by omega); omega)
          have g6 : I2 (π j) 6 = V (1700 + L j) := by
            rcases hu with ⟨_, r, r2⟩ | ⟨p1, r, r2⟩
            · rw [r, r2, f0 _ ne, v_new_o (by omega) (fun c hc => by omega)]; exact e6
            · by_cases t : j = m - 1
              · subst t
                rw [r, r2, am_u2_s, v_us]
              · have ol := o1 (m - 1) (by omega) (by omega)
                rw [r, r2, am_u2_o (fun e => hS.ne (i := m - 1) (j := j) (by omega) (by omega) a (by omega) t e.1), am_u2_o (fun e => ne e.1), f0 _ ne, v_un (fun e => t (hS.b.inj a (by omega) (by omega) (by omega) (by omega))), v_un (by omega), v_new_o (by omega) (fun c hc => by omega)]; exact e6
          rw [gi 0 (by omega), gi 1 (by omega), gi 2 (by omega), gi 3 (by omega), gi 4 (by omega), gi 5 (by omega), g6, gi 7 (by omega), gi 8 (by omega), gi 9 (by omega), gi 10 (by omega), gw 200 (by omega) (by omega), gw 500 (by omega) (by omega), gw 800 (by omega) (by omega), gw 1100 (by omega) (by omega), gw 1400 (by omega) (by omega), gw 2000 (by omega) (by omega), gw 2300 (by omega) (by omega), gw 2600 (by omega) (by omega), gw 2900 (by omega) (by omega)]
          exact ⟨e0, e1, e2, e3, e4, e5, rfl, e7, e8, e9, e10⟩
  refine wf_X6_beginPart (by omega) ⟨s0, fun _ => ⟨s + 6, t3, s10, by omega, π m, by rw [tm]; exact hS.i.pl (by omega) hm, km, ?_⟩, fun q => absurd tm (by omega)⟩
  rw [e7]
  refine cp_begin km ?_
  intro I1 f0 f1
  have tm1 : I1 s 6 = m := by rw [f0 s (by omega)]; exact tm
  have t71 : I1 s 7 = W 9 := by rw [f0 s (by omega)]; exact e7
  have hS1 := hS.un (I' := I1) (Int.le_refl m) hm f0
  have end1 : ∀ V, V = v_new W x → V = v_ent W x → ∀ I12, I12 = am_u2 I1 s 6 (am_wr (I1 s 6 + 1)) → ∀ I13, I13 = am_u2 I12 s 7 (am_wr (I12 s 7 + 1)) → Q (am_i (W 9)) K N I13 P z := by
    intro V hV1 hV2
    rintro I12 rfl I13 rfl
    rw [tm1, am_wE (by omega) (by omega), am_u2_o (I := I1) (a := s) (k := 6) (b := s) (j := 7) (by omega), t71, am_wE (by omega) (by omega)]
    exact fin False I1 I1 V f0 f1 (Or.inl ⟨fun q => q, rfl, hV1⟩) hV2
  refine ⟨s0, fun q => ?_, fun q => ?_⟩
  · refine end1 _ rfl ?_
    unfold v_ent
    rw [la, if_pos (show m = 0 by omega), if_neg (fun q => q.1 rfl)]
  · have m0 : 0 < m := by omega
    have ol := hS.b.on (j := m - 1) (by omega) (by omega)
    refine cs_free (by omega) hS1 hG ?_
    rw [if_neg (show ¬ m = 0 by omega)]
    refine ⟨s0, s + 1, t0, s1, by omega, ?_⟩
    have c5 := hS1.c.st5
    rw [c5]
    refine ⟨fun r => ?_, fun r => ⟨km, ?_⟩⟩
    · refine end1 _ rfl ?_
      unfold v_ent
      rw [la, if_neg (show ¬ m = 0 by omega), if_neg (fun q => absurd q.2 (by omega))]
    · rintro I26 rfl
      have tm2 : am_u2 I1 (π m) 6 1 s 6 = m := by rw [am_u2_o (by omega)]; exact tm1
      rw [tm2, am_wE (x := m - 1) (by omega) (by omega)]
      refine ⟨s + 6, t3, s10, by omega, π (m - 1), hS.i.pl (by omega) (by omega), hS.kp (by omega) (by omega), ?_⟩
      have b1 := hS.i.bd (j := m - 1) (by omega) (by omega)
      rintro I31 rfl I32 rfl I33 rfl
      have tm3 : am_u2 (am_u2 I1 (π m) 6 1) (π (m - 1)) 6 1 s 6 = m := by rw [am_u2_o (by omega)]; exact tm2
      rw [tm3, am_wE (x := m + 1) (by omega) (by omega)]
      have t73 : am_u2 (am_u2 (am_u2 I1 (π m) 6 1) (π (m - 1)) 6 1) s 6 (m + 1) s 7 = W 9 := by rw [am_u2_o (by omega), am_u2_o (by omega), am_u2_o (by omega)]; exact t71
      rw [t73, am_wE (by omega) (by omega)]
      refine fin True I1 _ _ f0 f1 (Or.inr ⟨m0, rfl, rfl⟩) ?_
      unfold v_ent
      rw [la, if_neg (show ¬ m = 0 by omega), if_pos ⟨by omega, by omega⟩]
end
