/-! the class's reader against the text -/
theorem v_t3_cases {G : Int → Int} {p : Int} (h : ¬ (v_t3 G p).1 = -1) : p + 1 ≤ (v_t3 G p).2 ∧ (v_t3 G p).2 ≤ p + 3 ∧ (∀ i, p ≤ i → i < (v_t3 G p).2 → v_dig (G i) = true) := by
  simp only [v_t3, v_tn] at h ⊢
  by_cases d0 : 48 ≤ G p ∧ G p ≤ 57
  · by_cases d1 : 48 ≤ G (p + 1) ∧ G (p + 1) ≤ 57
    · by_cases d2 : 48 ≤ G (p + 1 + 1) ∧ G (p + 1 + 1) ≤ 57
      · simp only [if_pos d0, if_pos d1, if_pos d2]
        refine ⟨by omega, by omega, fun i a b => v_dig_iff.mpr ?_⟩
        rcases (show i = p ∨ i = p + 1 ∨ i = p + 1 + 1 by omega) with e | e | e <;> subst e <;> assumption
      · simp only [if_pos d0, if_pos d1, if_neg d2]
        refine ⟨by omega, by omega, fun i a b => v_dig_iff.mpr ?_⟩
        rcases (show i = p ∨ i = p + 1 by omega) with e | e <;> subst e <;> assumption
    · simp only [if_pos d0, if_neg d1]
      refine ⟨by omega, by omega, fun i a b => v_dig_iff.mpr ?_⟩
      rcases (show i = p by omega) with e; subst e; assumption
  · simp only [if_neg d0] at h
    exact (h trivial).elim
/-- a number of the text, in the words of the rule's evaluation -/
theorem v_t3_n {G U : Int → Int} {p : Int} (h : ¬ (v_t3 G p).1 = -1) (hs : v_dig (G (v_t3 G p).2) = false) (hU : ∀ i, p ≤ i → i ≤ (v_t3 G p).2 → U i = G i) : v_nok U p = true ∧ v_n U p = v_t3 G p := by
  have u0 := hU p
  have u1 := hU (p + 1)
  have u2 := hU (p + 1 + 1)
  have u3 := hU (p + 1 + 1 + 1)
  have nd : ∀ x : Int, ¬ (48 ≤ x ∧ x ≤ 57) → v_dig x = false := fun x hx => by
    unfold v_dig; exact decide_eq_false hx
  have yd : ∀ x : Int, (48 ≤ x ∧ x ≤ 57) → v_dig x = true := fun x hx => v_dig_iff.mpr hx
  simp only [v_t3, v_tn] at h hs u0 u1 u2 u3 ⊢
  unfold v_nok
  simp only [v_n, v_num]
  have e2 : p + 2 = p + 1 + 1 := by omega
  have e3 : p + 3 = p + 1 + 1 + 1 := by omega
  rw [e2, e3]
  by_cases d0 : 48 ≤ G p ∧ G p ≤ 57
  · by_cases d1 : 48 ≤ G (p + 1) ∧ G (p + 1) ≤ 57
    · by_cases d2 : 48 ≤ G (p + 1 + 1) ∧ G (p + 1 + 1) ≤ 57
      · simp only [if_pos d0, if_pos d1, if_pos d2] at hs u0 u1 u2 u3 ⊢
        rw [u0 (by omega) (by omega), u1 (by omega) (by omega), u2 (by omega) (by omega), u3 (by omega) (by omega), yd _ d0, yd _ d1, yd _ d2, hs]
        have z1 : ¬ 0 + G p - 48 = -1 := by omega
        have z2 : ¬ 10 * (0 + G p - 48) + G (p + 1) - 48 = -1 := by omega
        simp only [if_neg z1, if_neg z2, if_true, Bool.and_false, Bool.not_false, Bool.and_true, Bool.false_eq_true, if_false]
        refine ⟨trivial, ?_⟩
        congr 1 <;> omega
      · simp only [if_pos d0, if_pos d1, if_neg d2] at hs u0 u1 u2 ⊢
        rw [u0 (by omega) (by omega), u1 (by omega) (by omega), u2 (by omega) (by omega), yd _ d0, yd _ d1, hs]
        have z1 : ¬ 0 + G p - 48 = -1 := by omega
        simp only [if_neg z1, if_true, Bool.and_false, Bool.false_and, Bool.not_false, Bool.and_true, Bool.false_eq_true, if_false]
        refine ⟨trivial, ?_⟩
        congr 1 <;> omega
    · simp only [if_pos d0, if_neg d1] at hs u0 u1 ⊢
      rw [u0 (by omega) (by omega), u1 (by omega) (by omega), yd _ d0, hs]
      simp only [if_true, Bool.and_false, Bool.false_and, Bool.not_false, Bool.and_true, Bool.false_eq_true, if_false]
      refine ⟨trivial, ?_⟩
      congr 1 <;> omega
  · simp only [if_neg d0] at h
    exact (h trivial).elim
/-- a condition of the text, in the words of the rule's evaluation -/
theorem v_tc_ok {G U : Int → Int} {p : Int} (h : (v_tc G p).1 = true) (hU : ∀ i, p ≤ i → i < (v_tc G p).2 → U i = G i) : (G p = 99 ∨ G p = 108 ∨ G p = 109) ∧ v_cok U p = true ∧ v_cend U p = (v_tc G p).2 ∧ ¬ (v_t3 G (p + 1)).1 = -1 ∧ (v_n U (p + 1)).1 = (v_t3 G (p + 1)).1 ∧ (G p = 109 → (v_n U ((v_n U (p + 1)).2 + 1)).1 = (v_t3 G ((v_t3 G (p + 1)).2 + 1)).1) := by
  have nd : ∀ x : Int, ¬ (48 ≤ x ∧ x ≤ 57) → v_dig x = false := fun x hx => by
    unfold v_dig; exact decide_eq_false hx
  unfold v_tc at h hU ⊢
  by_cases c : G p = 109
  · rw [if_pos c] at h hU ⊢
    by_cases c1 : (v_t3 G (p + 1)).1 ≤ 0 ∨ ¬ G (v_t3 G (p + 1)).2 = 44
    · rw [if_pos c1] at h; cases h
    · rw [if_neg c1] at h hU ⊢
      by_cases c2 : (v_t3 G ((v_t3 G (p + 1)).2 + 1)).1 = -1 ∨ ¬ G (v_t3 G ((v_t3 G (p + 1)).2 + 1)).2 = 59
      · rw [if_pos c2] at h; cases h
      · rw [if_neg c2] at h hU ⊢
        simp only at hU
        have x1 : ¬ (v_t3 G (p + 1)).1 = -1 := fun q => c1 (Or.inl (by omega))
        have x0 : ¬ (v_t3 G (p + 1)).1 ≤ 0 := fun q => c1 (Or.inl q)
        have g1 : G (v_t3 G (p + 1)).2 = 44 := Decidable.not_not.mp (fun q => c1 (Or.inr q))
        have x2 : ¬ (v_t3 G ((v_t3 G (p + 1)).2 + 1)).1 = -1 := fun q => c2 (Or.inl q)
        have g2 : G (v_t3 G ((v_t3 G (p + 1)).2 + 1)).2 = 59 := Decidable.not_not.mp (fun q => c2 (Or.inr q))
        have b1 := v_t3_cases x1
        have b2 := v_t3_cases x2
        obtain ⟨n1, n2⟩ := v_t3_n (U := U) x1 (by rw [g1]; exact nd _ (by omega)) (fun i a b => hU i (by omega) (by omega))
        obtain ⟨n3, n4⟩ := v_t3_n (U := U) x2 (by rw [g2]; exact nd _ (by omega)) (fun i a b => hU i (by omega) (by omega))
        have up : U p = 109 := by rw [hU p (by omega) (by omega)]; exact c
        refine ⟨Or.inr (Or.inr c), ?_, ?_, x1, by rw [n2], fun _ => by rw [n2, n4]⟩
        · unfold v_cok
          rw [up, n2, n4, n1, n3]
          have u1 : U (v_t3 G (p + 1)).2 = 44 := by rw [hU _ (by omega) (by omega)]; exact g1
          have u2 : U (v_t3 G ((v_t3 G (p + 1)).2 + 1)).2 = 59 := by rw [hU _ (by omega) (by omega)]; exact g2
          rw [u1, u2]
          simp only [if_true]
          have z : ¬ (v_t3 G (p + 1)).1 = 0 := by omega
          simp [z]
        · unfold v_cend
          rw [if_pos up, n2, n4]
  · rw [if_neg c] at h hU ⊢
    by_cases c0 : G p = 99 ∨ G p = 108
    · rw [if_pos c0] at h hU ⊢
      by_cases c2 : (v_t3 G (p + 1)).1 = -1 ∨ ¬ G (v_t3 G (p + 1)).2 = 59
      · rw [if_pos c2] at h; cases h
      · rw [if_neg c2] at h hU ⊢
        simp only at hU
        have x1 : ¬ (v_t3 G (p + 1)).1 = -1 := fun q => c2 (Or.inl q)
        have g1 : G (v_t3 G (p + 1)).2 = 59 := Decidable.not_not.mp (fun q => c2 (Or.inr q))
        have b1 := v_t3_cases x1
        obtain ⟨n1, n2⟩ := v_t3_n (U := U) x1 (by rw [g1]; exact nd _ (by omega)) (fun i a b => hU i (by omega) (by omega))
        have up : U p = G p := hU p (by omega) (by omega)
        have u1 : U (v_t3 G (p + 1)).2 = 59 := by rw [hU _ (by omega) (by omega)]; exact g1
        refine ⟨by omega, ?_, ?_, x1, by rw [n2], fun q => (c q).elim⟩
        · unfold v_cok
          rw [up, n2, n1, u1, if_neg c]
          have : G p = 99 ∨ G p = 108 ∨ G p = 109 := by omega
          simp [this]
        · unfold v_cend
          rw [up, if_neg c, n2]
    · rw [if_neg c0] at h; cases h
section
variable {d : Nat} {K N : Nat → Nat} {I I' : Nat → Nat → Int} {P P' : Nat → Nat → Option Nat} {z : Nat} {Q : am_V → am_T} {T U : Int → Int} {n : Int} {dr : Nat}
/-- only the reader's place and the draft were written -/
def DF (dr : Nat) (I I' : Nat → Nat → Int) : Prop := (∀ y, ¬ (dr ≤ y ∧ y < dr + 5) → ¬ y = 8 → I' y = I y) ∧ ∀ k, ¬ k = 2 → I' 8 k = I 8 k
theorem DF.rf : DF dr I I := ⟨fun _ _ _ => rfl, fun _ _ => rfl⟩
theorem DF.tr {I1 I2 : Nat → Nat → Int} (h : DF dr I I1) (h2 : DF dr I1 I2) : DF dr I I2 := ⟨fun y a b => (h2.1 y a b).trans (h.1 y a b), fun k a => (h2.2 k a).trans (h.2 k a)⟩
theorem DF.at (hd : rN dr) {x : Int} : DF dr I (am_u2 I 8 2 x) := ⟨fun y a b => am_u2_ne b, fun k a => am_u2_o (by omega)⟩
theorem DF.nd (hd : rN dr) (h : ∀ y, ¬ (dr ≤ y ∧ y < dr + 5) → I' y = I y) : DF dr I I' := ⟨fun y a b => h y a, fun k a => by rw [h 8 (by unfold rN at hd; omega)]⟩
theorem TX.df (h : TX K N I P T n) (hd : rN dr) (hf : DF dr I I') : TX K N I' P T n := h.tr (hf.2 1 (by omega)) (hf.1 9 (by unfold rN at hd; omega) (by omega))
/-- a condition is taken -/
theorem ct_cond (hd : 4 ≤ d) (hx : TX K N I P T n) (hr : RO K N P dr) (hn : rN dr) {p cnt qs : Int} (hp : I 8 2 = p) (p0 : 0 ≤ p) (p1 : p ≤ n) (h4 : I dr 4 = cnt) (h5 : I dr 5 = qs) (c0 : 0 ≤ cnt) (c1 : cnt < 80) (q0 : 0 ≤ qs) (q1 : qs ≤ 80)
    (hok : (v_tc (v_sg T n) p).1 = true → ∀ I', DF dr I I' → I' 8 2 = (v_tc (v_sg T n) p).2 → I' dr 4 = cnt + 1 → I' dr 5 = qs + 1 → (∀ j : Int, 0 ≤ j → j < cnt → I' (dr + 1) j.toNat = I (dr + 1) j.toNat ∧ I' (dr + 2) j.toNat = I (dr + 2) j.toNat ∧ I' (dr + 3) j.toNat = I (dr + 3) j.toNat ∧ I' (dr + 4) j.toNat = I (dr + 4) j.toNat) → (I' (dr + 1) cnt.toNat = v_sg T n p ∧ I' (dr + 2) cnt.toNat = (v_t3 (v_sg T n) (p + 1)).1 ∧ (v_sg T n p = 109 → I' (dr + 3) cnt.toNat = (v_t3 (v_sg T n) ((v_t3 (v_sg T n) (p + 1)).2 + 1)).1)) → Q (am_i cnt) K N I' P z)
    (hno : (v_tc (v_sg T n) p).1 = false → ∀ I', DF dr I I' → I' 8 2 = (v_tc (v_sg T n) p).2 → Q (am_i (-1)) K N I' P z) : am_C d m_X5_takeCondition [am_r 8, am_r dr] K N I P z Q am_nx := by
  have hnn := hx.2.2.2.2.2.1
  have hg : ∀ i, n ≤ i → v_sg T n i = -1 := fun i h => v_sg_out h
  have d8 : ¬ (dr ≤ 8 ∧ 8 < dr + 5) := by unfold rN at hn; omega
  unfold v_tc at hok hno
  -- a condition's node is added at the place q
  have add : ∀ (q a b : Int) (D : Nat) (Q' : am_V → am_T), 2 ≤ D → (v_sg T n p = 99 ∨ v_sg T n p = 108 ∨ v_sg T n p = 109) → (∀ I', DF dr I I' → I' 8 2 = q → I' dr 4 = cnt + 1 → I' dr 5 = qs + 1 → (∀ j : Int, 0 ≤ j → j < cnt → I' (dr + 1) j.toNat = I (dr + 1) j.toNat ∧ I' (dr + 2) j.toNat = I (dr + 2) j.toNat ∧ I' (dr + 3) j.toNat = I (dr + 3) j.toNat ∧ I' (dr + 4) j.toNat = I (dr + 4) j.toNat) → (I' (dr + 1) cnt.toNat = v_sg T n p ∧ I' (dr + 2) cnt.toNat = a ∧ I' (dr + 3) cnt.toNat = b) → Q' (am_i cnt) K N I' P z) → am_C D m_X4_addCondition [am_r dr, am_i (v_sg T n p), am_i a, am_i b] K N (am_u2 I 8 2 q) P z (fun v K N I P z => am_iv v fun x => Q' (am_i x) K N I P z) am_nx := by
    intro q a b D Q' hD hk hh
    refine wf_X4_addCondition (by omega) ⟨hr.1, ?_⟩
    rintro I2 rfl
    have e5 : am_u2 I 8 2 q dr 5 = qs := by rw [am_u2_o (by omega)]; exact h5
    rw [e5, v_chr (by omega) (by omega), am_wE (x := qs + 1) (by omega) (by omega)]
    refine cu_node hr (cnt := cnt) (by rw [am_u2_o (by omega), am_u2_o (by omega)]; exact h4) c0 c1 (by omega) (by omega) ?_
    intro I3 g0 g1 g2 g3 g4
    simp only [am_iv]
    refine hh I3 ⟨fun y y1 y2 => by rw [g0 y y1, am_u2_ne (by omega), am_u2_ne y2], fun k k1 => by rw [g0 8 d8, am_u2_o (by omega), am_u2_o (by omega)]⟩ (by rw [g0 8 d8, am_u2_o (by omega), am_u2_s]) g1 (by rw [g2, am_u2_s]) (fun j j0 j1 => ?_) g4
    obtain ⟨f1, f2, f3, f4⟩ := g3 j j0 j1
    refine ⟨?_, ?_, ?_, ?_⟩
    · rw [f1, am_u2_o (by omega), am_u2_o (by omega)]
    · rw [f2, am_u2_o (by omega), am_u2_o (by omega)]
    · rw [f3, am_u2_o (by omega), am_u2_o (by omega)]
    · rw [f4, am_u2_o (by omega), am_u2_o (by omega)]
  -- behind the kind's sign
  have b1 : p < n → (p + 1 ≤ (v_t3 (v_sg T n) (p + 1)).2 ∧ (v_t3 (v_sg T n) (p + 1)).2 ≤ n) := fun hlt => ⟨(v_t3_bd hg (p := p + 1) (by omega)).1, (v_t3_bd hg (p := p + 1) (by omega)).2.2.1⟩
  have lt : ∀ {q : Int}, ¬ v_sg T n q = -1 → q < n := by
    intro q h2
    rcases (show q < n ∨ n ≤ q by omega) with r | r
    · exact r
    · exact (h2 (hg q r)).elim
  have sgl : ∀ (x : Int), v_sg T n p = x → ¬ x = 109 → (x = 99 ∨ x = 108) → am_C (d - 1) m_X5_takeNumber [am_r 8] K N (am_u2 I 8 2 (p + 1)) P z (fun v K15 N16 I17 P18 z19 => am_iv v fun x21 =>
      ((¬ v_sg T n p = 109 →
      ((x21 = (-1) →
        Q (am_i (-1)) K15 N16 I17 P18 z19) ∧
        (¬ (x21 = (-1)) →
        K15 8 = 5 ∧ am_C (d - 1) m_X5_takesSign [am_r 8, am_i 59] K15 N16 I17 P18 z19 (fun v K22 N23 I24 P25 z26 => am_iv v fun x28 =>
          ((¬ x28 = 0 →
          K22 dr = 4 ∧ am_C (d - 1) m_X4_addCondition [am_r dr, am_i (v_sg T n p), am_i x21, am_i 0] K22 N23 I24 P25 z26 (fun v K29 N30 I31 P32 z33 => am_iv v fun x35 =>
            Q (am_i x35) K29 N30 I31 P32 z33) am_nx) ∧
          (x28 = 0 →
          Q (am_i (-1)) K22 N23 I24 P25 z26))) am_nx))) ∧
      (v_sg T n p = 109 →
      ((x21 = 0 →
        Q (am_i (-1)) K15 N16 I17 P18 z19) ∧
        (¬ (x21 = 0) →
        ((x21 = (-1) →
          Q (am_i (-1)) K15 N16 I17 P18 z19) ∧
          (¬ (x21 = (-1)) →
          K15 8 = 5 ∧ am_C (d - 1) m_X5_takesSign [am_r 8, am_i 44] K15 N16 I17 P18 z19 (fun v K36 N37 I38 P39 z40 => am_iv v fun x42 =>
            ((¬ x42 = 0 →
            K36 8 = 5 ∧ am_C (d - 1) m_X5_takeNumber [am_r 8] K36 N37 I38 P39 z40 (fun v K43 N44 I45 P46 z47 => am_iv v fun x49 =>
              ((x21 = (-1) →
              Q (am_i (-1)) K43 N44 I45 P46 z47) ∧
              (¬ (x21 = (-1)) →
              ((x49 = (-1) →
                Q (am_i (-1)) K43 N44 I45 P46 z47) ∧
                (¬ (x49 = (-1)) →
                K43 8 = 5 ∧ am_C (d - 1) m_X5_takesSign [am_r 8, am_i 59] K43 N44 I45 P46 z47 (fun v K50 N51 I52 P53 z54 => am_iv v fun x56 =>
                  ((¬ x56 = 0 →
                  K50 dr = 4 ∧ am_C (d - 1) m_X4_addCondition [am_r dr, am_i (v_sg T n p), am_i x21, am_i x49] K50 N51 I52 P53 z54 (fun v K57 N58 I59 P60 z61 => am_iv v fun x63 =>
                    Q (am_i x63) K57 N58 I59 P60 z61) am_nx) ∧
                  (x56 = 0 →
                  Q (am_i (-1)) K50 N51 I52 P53 z54))) am_nx))))) am_nx) ∧
            (x42 = 0 →
            Q (am_i (-1)) K36 N37 I38 P39 z40))) am_nx))))))) am_nx := by
    intro x ex x109 hx2
    have hlt : p < n := lt (by omega)
    rw [if_neg (by omega), if_pos (by omega)] at hok hno
    refine ct_num (by omega) hx.at am_u2_s (by omega) (by omega) ?_
    rw [am_u2_uu]
    have bb := b1 hlt
    refine ⟨fun _ => ⟨fun e => ?_, fun e => ⟨hx.1, ct_sign (by omega) hx.at am_u2_s (by omega) bb.2 (fun e2 => ?_) (fun e2 => ?_)⟩⟩, fun e => absurd e (by omega)⟩
    · rw [if_pos (Or.inl e)] at hno
      exact hno rfl _ (DF.at hn) am_u2_s
    · rw [if_neg (fun q => by rcases q with q | q; exact e q; exact q e2)] at hok
      rw [am_u2_uu]
      refine ⟨fun _ => ⟨hr.1, add _ _ 0 _ Q (by omega) (by omega) ?_⟩, fun q => absurd q (by decide)⟩
      intro I3 g0 g1 g2 g3 g4 g5
      exact hok rfl I3 g0 g1 g2 g3 g4 ⟨g5.1, g5.2.1, fun q => absurd q (by omega)⟩
    · rw [if_pos (Or.inr e2)] at hno
      exact ⟨fun q => absurd rfl q, fun _ => hno rfl _ (DF.at hn) am_u2_s⟩
  refine wf_X5_takeCondition (by omega) ⟨hx.1, ct_next hx hp p0 ?_⟩
  refine ⟨hx.1, ct_sign (by omega) hx hp p0 p1 (fun e99 => ⟨fun _ => ⟨hx.1, sgl 99 e99 (by omega) (by omega)⟩, fun q => absurd q (by decide)⟩) (fun n99 => ⟨fun q => absurd rfl q, fun _ => ⟨hx.1, ct_sign (by omega) hx hp p0 p1 (fun e108 => ⟨fun _ => ⟨hx.1, sgl 108 e108 (by omega) (by omega)⟩, fun q => absurd q (by decide)⟩) (fun n108 => ⟨fun q => absurd rfl q, fun _ => ⟨hx.1, ct_sign (by omega) hx hp p0 p1 (fun e109 => ?_) (fun n109 => ?_)⟩⟩)⟩⟩)⟩
  · have hlt : p < n := lt (by omega)
    have bb := b1 hlt
    rw [if_pos e109] at hok hno
    refine ⟨fun _ => ⟨hx.1, ct_num (by omega) hx.at am_u2_s (by omega) (by omega) ?_⟩, fun q => absurd q (by decide)⟩
    rw [am_u2_uu]
    refine ⟨fun q => (q e109).elim, fun _ => ⟨fun e => ?_, fun e => ⟨fun e1 => ?_, fun e1 => ⟨hx.1, ct_sign (by omega) hx.at am_u2_s (by omega) bb.2 (fun e2 => ?_) (fun e2 => ?_)⟩⟩⟩⟩
    · rw [if_pos (Or.inl (by omega))] at hno
      exact hno rfl _ (DF.at hn) am_u2_s
    · rw [if_pos (Or.inl (by omega))] at hno
      exact hno rfl _ (DF.at hn) am_u2_s
    · have ge := (v_t3_bd hg (p := p + 1) (by omega)).2.2.2
      have hc : ¬ ((v_t3 (v_sg T n) (p + 1)).1 ≤ 0 ∨ ¬ v_sg T n (v_t3 (v_sg T n) (p + 1)).2 = 44) := fun q => by rcases q with q | q; omega; exact q e2
      rw [if_neg hc] at hok hno
      have hlt2 : (v_t3 (v_sg T n) (p + 1)).2 < n := lt (by omega)
      rw [am_u2_uu]
      refine ⟨fun _ => ⟨hx.1, ct_num (by omega) hx.at am_u2_s (by omega) (by omega) ?_⟩, fun q => absurd q (by decide)⟩
      rw [am_u2_uu]
      have b2 := v_t3_bd hg (p := (v_t3 (v_sg T n) (p + 1)).2 + 1) (by omega)
      refine ⟨fun q => (e1 q).elim, fun _ => ⟨fun e3 => ?_, fun e3 => ⟨hx.1, ct_sign (by omega) hx.at am_u2_s (by omega) b2.2.2.1 (fun e4 => ?_) (fun e4 => ?_)⟩⟩⟩
      · rw [if_pos (Or.inl e3)] at hno
        exact hno rfl _ (DF.at hn) am_u2_s
      · rw [if_neg (fun q => by rcases q with q | q; exact e3 q; exact q e4)] at hok
        rw [am_u2_uu]
        refine ⟨fun _ => ⟨hr.1, add _ _ _ _ Q (by omega) (by omega) ?_⟩, fun q => absurd q (by decide)⟩
        intro I3 g0 g1 g2 g3 g4 g5
        exact hok rfl I3 g0 g1 g2 g3 g4 ⟨g5.1, g5.2.1, fun _ => g5.2.2⟩
      · rw [if_pos (Or.inr e4)] at hno
        exact ⟨fun q => absurd rfl q, fun _ => hno rfl _ (DF.at hn) am_u2_s⟩
    · rw [if_pos (Or.inr e2)] at hno
      exact ⟨fun q => absurd rfl q, fun _ => hno rfl _ (DF.at hn) am_u2_s⟩
  · rw [if_neg n109, if_neg (by omega)] at hno
    exact ⟨fun q => absurd rfl q, fun _ => hno rfl I DF.rf hp⟩
end
