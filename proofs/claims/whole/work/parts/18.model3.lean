/-! rules in the reference: T is the text, by places -/
theorem am_u2_s {I : Nat → Nat → Int} {a k : Nat} {x : Int} : am_u2 I a k x a k = x := by simp [am_u2]
theorem am_u2_uu {I : Nat → Nat → Int} {a k : Nat} {x y : Int} : am_u2 (am_u2 I a k x) a k y = am_u2 I a k y := by funext b j; unfold am_u2; split <;> simp_all
theorem am_u2_o {I : Nat → Nat → Int} {a b k j : Nat} {x : Int} (h : ¬ (b = a ∧ j = k)) : am_u2 I a k x b j = I b j := if_neg h
/-- the reference's place in the text is scratch -/
abbrev v_J (I : Nat → Nat → Int) (p : Int) : Nat → Nat → Int := am_u2 I 284 8 p
theorem v_JW {I : Nat → Nat → Int} {p : Int} {W : Int → Int} (h : MW I W) : MW (v_J I p) W := fun i h0 h1 => (am_u2_o (by omega)).trans (h i h0 h1)
def v_dig (c : Int) : Bool := decide (48 ≤ c ∧ c ≤ 57)
def v_num (T : Int → Int) : Nat → Int → Int → Int × Int
  | 0, p, a => (a, p)
  | f + 1, p, a => if v_dig (T p) then v_num T f (p + 1) (10 * a + T p - 48) else (a, p)
/-- a number of one to three digits stands at p -/
def v_nok (T : Int → Int) (p : Int) : Bool := v_dig (T p) && !(v_dig (T p) && v_dig (T (p + 1)) && v_dig (T (p + 2)) && v_dig (T (p + 3)))
abbrev v_n (T : Int → Int) (p : Int) : Int × Int := v_num T 4 p 0
def v_cend (T : Int → Int) (p : Int) : Int := if T p = 109 then (v_n T ((v_n T (p + 1)).2 + 1)).2 + 1 else (v_n T (p + 1)).2 + 1
def v_cok (T : Int → Int) (p : Int) : Bool :=
  decide (T p = 99 ∨ T p = 108 ∨ T p = 109) && v_nok T (p + 1) && (if T p = 109 then decide (T (v_n T (p + 1)).2 = 44) && decide (¬ (v_n T (p + 1)).1 = 0) && v_nok T ((v_n T (p + 1)).2 + 1) && decide (T (v_n T ((v_n T (p + 1)).2 + 1)).2 = 59) else decide (T (v_n T (p + 1)).2 = 59))
def v_chold (T : Int → Int) (p c s : Int) : Bool := if T p = 109 then decide (c % (v_n T (p + 1)).1 = (v_n T ((v_n T (p + 1)).2 + 1)).1) else if T p = 99 then decide (c < (v_n T (p + 1)).1) else decide (s < (v_n T (p + 1)).1)
def v_rend (T : Int → Int) : Nat → Int → Option Int
  | 0, _ => none
  | f + 1, p => if T p = 120 ∨ (48 ≤ T p ∧ T p ≤ 53) then some (p + 1) else if T p = 63 ∧ v_cok T (p + 1) = true then (v_rend T f (v_cend T (p + 1))).bind (fun q => v_rend T f q) else none
def v_rev (T : Int → Int) : Nat → Int → Int → Int → Int
  | 0, _, _, _ => 0
  | f + 1, p, c, s => if T p = 63 then (if v_chold T (p + 1) c s then v_rev T f (v_cend T (p + 1)) c s else v_rev T f ((v_rend T f (v_cend T (p + 1))).getD 0) c s) else T p
abbrev v_T (W : Int → Int) : Int → Int := fun i => W (106 + i)
/-- numbers are small; where they end -/
theorem v_num_bd {T : Int → Int} : ∀ (f : Nat) (p a : Int), p ≤ (v_num T f p a).2 ∧ (v_num T f p a).2 ≤ p + f
  | 0, p, a => by simp [v_num]
  | f + 1, p, a => by
    unfold v_num
    split
    · have := v_num_bd (T := T) f (p + 1) (10 * a + T p - 48)
      omega
    · simp only; omega
theorem v_dig_iff {c : Int} : v_dig c = true ↔ 48 ≤ c ∧ c ≤ 57 := by simp [v_dig]
/-- what a number's row of digits is: at most three, then none -/
theorem v_n_cases {T : Int → Int} {p : Int} (h : v_nok T p = true) : (v_n T p).2 ≤ p + 3 ∧ p + 1 ≤ (v_n T p).2 ∧ 0 ≤ (v_n T p).1 ∧ (v_n T p).1 ≤ 999 ∧ v_dig (T (v_n T p).2) = false := by
  unfold v_nok at h
  simp only [v_n, v_num]
  cases h0 : v_dig (T p)
  · simp [h0] at h
  cases h1 : v_dig (T (p + 1))
  · have := v_dig_iff.mp h0
    simp [h1]; omega
  cases h2 : v_dig (T (p + 1 + 1))
  · have := v_dig_iff.mp h0; have := v_dig_iff.mp h1
    simp [h2]; omega
  cases h3 : v_dig (T (p + 1 + 1 + 1))
  · have := v_dig_iff.mp h0; have := v_dig_iff.mp h1; have := v_dig_iff.mp h2
    simp [h3]; omega
  · have e2 : p + 1 + 1 = p + 2 := by omega
    have e3 : p + 1 + 1 + 1 = p + 3 := by omega
    rw [e2] at h2; rw [e3] at h3
    simp [h0, h1, h2, h3] at h
theorem v_num_ge {T : Int → Int} : ∀ (f : Nat) (p a : Int), 0 ≤ a → a ≤ (v_num T f p a).1
  | 0, p, a, _ => Int.le_refl _
  | f + 1, p, a, h => by
    unfold v_num
    split
    · rename_i hc
      have := v_dig_iff.mp hc
      have := v_num_ge (T := T) f (p + 1) (10 * a + T p - 48) (by omega)
      omega
    · exact Int.le_refl _
theorem v_nok_no {T : Int → Int} {p : Int} (h : v_nok T p = true) (h3 : v_dig (T (p + 3)) = true) (h2 : v_dig (T (p + 2)) = true) (h1 : v_dig (T (p + 1)) = true) : False := by
  unfold v_nok at h
  simp [h1, h2, h3] at h
section
variable {d : Nat} {K N : Nat → Nat} {I : Nat → Nat → Int} {P : Nat → Nat → Option Nat} {z : Nat} {Q : am_V → am_T} {W : Int → Int}
theorem sp_numberAt (hd : 1 ≤ d) (hm : MS K N P) (hW : MW I W) {p : Int} (h0 : 0 ≤ p) (h1 : p < 1000) (hok : v_nok (v_T W) p = true) (h : Q (am_i (v_n (v_T W) p).1) K N (v_J I (v_n (v_T W) p).2) P z) : am_C d m_X8_numberAt [am_r 284] K N (v_J I p) P z Q am_nx := by
  refine wf_X8_numberAt ?_
  have key : ∀ (f : Nat) (q a : Int), p ≤ q → q + f = p + 4 → 0 ≤ a → a ≤ 999 → (f = 0 → False) → (∀ j, p ≤ j → j < q → v_dig (W (106 + j)) = true) → (v_num (v_T W) f q a).1 ≤ 999 → v_dig (v_T W (v_num (v_T W) f q a).2) = false → Q (am_i (v_num (v_T W) f q a).1) K N (v_J I (v_num (v_T W) f q a).2) P z → L_X8_numberAt_2 d 284 a K N (v_J I q) P z Q := by
    intro f
    induction f with
    | zero => intro q a _ _ _ _ h9; exact (h9 rfl).elim
    | succ f ih =>
      intro q a hq hf ha ha2 _ hpre hle hdg hh
      refine wf_X8_numberAt_2 hd ?_
      obtain ⟨k0, p0, p1, p2, p3, p4, k1, n1, k2, n2, k3, n3, k4, n4, k5, n5⟩ := id hm
      have hw := (v_JW (p := q) hW).all
      simp (disch := omega) only [k0, p0, p1, p2, p3, p4, k1, n1, k2, n2, k3, n3, k4, n4, k5, n5, true_and, and_true, Option.some.injEq, exists_eq_left', am_wE, and_dr, imp_dr, imp_df, true_imp_iff, false_imp_iff, not_true_eq_false, not_false_eq_true, hw, am_u2_s]
      refine sp_in ?_
      rw [v_num] at hle hdg hh
      by_cases hc : v_dig (W (106 + q)) = true
      · have hc2 := v_dig_iff.mp hc
        simp only [v_T, hc, if_true] at hle hdg hh
        simp only [am_iv]
        rw [if_pos ⟨by omega, by omega⟩]
        simp (disch := omega) only [k0, p0, p1, p2, p3, p4, k1, n1, k2, n2, k3, n3, k4, n4, k5, n5, true_and, and_true, Option.some.injEq, exists_eq_left', am_wE, and_dr, imp_dr, imp_df, true_imp_iff, false_imp_iff, not_true_eq_false, not_false_eq_true, hw, am_u2_s, am_u2_uu, forall_eq]
        have hb : 10 * a + W (106 + q) - 48 ≤ 999 := by
          refine Int.le_trans ?_ hle
          exact v_num_ge f _ _ (by omega)
        refine ih (q + 1) _ (by omega) (by omega) (by omega) hb ?_ (fun j j1 j2 => by rcases (show j < q ∨ j = q by omega) with j3 | rfl; exact hpre j j1 j3; exact hc) hle hdg hh
        rintro rfl
        exact v_nok_no (T := v_T W) hok (by rw [show p + 3 = q by omega]; exact hc) (hpre _ (by omega) (by omega)) (hpre _ (by omega) (by omega))
      · simp only [Bool.not_eq_true] at hc
        have hc2 : ¬ (48 ≤ W (106 + q) ∧ W (106 + q) ≤ 57) := fun q9 => by rw [v_dig_iff.mpr q9] at hc; cases hc
        simp only [v_T, hc, Bool.false_eq_true, if_false] at hh
        simp only [am_iv]
        rw [if_neg hc2]
        simp (disch := omega) only [k0, p0, p1, p2, p3, p4, k1, n1, k2, n2, k3, n3, k4, n4, k5, n5, true_and, and_true, Option.some.injEq, exists_eq_left', am_wE, and_dr, imp_dr, imp_df, true_imp_iff, false_imp_iff, not_true_eq_false, not_false_eq_true]
        first | done | exact hh
  obtain ⟨b1, b2, b3, b4, b5⟩ := v_n_cases hok
  exact key 4 p 0 (by omega) (by omega) (by omega) (by omega) (by decide) (fun j j1 j2 => absurd j2 (by omega)) b4 b5 h
theorem v_rem {c a : Int} (hc : 0 ≤ c) (ha : 0 < a) : c - c.tdiv a * a = c % a := by
  rw [Int.tdiv_eq_ediv_of_nonneg hc, Int.emod_def, Int.mul_comm]
theorem v_cok_k {T : Int → Int} {p : Int} (h : v_cok T p = true) : (T p = 99 ∨ T p = 108 ∨ T p = 109) ∧ v_nok T (p + 1) = true ∧ (T p = 109 → T (v_n T (p + 1)).2 = 44 ∧ ¬ (v_n T (p + 1)).1 = 0 ∧ v_nok T ((v_n T (p + 1)).2 + 1) = true ∧ T (v_n T ((v_n T (p + 1)).2 + 1)).2 = 59) ∧ (¬ T p = 109 → T (v_n T (p + 1)).2 = 59) := by
  unfold v_cok at h
  simp only [Bool.and_eq_true, decide_eq_true_eq] at h
  obtain ⟨⟨h1, h2⟩, h3⟩ := h
  refine ⟨h1, h2, fun h4 => ?_, fun h4 => ?_⟩
  · rw [if_pos h4] at h3
    simp only [Bool.and_eq_true, decide_eq_true_eq] at h3
    exact ⟨h3.1.1.1, h3.1.1.2, h3.1.2, h3.2⟩
  · rw [if_neg h4] at h3
    simpa using h3
theorem v_cend_bd {T : Int → Int} {p : Int} (h : v_cok T p = true) : p + 3 ≤ v_cend T p ∧ v_cend T p ≤ p + 9 := by
  obtain ⟨-, h2, h3, -⟩ := v_cok_k h
  obtain ⟨b1, b2, -⟩ := v_n_cases h2
  unfold v_cend
  split
  · rename_i h9
    obtain ⟨-, -, h4, -⟩ := h3 h9
    obtain ⟨c1, c2, -⟩ := v_n_cases h4
    omega
  · omega
theorem sp_holds (hd : 2 ≤ d) (hm : MS K N P) (hW : MW I W) {p c s : Int} (h0 : 0 ≤ p) (h1 : p < 900) (hc0 : 0 ≤ c) (hc1 : c ≤ 999) (hok : v_cok (v_T W) p = true) (h : Q (am_i (if v_chold (v_T W) p c s = true then 1 else 0)) K N (v_J I (v_cend (v_T W) p)) P z) : am_C d m_X8_holds [am_r 284, am_i c, am_i s] K N (v_J I p) P z Q am_nx := by
  refine wf_X8_holds (by omega) ?_
  obtain ⟨g1, g2, g3, g4⟩ := v_cok_k hok
  obtain ⟨b1, b2, b3, b4, b5⟩ := v_n_cases g2
  obtain ⟨k0, p0, p1, p2, p3, p4, k1, n1, k2, n2, k3, n3, k4, n4, k5, n5⟩ := id hm
  have hw := (v_JW (p := p) hW).all
  simp (disch := omega) only [k0, p0, p1, p2, p3, p4, k1, n1, k2, n2, k3, n3, k4, n4, k5, n5, true_and, and_true, Option.some.injEq, exists_eq_left', am_wE, and_dr, imp_dr, imp_df, true_imp_iff, false_imp_iff, not_true_eq_false, not_false_eq_true, hw, am_u2_s, am_u2_uu, forall_eq]
  refine sp_numberAt (by omega) hm hW (by omega) (by omega) g2 ?_
  simp (disch := omega) only [k0, p0, p1, p2, p3, p4, k1, n1, k2, n2, k3, n3, k4, n4, k5, n5, true_and, and_true, Option.some.injEq, exists_eq_left', am_wE, and_dr, imp_dr, imp_df, true_imp_iff, false_imp_iff, not_true_eq_false, not_false_eq_true, hw, am_u2_s, am_u2_uu, forall_eq, am_iv]
  unfold v_chold v_cend at h
  by_cases hk : W (106 + p) = 109
  · obtain ⟨e1, e2, e3, e4⟩ := g3 hk
    obtain ⟨c1, c2, c3, c4, c5⟩ := v_n_cases e3
    simp only [v_T, hk, if_true] at h
    refine ⟨fun _ => ?_, fun q => absurd hk q⟩
    refine sp_numberAt (by omega) hm hW (by omega) (by omega) e3 ?_
    simp (disch := omega) only [k0, p0, p1, p2, p3, p4, k1, n1, k2, n2, k3, n3, k4, n4, k5, n5, true_and, and_true, Option.some.injEq, exists_eq_left', am_wE, and_dr, imp_dr, imp_df, true_imp_iff, false_imp_iff, not_true_eq_false, not_false_eq_true, hw, am_u2_s, am_u2_uu, forall_eq, am_iv]
    have hm2 := Int.emod_nonneg c e2
    have hm3 := Int.emod_lt_of_pos c (b := (v_n (v_T W) (p + 1)).1) (by omega)
    rw [v_rem hc0 (by omega)]
    simp (disch := omega) only [am_wE]
    by_cases hr : c % (v_n (v_T W) (p + 1)).1 = (v_n (v_T W) ((v_n (v_T W) (p + 1)).2 + 1)).1
    · refine ⟨fun q => absurd hr q, fun _ => ?_⟩
      simp only [hr, decide_true, if_true] at h
      exact h
    · refine ⟨fun _ => ?_, fun q => absurd q hr⟩
      simp only [hr, decide_false, Bool.false_eq_true, if_false] at h
      exact h
  · simp only [v_T, hk, if_false] at h
    refine ⟨fun q => absurd q hk, fun _ => ?_⟩
    by_cases hk2 : W (106 + p) = 99
    · simp only [hk2, if_true, decide_eq_true_eq] at h
      refine ⟨fun q => absurd hk2 q, fun _ => ⟨fun q => ?_, fun q => ?_⟩⟩
      · rw [if_neg (by omega)] at h; exact h
      · rw [if_pos (by omega)] at h; exact h
    · simp only [hk2, if_false, decide_eq_true_eq] at h
      refine ⟨fun _ => ⟨fun q => ?_, fun q => ?_⟩, fun q => absurd q hk2⟩
      · rw [if_neg (by omega)] at h; exact h
      · rw [if_pos (by omega)] at h; exact h
/-- a rule's end is behind its beginning -/
theorem v_rend_bd {T : Int → Int} : ∀ (f : Nat) (p e : Int), v_rend T f p = some e → p + 1 ≤ e
  | 0, p, e, h => by simp [v_rend] at h
  | f + 1, p, e, h => by
    unfold v_rend at h
    split at h
    · cases h; omega
    · split at h
      · rename_i _ hq
        have hb := v_cend_bd hq.2
        cases hr : v_rend T f (v_cend T (p + 1)) with
        | none => simp [hr] at h
        | some q =>
          simp only [hr, Option.bind_some] at h
          have := v_rend_bd f _ _ hr
          have := v_rend_bd f _ _ h
          omega
      · cases h
theorem sp_skip (hd : 3 ≤ d) (hm : MS K N P) (hW : MW I W) {f : Nat} (hf : f ≤ 50) {p e : Int} (h0 : 0 ≤ p) (h1 : e < 800) (hok : v_rend (v_T W) f p = some e) (h : Q am_nl K N (v_J I e) P z) : am_C d m_X8_skip [am_r 284] K N (v_J I p) P z Q am_nx := by
  refine wf_X8_skip ?_
  have key : ∀ (f : Nat) (p e l : Int), 0 ≤ p → e < 800 → 0 ≤ l → l + f ≤ 100 → v_rend (v_T W) f p = some e → L_X8_skip_2 d 284 l K N (v_J I e) P z Q → L_X8_skip_2 d 284 (l + 1) K N (v_J I p) P z Q := by
    intro f
    induction f with
    | zero => intro p e l _ _ _ _ h9; simp [v_rend] at h9
    | succ f ih =>
      intro p e l hp he hl hl2 hr hh
      have hbd := v_rend_bd _ _ _ hr
      refine wf_X8_skip_2 (by omega) ?_
      obtain ⟨k0, p0, p1, p2, p3, p4, k1, n1, k2, n2, k3, n3, k4, n4, k5, n5⟩ := id hm
      have hw := (v_JW (p := p) hW).all
      simp (disch := omega) only [k0, p0, p1, p2, p3, p4, k1, n1, k2, n2, k3, n3, k4, n4, k5, n5, true_and, and_true, Option.some.injEq, exists_eq_left', am_wE, and_dr, imp_dr, imp_df, true_imp_iff, false_imp_iff, not_true_eq_false, not_false_eq_true, hw, am_u2_s, am_u2_uu, forall_eq]
      unfold v_rend at hr
      by_cases hlf : v_T W p = 120 ∨ (48 ≤ v_T W p ∧ v_T W p ≤ 53)
      · rw [if_pos hlf] at hr
        cases hr
        have hne : ¬ W (106 + p) = 63 := by simp only [v_T] at hlf; omega
        simp only [hne, not_false_eq_true, true_imp_iff, false_imp_iff, and_true]
        rw [show l + 1 + -1 = l by omega]
        exact hh
      · rw [if_neg hlf] at hr
        by_cases hq : v_T W p = 63 ∧ v_cok (v_T W) (p + 1) = true
        · rw [if_pos hq] at hr
          have hbc := v_cend_bd hq.2
          cases hr1 : v_rend (v_T W) f (v_cend (v_T W) (p + 1)) with
          | none => simp [hr1] at hr
          | some q =>
            simp only [hr1, Option.bind_some] at hr
            have hb1 := v_rend_bd _ _ _ hr1
            have hb2 := v_rend_bd _ _ _ hr
            have h63 : W (106 + p) = 63 := hq.1
            simp only [h63, not_true_eq_false, true_imp_iff, false_imp_iff, true_and]
            refine sp_holds (by omega) hm hW (by omega) (by omega) (by omega) (by omega) hq.2 ?_
            simp only [am_iv]
            rw [show l + 1 + 1 = (l + 1) + 1 by omega]
            exact ih _ _ (l + 1) (by omega) (by omega) (by omega) (by omega) hr1 (ih _ _ l (by omega) (by omega) (by omega) (by omega) hr hh)
        · rw [if_neg hq] at hr; cases hr
  rw [show (1 : Int) = 0 + 1 by omega]
  refine key f p e 0 h0 h1 (by omega) (by omega) hok (wf_X8_skip_2 (by omega) ?_)
  simp (disch := omega) only [true_and, and_true, imp_dr, imp_df]
  exact h
theorem sp_byRule (hd : 4 ≤ d) (hm : MS K N P) (hW : MW I W) (hl7 : 0 ≤ W 7 ∧ W 7 ≤ 6) {f : Nat} (hf : f ≤ 50) {e c s : Int} (hc0 : 0 ≤ c) (hc1 : c ≤ 999) (h1 : e < 800) (hok : v_rend (v_T W) f 0 = some e) (h : ∀ q, Q (am_i (if 0 ≤ v_rev (v_T W) f 0 c s - 48 ∧ v_rev (v_T W) f 0 c s - 48 < W 7 then v_rev (v_T W) f 0 c s - 48 else -1)) K N (v_J I q) P z) : am_C d m_X8_byRule [am_r 284, am_i c, am_i s] K N I P z Q am_nx := by
  refine wf_X8_byRule ⟨hm.1, ?_⟩
  rintro I2 rfl
  have key : ∀ (f : Nat) (p e : Int), f ≤ 50 → 0 ≤ p → e < 800 → v_rend (v_T W) f p = some e → (∀ q, Q (am_i (if 0 ≤ v_rev (v_T W) f p c s - 48 ∧ v_rev (v_T W) f p c s - 48 < W 7 then v_rev (v_T W) f p c s - 48 else -1)) K N (v_J I q) P z) → L_X8_byRule_5 d 284 c s K N (v_J I p) P z Q := by
    intro f
    induction f with
    | zero => intro p e _ _ _ h9; simp [v_rend] at h9
    | succ f ih =>
      intro p e hf hp he hr hh
      have hbd := v_rend_bd _ _ _ hr
      refine wf_X8_byRule_5 (by omega) ?_
      obtain ⟨k0, p0, p1, p2, p3, p4, k1, n1, k2, n2, k3, n3, k4, n4, k5, n5⟩ := id hm
      have hw := (v_JW (p := p) hW).all
      simp (disch := omega) only [k0, p0, p1, p2, p3, p4, k1, n1, k2, n2, k3, n3, k4, n4, k5, n5, true_and, and_true, Option.some.injEq, exists_eq_left', am_wE, and_dr, imp_dr, imp_df, true_imp_iff, false_imp_iff, not_true_eq_false, not_false_eq_true, hw, am_u2_s, am_u2_uu, forall_eq]
      unfold v_rend at hr
      unfold v_rev at hh
      by_cases hlf : v_T W p = 120 ∨ (48 ≤ v_T W p ∧ v_T W p ≤ 53)
      · have hne : ¬ W (106 + p) = 63 := by simp only [v_T] at hlf; omega
        have hsm : 48 ≤ W (106 + p) ∧ W (106 + p) ≤ 120 := by simp only [v_T] at hlf; omega
        simp only [v_T, hne, if_false] at hh
        simp (disch := omega) only [k0, p0, p1, p2, p3, p4, k1, n1, k2, n2, k3, n3, k4, n4, k5, n5, true_and, and_true, Option.some.injEq, exists_eq_left', am_wE, and_dr, imp_dr, imp_df, true_imp_iff, false_imp_iff, not_true_eq_false, not_false_eq_true, hne]
        refine sp_isLane (by omega) hm (v_JW hW) hl7 ?_
        simp only [am_iv, ite_z]
        refine ⟨fun q => ?_, fun q => ?_⟩
        · have h9 := hh p; rw [if_neg q] at h9; exact h9
        · have h9 := hh p; rw [if_pos (by simpa using q)] at h9; exact h9
      · rw [if_neg hlf] at hr
        by_cases hq : v_T W p = 63 ∧ v_cok (v_T W) (p + 1) = true
        · rw [if_pos hq] at hr
          have hbc := v_cend_bd hq.2
          cases hr1 : v_rend (v_T W) f (v_cend (v_T W) (p + 1)) with
          | none => simp [hr1] at hr
          | some q =>
            simp only [hr1, Option.bind_some] at hr
            have hb1 := v_rend_bd _ _ _ hr1
            have hb2 := v_rend_bd _ _ _ hr
            have h63 : W (106 + p) = 63 := hq.1
            simp only [v_T, h63, if_true] at hh
            simp only [h63, not_true_eq_false, true_imp_iff, false_imp_iff, true_and]
            refine sp_holds (by omega) hm hW (by omega) (by omega) hc0 hc1 hq.2 ?_
            simp only [am_iv, ite_z]
            refine ⟨fun q9 => ?_, fun q9 => ?_⟩
            · simp only [Decidable.not_not] at q9
              simp only [q9, if_true] at hh
              exact ih _ q (by omega) (by omega) (by omega) hr1 hh
            · simp only [q9] at hh
              refine ⟨hm.1, sp_skip (by omega) hm hW (by omega) (by omega) (by omega) hr1 ?_⟩
              refine ih _ e (by omega) (by omega) he hr ?_
              intro q8
              have h8 := hh q8
              simp only [hr1, Option.getD_some, Bool.false_eq_true, if_false] at h8
              exact h8
        · rw [if_neg hq] at hr; cases hr
  exact key f 0 e hf (by omega) h1 hok h
end
