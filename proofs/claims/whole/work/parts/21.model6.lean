/-! a millimeter -/
abbrev v_tl (W : Int → Int) (p : Int) : Int := W (500 + p) - W (200 + p)
abbrev v_md (W : Int → Int) (p : Int) : Int := W (500 + p) - W (200 + p) / 2
def v_cs (W : Int → Int) : Nat → Int
  | 0 => -1
  | n + 1 => if (W (800 + (n : Int)) = 0 ∧ W 1 ≤ v_tl W n ∧ v_tl W n < W 1 + W 2) ∧ (v_cs W n = -1 ∨ v_tl W n < v_tl W (v_cs W n)) then n else v_cs W n
def v_as (W : Int → Int) : Nat → Int
  | 0 => -1
  | n + 1 => if W (800 + (n : Int)) = 0 ∧ v_tl W n < W 1 ∧ W 1 ≤ W (500 + (n : Int)) then n else v_as W n
theorem v_cs_bd (W : Int → Int) : ∀ n : Nat, -1 ≤ v_cs W n ∧ v_cs W n < n
  | 0 => by simp [v_cs]
  | n + 1 => by
    have := v_cs_bd W n
    unfold v_cs
    split <;> omega
theorem v_as_bd (W : Int → Int) : ∀ n : Nat, -1 ≤ v_as W n ∧ v_as W n < n
  | 0 => by simp [v_as]
  | n + 1 => by
    have := v_as_bd W n
    unfold v_as
    split <;> omega
abbrev v_clr (W : Int → Int) (p : Int) : Prop := (v_ah W p.toNat = -1 ∨ W 4 ≤ v_tl W (v_ah W p.toNat) - W (500 + p)) ∧ (v_be W p = W 9 ∨ W 4 ≤ v_tl W p - W (500 + v_be W p))
def v_att (W : Int → Int) (p l : Int) : Int → Int :=
  if v_clr W p ∧ W (34 + l) < W (28 + l) then v_u (v_u (v_u W (800 + p) (10 + l)) (34 + l) (W (34 + l) + 1)) (40 + l) (am_wr (W (40 + l) + 1))
  else v_u W (2600 + p) (if v_clr W p then 6 else 5)
abbrev v_win (W : Int → Int) (p l : Int) : Prop := W (16 + l) ≤ v_md W p ∧ v_md W p < W (16 + l) + W (22 + l)
def v_try (W : Int → Int) (p : Int) : Int → Int := if W (800 + p) = 0 ∧ ¬ v_lo W p = -1 ∧ v_win W p (v_lo W p) then v_att W p (v_lo W p) else W
def v_s1 (W : Int → Int) (k n : Int) : Int → Int := fun i => if i = 0 then W 0 + k else if 500 ≤ i ∧ i < 500 + n ∧ W (i + 300) = 0 then W i + k else W i
def v_s2 (W : Int → Int) : Nat → Int → Int
  | 0 => W
  | n + 1 => v_try (v_s2 W n) n
def v_s3 (W : Int → Int) (n : Int) : Int → Int := fun i => if 800 ≤ i ∧ i < 800 + n ∧ W i = 0 ∧ W 5 ≤ W (i - 300) then v_reason W (i - 800) else W i
def v_go (W : Int → Int) : Int → Int := v_s3 (v_s2 (v_s1 W 1 (W 9)) (W 9).toNat) (W 9)
section
variable {d : Nat} {K N : Nat → Nat} {I : Nat → Nat → Int} {P : Nat → Nat → Option Nat} {z : Nat} {Q : am_V → am_T} {W : Int → Int}
theorem sp_caster (hd : 2 ≤ d) (hm : MS K N P) (hW : MW I W) (hG : v_G W) {n : Nat} (hn : W 9 = n) (h : Q (am_i (v_cs W n)) K N I P z) : am_C d m_X8_caster [am_r 284] K N I P z Q am_nx := by
  refine wf_X8_caster ?_
  have key : ∀ (m j : Nat), j + m = n → L_X8_caster_4 d 284 (v_cs W j) j K N I P z Q := by
    intro m
    induction m with
    | zero =>
      intro j hj
      refine wf_X8_caster_4 (by omega) ?_
      obtain ⟨k0, p0, p1, p2, p3, p4, k1, n1, k2, n2, k3, n3, k4, n4, k5, n5⟩ := id hm
      obtain ⟨w0, w1, w2, w3, w4, w5, w6, w7, w8, w9, w10, w11⟩ := hW.lits; have hw := hW.all
      simp (disch := omega) only [k0, p0, p1, p2, p3, p4, k1, n1, k2, n2, k3, n3, k4, n4, k5, n5, true_and, and_true, Option.some.injEq, exists_eq_left', am_wE, and_dr, imp_dr, imp_df, true_imp_iff, false_imp_iff, not_true_eq_false, not_false_eq_true, hw, w0, w1, w2, w3, w4, w5, w6, w7, w8, w9, w10, w11 ]
      rw [show j = n by omega]; exact h
    | succ m ih =>
      intro j hj
      have g := hG.pt j (by omega) (by omega)
      have g9 := hG.n9
      have bd := v_cs_bd W j
      have g0 := hG.d0; have g1 := hG.s1; have g2 := hG.s2; have g3 := hG.s3; have g4 := hG.s4; have g5 := hG.s5; have g6 := hG.s6; have g7 := hG.l7; have g8 := hG.r8; have g9 := hG.n9
      refine wf_X8_caster_4 (by omega) ?_
      obtain ⟨k0, p0, p1, p2, p3, p4, k1, n1, k2, n2, k3, n3, k4, n4, k5, n5⟩ := id hm
      obtain ⟨w0, w1, w2, w3, w4, w5, w6, w7, w8, w9, w10, w11⟩ := hW.lits; have hw := hW.all
      simp (disch := omega) only [k0, p0, p1, p2, p3, p4, k1, n1, k2, n2, k3, n3, k4, n4, k5, n5, true_and, and_true, Option.some.injEq, exists_eq_left', am_wE, and_dr, imp_dr, imp_df, true_imp_iff, false_imp_iff, not_true_eq_false, not_false_eq_true, hw, w0, w1, w2, w3, w4, w5, w6, w7, w8, w9, w10, w11 ]
      refine sp_isOn hm hW (by omega) (by omega) ?_
      have ih2 := ih (j + 1) (by omega)
      rw [v_cs] at ih2
      simp only [am_iv, ite_z, Int.natCast_add, Int.cast_ofNat_Int, v_tl] at ih2 ⊢
      refine ⟨fun c => ?_, fun c => ?_⟩
      · rw [if_neg (fun q => c q.1.1)] at ih2; exact ih2
      · simp only [Decidable.not_not] at c
        refine ⟨k0, sp_tailG hm hW hG (by omega) (by omega) ?_⟩
        simp only [am_iv]
        simp (disch := omega) only [k0, p0, p1, p2, p3, p4, k1, n1, k2, n2, k3, n3, k4, n4, k5, n5, true_and, and_true, Option.some.injEq, exists_eq_left', am_wE, and_dr, imp_dr, imp_df, true_imp_iff, false_imp_iff, not_true_eq_false, not_false_eq_true, hw, w0, w1, w2, w3, w4, w5, w6, w7, w8, w9, w10, w11 ]
        refine ⟨fun c1 => ?_, fun c1 => ?_⟩
        · rw [if_neg (fun q => absurd q.1.2.1 (by omega))] at ih2; exact ih2
        refine sp_tailG hm hW hG (by omega) (by omega) ?_
        simp only [am_iv]
        simp (disch := omega) only [k0, p0, p1, p2, p3, p4, k1, n1, k2, n2, k3, n3, k4, n4, k5, n5, true_and, and_true, Option.some.injEq, exists_eq_left', am_wE, and_dr, imp_dr, imp_df, true_imp_iff, false_imp_iff, not_true_eq_false, not_false_eq_true, hw, w0, w1, w2, w3, w4, w5, w6, w7, w8, w9, w10, w11 ]
        refine ⟨fun c2 => ?_, fun c2 => ⟨fun c3 => ?_, fun c3 => ?_⟩⟩
        · rw [if_neg (fun q => absurd q.1.2.2 (by omega))] at ih2; exact ih2
        · rw [if_pos ⟨⟨c, by omega, by omega⟩, Or.inl c3⟩] at ih2; exact ih2
        · refine sp_tailG hm hW hG (by omega) (by omega) ?_
          simp only [am_iv]
          refine ⟨k0, sp_tailG hm hW hG (by omega) (by omega) ?_⟩
          simp only [am_iv]
          refine ⟨fun c4 => ?_, fun c4 => ?_⟩
          · rw [if_neg (fun q => by rcases q.2 with q | q; exact c3 q; omega)] at ih2; exact ih2
          · rw [if_pos ⟨⟨c, by omega, by omega⟩, Or.inr (by omega)⟩] at ih2; exact ih2
  exact key n 0 (by omega)
theorem sp_atScanner (hd : 2 ≤ d) (hm : MS K N P) (hW : MW I W) (hG : v_G W) {n : Nat} (hn : W 9 = n) (h : Q (am_i (v_as W n)) K N I P z) : am_C d m_X8_atScanner [am_r 284] K N I P z Q am_nx := by
  refine wf_X8_atScanner ?_
  have key : ∀ (m j : Nat), j + m = n → L_X8_atScanner_4 d 284 (v_as W j) j K N I P z Q := by
    intro m
    induction m with
    | zero =>
      intro j hj
      refine wf_X8_atScanner_4 (by omega) ?_
      obtain ⟨k0, p0, p1, p2, p3, p4, k1, n1, k2, n2, k3, n3, k4, n4, k5, n5⟩ := id hm
      obtain ⟨w0, w1, w2, w3, w4, w5, w6, w7, w8, w9, w10, w11⟩ := hW.lits; have hw := hW.all
      simp (disch := omega) only [k0, p0, p1, p2, p3, p4, k1, n1, k2, n2, k3, n3, k4, n4, k5, n5, true_and, and_true, Option.some.injEq, exists_eq_left', am_wE, and_dr, imp_dr, imp_df, true_imp_iff, false_imp_iff, not_true_eq_false, not_false_eq_true, hw, w0, w1, w2, w3, w4, w5, w6, w7, w8, w9, w10, w11 ]
      rw [show j = n by omega]; exact h
    | succ m ih =>
      intro j hj
      have g := hG.pt j (by omega) (by omega)
      have g9 := hG.n9
      have g0 := hG.d0; have g1 := hG.s1; have g2 := hG.s2; have g3 := hG.s3; have g4 := hG.s4; have g5 := hG.s5; have g6 := hG.s6; have g7 := hG.l7; have g8 := hG.r8; have g9 := hG.n9
      refine wf_X8_atScanner_4 (by omega) ?_
      obtain ⟨k0, p0, p1, p2, p3, p4, k1, n1, k2, n2, k3, n3, k4, n4, k5, n5⟩ := id hm
      obtain ⟨w0, w1, w2, w3, w4, w5, w6, w7, w8, w9, w10, w11⟩ := hW.lits; have hw := hW.all
      simp (disch := omega) only [k0, p0, p1, p2, p3, p4, k1, n1, k2, n2, k3, n3, k4, n4, k5, n5, true_and, and_true, Option.some.injEq, exists_eq_left', am_wE, and_dr, imp_dr, imp_df, true_imp_iff, false_imp_iff, not_true_eq_false, not_false_eq_true, hw, w0, w1, w2, w3, w4, w5, w6, w7, w8, w9, w10, w11 ]
      refine sp_isOn hm hW (by omega) (by omega) ?_
      have ih2 := ih (j + 1) (by omega)
      rw [v_as] at ih2
      simp only [am_iv, ite_z, Int.natCast_add, Int.cast_ofNat_Int, v_tl] at ih2 ⊢
      refine ⟨fun c => ?_, fun c => ?_⟩
      · rw [if_neg (fun q => c q.1)] at ih2; exact ih2
      · simp only [Decidable.not_not] at c
        refine ⟨k0, sp_tailG hm hW hG (by omega) (by omega) ?_⟩
        simp only [am_iv]
        simp (disch := omega) only [k0, p0, p1, p2, p3, p4, k1, n1, k2, n2, k3, n3, k4, n4, k5, n5, true_and, and_true, Option.some.injEq, exists_eq_left', am_wE, and_dr, imp_dr, imp_df, true_imp_iff, false_imp_iff, not_true_eq_false, not_false_eq_true, hw, w0, w1, w2, w3, w4, w5, w6, w7, w8, w9, w10, w11 ]
        refine ⟨fun c1 => ?_, fun c1 => ⟨fun c2 => ?_, fun c2 => ?_⟩⟩
        · rw [if_neg (fun q => absurd q.2.1 (by omega))] at ih2; exact ih2
        · rw [if_neg (fun q => absurd q.2.2 (by omega))] at ih2; exact ih2
        · rw [if_pos ⟨c, by omega, by omega⟩] at ih2; exact ih2
  exact key n 0 (by omega)
end
