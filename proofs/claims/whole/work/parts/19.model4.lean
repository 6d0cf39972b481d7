/-! the invariant of the row w; looking up -/
def v_G (W : Int → Int) : Prop := (0 ≤ W 0) ∧ (50 ≤ W 1 ∧ W 1 ≤ 1000) ∧ (0 ≤ W 2 ∧ W 2 ≤ 200) ∧ (0 ≤ W 3 ∧ W 3 ≤ 500) ∧ (0 ≤ W 4 ∧ W 4 ≤ 500) ∧ (1000 ≤ W 5 ∧ W 5 ≤ 5000) ∧ (0 ≤ W 6 ∧ W 6 ≤ 100) ∧ (0 ≤ W 7 ∧ W 7 ≤ 6) ∧ (0 ≤ W 8 ∧ W 8 ≤ 30) ∧ (0 ≤ W 9 ∧ W 9 ≤ 300) ∧ (∀ l, 0 ≤ l → l < W 7 → (1 ≤ W (16 + l) ∧ W (16 + l) ≤ 4999) ∧ (1 ≤ W (22 + l) ∧ W (22 + l) ≤ 200) ∧ (1 ≤ W (28 + l) ∧ W (28 + l) ≤ 50) ∧ (0 ≤ W (34 + l) ∧ W (34 + l) ≤ W (28 + l))) ∧ (∀ l, W 7 ≤ l → l < 6 → W (34 + l) = 0 ∧ W (40 + l) = 0) ∧ (∀ k, 0 ≤ k → k < W 8 → (0 ≤ W (46 + k) ∧ W (46 + k) ≤ 999) ∧ (0 ≤ W (76 + k) ∧ W (76 + k) < W 7)) ∧ (∃ e, e ≤ 80 ∧ v_rend (v_T W) 50 0 = some e) ∧ (∀ p, 0 ≤ p → p < W 9 → (10 ≤ W (200 + p) ∧ W (200 + p) ≤ 400) ∧ (0 ≤ W (500 + p) ∧ W (500 + p) ≤ 5000) ∧ (-1 ≤ W (1100 + p) ∧ W (1100 + p) ≤ 999) ∧ (W (1400 + p) = 0 ∨ W (1400 + p) = 1) ∧ (W (1700 + p) = 0 ∨ W (1700 + p) = 1) ∧ (W (2600 + p) = 0 ∨ W (2600 + p) = 5 ∨ W (2600 + p) = 6) ∧ (0 ≤ W (800 + p) ∧ W (800 + p) ≤ 15)) ∧ (∀ p q, 0 ≤ p → p < q → q < W 9 → W (800 + p) = 0 → W (800 + q) = 0 → W (500 + q) ≤ W (500 + p) - W (200 + p))
section
variable {W : Int → Int}
theorem v_G.d0 (h : v_G W) : 0 ≤ W 0 := h.1
theorem v_G.s1 (h : v_G W) : 50 ≤ W 1 ∧ W 1 ≤ 1000 := h.2.1
theorem v_G.s2 (h : v_G W) : 0 ≤ W 2 ∧ W 2 ≤ 200 := h.2.2.1
theorem v_G.s3 (h : v_G W) : 0 ≤ W 3 ∧ W 3 ≤ 500 := h.2.2.2.1
theorem v_G.s4 (h : v_G W) : 0 ≤ W 4 ∧ W 4 ≤ 500 := h.2.2.2.2.1
theorem v_G.s5 (h : v_G W) : 1000 ≤ W 5 ∧ W 5 ≤ 5000 := h.2.2.2.2.2.1
theorem v_G.s6 (h : v_G W) : 0 ≤ W 6 ∧ W 6 ≤ 100 := h.2.2.2.2.2.2.1
theorem v_G.l7 (h : v_G W) : 0 ≤ W 7 ∧ W 7 ≤ 6 := h.2.2.2.2.2.2.2.1
theorem v_G.r8 (h : v_G W) : 0 ≤ W 8 ∧ W 8 ≤ 30 := h.2.2.2.2.2.2.2.2.1
theorem v_G.n9 (h : v_G W) : 0 ≤ W 9 ∧ W 9 ≤ 300 := h.2.2.2.2.2.2.2.2.2.1
theorem v_G.ln (h : v_G W) : ∀ l, 0 ≤ l → l < W 7 → (1 ≤ W (16 + l) ∧ W (16 + l) ≤ 4999) ∧ (1 ≤ W (22 + l) ∧ W (22 + l) ≤ 200) ∧ (1 ≤ W (28 + l) ∧ W (28 + l) ≤ 50) ∧ (0 ≤ W (34 + l) ∧ W (34 + l) ≤ W (28 + l)) := h.2.2.2.2.2.2.2.2.2.2.1
theorem v_G.l0 (h : v_G W) : ∀ l, W 7 ≤ l → l < 6 → W (34 + l) = 0 ∧ W (40 + l) = 0 := h.2.2.2.2.2.2.2.2.2.2.2.1
theorem v_G.rt (h : v_G W) : ∀ k, 0 ≤ k → k < W 8 → (0 ≤ W (46 + k) ∧ W (46 + k) ≤ 999) ∧ (0 ≤ W (76 + k) ∧ W (76 + k) < W 7) := h.2.2.2.2.2.2.2.2.2.2.2.2.1
theorem v_G.rl (h : v_G W) : ∃ e, e ≤ 80 ∧ v_rend (v_T W) 50 0 = some e := h.2.2.2.2.2.2.2.2.2.2.2.2.2.1
theorem v_G.pt (h : v_G W) : ∀ p, 0 ≤ p → p < W 9 → (10 ≤ W (200 + p) ∧ W (200 + p) ≤ 400) ∧ (0 ≤ W (500 + p) ∧ W (500 + p) ≤ 5000) ∧ (-1 ≤ W (1100 + p) ∧ W (1100 + p) ≤ 999) ∧ (W (1400 + p) = 0 ∨ W (1400 + p) = 1) ∧ (W (1700 + p) = 0 ∨ W (1700 + p) = 1) ∧ (W (2600 + p) = 0 ∨ W (2600 + p) = 5 ∨ W (2600 + p) = 6) ∧ (0 ≤ W (800 + p) ∧ W (800 + p) ≤ 15) := h.2.2.2.2.2.2.2.2.2.2.2.2.2.2.1
theorem v_G.od (h : v_G W) : ∀ p q, 0 ≤ p → p < q → q < W 9 → W (800 + p) = 0 → W (800 + q) = 0 → W (500 + q) ≤ W (500 + p) - W (200 + p) := h.2.2.2.2.2.2.2.2.2.2.2.2.2.2.2
theorem v_G.mk (d0 : 0 ≤ W 0) (s1 : 50 ≤ W 1 ∧ W 1 ≤ 1000) (s2 : 0 ≤ W 2 ∧ W 2 ≤ 200) (s3 : 0 ≤ W 3 ∧ W 3 ≤ 500) (s4 : 0 ≤ W 4 ∧ W 4 ≤ 500) (s5 : 1000 ≤ W 5 ∧ W 5 ≤ 5000) (s6 : 0 ≤ W 6 ∧ W 6 ≤ 100) (l7 : 0 ≤ W 7 ∧ W 7 ≤ 6) (r8 : 0 ≤ W 8 ∧ W 8 ≤ 30) (n9 : 0 ≤ W 9 ∧ W 9 ≤ 300) (ln : ∀ l, 0 ≤ l → l < W 7 → (1 ≤ W (16 + l) ∧ W (16 + l) ≤ 4999) ∧ (1 ≤ W (22 + l) ∧ W (22 + l) ≤ 200) ∧ (1 ≤ W (28 + l) ∧ W (28 + l) ≤ 50) ∧ (0 ≤ W (34 + l) ∧ W (34 + l) ≤ W (28 + l))) (l0 : ∀ l, W 7 ≤ l → l < 6 → W (34 + l) = 0 ∧ W (40 + l) = 0) (rt : ∀ k, 0 ≤ k → k < W 8 → (0 ≤ W (46 + k) ∧ W (46 + k) ≤ 999) ∧ (0 ≤ W (76 + k) ∧ W (76 + k) < W 7)) (rl : ∃ e, e ≤ 80 ∧ v_rend (v_T W) 50 0 = some e) (pt : ∀ p, 0 ≤ p → p < W 9 → (10 ≤ W (200 + p) ∧ W (200 + p) ≤ 400) ∧ (0 ≤ W (500 + p) ∧ W (500 + p) ≤ 5000) ∧ (-1 ≤ W (1100 + p) ∧ W (1100 + p) ≤ 999) ∧ (W (1400 + p) = 0 ∨ W (1400 + p) = 1) ∧ (W (1700 + p) = 0 ∨ W (1700 + p) = 1) ∧ (W (2600 + p) = 0 ∨ W (2600 + p) = 5 ∨ W (2600 + p) = 6) ∧ (0 ≤ W (800 + p) ∧ W (800 + p) ≤ 15)) (od : ∀ p q, 0 ≤ p → p < q → q < W 9 → W (800 + p) = 0 → W (800 + q) = 0 → W (500 + q) ≤ W (500 + p) - W (200 + p)) : v_G W := ⟨d0, s1, s2, s3, s4, s5, s6, l7, r8, n9, ln, l0, rt, rl, pt, od⟩
end
/-- only the row w and the place in the text were written -/
def FR (I I' : Nat → Nat → Int) : Prop := ∀ a j, a ≠ 285 → ¬ (a = 284 ∧ j = 8) → I' a j = I a j
theorem FR.rf {I : Nat → Nat → Int} : FR I I := fun _ _ _ _ => rfl
theorem FR.tr {I I1 I2 : Nat → Nat → Int} (h : FR I I1) (h2 : FR I1 I2) : FR I I2 := fun a j h3 h4 => (h2 a j h3 h4).trans (h a j h3 h4)
theorem FR.put {I I' : Nat → Nat → Int} (h : FR I I') {k : Nat} {x : Int} : FR I (am_u2 I' 285 k x) := fun a j h1 h2 => (am_u2_o (by omega)).trans (h a j h1 h2)
theorem FR.J {I I' : Nat → Nat → Int} (h : FR I I') {x : Int} : FR I (v_J I' x) := fun a j h1 h2 => (am_u2_o (by omega)).trans (h a j h1 h2)
theorem FW.FR {I I' : Nat → Nat → Int} (h : FW I I') : FR I I' := fun a j h1 _ => by rw [h a h1]
/-- the last one below n that f holds of -/
def v_prev (f : Int → Bool) : Nat → Int
  | 0 => -1
  | n + 1 => if f n then n else v_prev f n
/-- the first one from q on that f holds of, after at most m steps -/
def v_next (f : Int → Bool) : Nat → Int → Int
  | 0, q => q
  | m + 1, q => if f q then q else v_next f m (q + 1)
theorem v_prev_bd (f : Int → Bool) : ∀ n : Nat, -1 ≤ v_prev f n ∧ v_prev f n < n
  | 0 => by simp [v_prev]
  | n + 1 => by
    have := v_prev_bd f n
    unfold v_prev
    split <;> omega
theorem v_prev_on (f : Int → Bool) : ∀ n : Nat, ¬ v_prev f n = -1 → f (v_prev f n) = true
  | 0, h => (h rfl).elim
  | n + 1, h => by
    unfold v_prev at h ⊢
    split
    · assumption
    · rename_i h1; rw [if_neg h1] at h; exact v_prev_on f n h
theorem v_prev_no (f : Int → Bool) : ∀ n : Nat, ∀ p : Int, v_prev f n < p → p < n → f p = false
  | 0, p, h1, h2 => by simp [v_prev] at h1; omega
  | n + 1, p, h1, h2 => by
    unfold v_prev at h1
    split at h1
    · omega
    · rename_i h3
      by_cases h4 : p = n
      · subst h4; simpa using h3
      · exact v_prev_no f n p h1 (by omega)
theorem v_next_bd (f : Int → Bool) : ∀ (m : Nat) (q : Int), q ≤ v_next f m q ∧ v_next f m q ≤ q + m
  | 0, q => by simp [v_next]
  | m + 1, q => by
    have := v_next_bd f m (q + 1)
    unfold v_next
    split <;> omega
theorem v_next_on (f : Int → Bool) : ∀ (m : Nat) (q : Int), v_next f m q < q + m → f (v_next f m q) = true
  | 0, q, h => by simp [v_next] at h
  | m + 1, q, h => by
    unfold v_next at h ⊢
    split
    · assumption
    · rename_i h1; rw [if_neg h1] at h; exact v_next_on f m (q + 1) (by omega)
theorem v_next_no (f : Int → Bool) : ∀ (m : Nat) (q p : Int), q ≤ p → p < v_next f m q → f p = false
  | 0, q, p, h1, h2 => by simp [v_next] at h2; omega
  | m + 1, q, p, h1, h2 => by
    unfold v_next at h2
    split at h2
    · omega
    · rename_i h3
      by_cases h4 : p = q
      · subst h4; simpa using h3
      · exact v_next_no f m (q + 1) p (by omega) h2
abbrev v_ah (W : Int → Int) (n : Nat) : Int := v_prev (v_on W) n
abbrev v_be (W : Int → Int) (p : Int) : Int := v_next (v_on W) (W 9 - p - 1).toNat (p + 1)
/-- the place of a code's route, or where it would be -/
def v_pl (W : Int → Int) (c : Int) : Nat → Int → Int
  | 0, k => k
  | m + 1, k => if c ≤ W (46 + k) then k else v_pl W c m (k + 1)
theorem v_pl_bd (W : Int → Int) (c : Int) : ∀ (m : Nat) (k : Int), k ≤ v_pl W c m k ∧ v_pl W c m k ≤ k + m
  | 0, q => by simp [v_pl]
  | m + 1, q => by
    have := v_pl_bd W c m (q + 1)
    unfold v_pl
    split <;> omega
abbrev v_place (W : Int → Int) (c : Int) : Int := v_pl W c (W 8).toNat 0
abbrev v_has (W : Int → Int) (c : Int) : Prop := v_place W c < W 8 ∧ W (46 + v_place W c) = c
def v_byR (W : Int → Int) (c s : Int) : Int := if 0 ≤ v_rev (v_T W) 50 0 c s - 48 ∧ v_rev (v_T W) 50 0 c s - 48 < W 7 then v_rev (v_T W) 50 0 c s - 48 else -1
def v_lby (W : Int → Int) (c s : Int) : Int := if v_has W c then W (76 + v_place W c) else v_byR W c s
def v_lo (W : Int → Int) (p : Int) : Int := if W (1100 + p) = -1 ∨ W (1400 + p) = 1 ∨ W (1700 + p) = 1 then -1 else v_lby W (W (1100 + p)) (W (200 + p))
theorem v_place_bd {W : Int → Int} (h8 : 0 ≤ W 8) (c : Int) : 0 ≤ v_place W c ∧ v_place W c ≤ W 8 := by
  have := v_pl_bd W c (W 8).toNat 0
  show 0 ≤ v_pl W c (W 8).toNat 0 ∧ v_pl W c (W 8).toNat 0 ≤ W 8
  omega
theorem v_byR_bd {W : Int → Int} {c s : Int} (h7 : 0 ≤ W 7) : v_byR W c s = -1 ∨ (0 ≤ v_byR W c s ∧ v_byR W c s < W 7) := by unfold v_byR; split <;> omega
theorem v_G.lby {W : Int → Int} (hG : v_G W) {c s : Int} : v_lby W c s = -1 ∨ (0 ≤ v_lby W c s ∧ v_lby W c s < W 7) := by
  unfold v_lby
  split
  · rename_i h
    have := v_pl_bd W c (W 8).toNat 0
    have := (hG.rt (v_place W c) (by simp only [v_place]; omega) h.1).2
    omega
  · exact v_byR_bd hG.l7.1
theorem v_G.lo {W : Int → Int} (hG : v_G W) {p : Int} : v_lo W p = -1 ∨ (0 ≤ v_lo W p ∧ v_lo W p < W 7) := by
  unfold v_lo
  split
  · exact Or.inl rfl
  · exact hG.lby
section
variable {d : Nat} {K N : Nat → Nat} {I : Nat → Nat → Int} {P : Nat → Nat → Option Nat} {z : Nat} {Q : am_V → am_T} {W : Int → Int}
theorem sp_tailG (hm : MS K N P) (hW : MW I W) (hG : v_G W) {p : Int} (h0 : 0 ≤ p) (h1 : p < W 9) (h : Q (am_i (W (500 + p) - W (200 + p))) K N I P z) : am_C d m_X8_tail [am_r 284, am_i p] K N I P z Q am_nx := by
  have g := hG.pt p h0 h1
  have := hG.n9
  refine sp_tail hm hW h0 (by omega) ?_
  rw [am_wE (by omega) (by omega)]; exact h
theorem sp_middleG (hm : MS K N P) (hW : MW I W) (hG : v_G W) {p : Int} (h0 : 0 ≤ p) (h1 : p < W 9) (h : Q (am_i (W (500 + p) - W (200 + p) / 2)) K N I P z) : am_C d m_X8_middle [am_r 284, am_i p] K N I P z Q am_nx := by
  have g := hG.pt p h0 h1
  have := hG.n9
  refine sp_middle hm hW h0 (by omega) ?_
  rw [Int.tdiv_eq_ediv_of_nonneg (by omega), am_wE (x := W (200 + p) / 2) (by omega) (by omega), am_wE (by omega) (by omega)]; exact h
theorem sp_ahead (hd : 1 ≤ d) (hm : MS K N P) (hW : MW I W) {n : Nat} (hn : n ≤ 300) {p : Int} (hp : p = n) (h : Q (am_i (v_ah W n)) K N I P z) : am_C d m_X8_ahead [am_r 284, am_i p] K N I P z Q am_nx := by
  subst hp
  refine wf_X8_ahead ?_
  rw [am_wE (by omega) (by omega)]
  induction n with
  | zero =>
    refine wf_X8_ahead_4 hd ?_
    simp (disch := omega) only [and_dr, imp_dr, imp_df, and_true, true_and]
    exact h
  | succ n ih =>
    refine wf_X8_ahead_4 hd ?_
    obtain ⟨k0, p0, p1, p2, p3, p4, k1, n1, k2, n2, k3, n3, k4, n4, k5, n5⟩ := id hm
    simp (disch := omega) only [k0, p0, p1, p2, p3, p4, k1, n1, k2, n2, k3, n3, k4, n4, k5, n5, true_and, and_true, Option.some.injEq, exists_eq_left', am_wE, and_dr, imp_dr, imp_df, true_imp_iff, false_imp_iff, not_true_eq_false, not_false_eq_true]
    refine sp_isOn hm hW (by omega) (by omega) ?_
    simp only [am_iv, ite_z, v_ah, v_prev] at h ⊢
    by_cases hc : W (800 + (n : Int)) = 0
    · rw [if_pos (by simpa using hc)] at h
      have e : ((n + 1 : Nat) : Int) - 1 = n := by omega
      simp only [e, hc, not_true_eq_false, not_false_eq_true, true_imp_iff, false_imp_iff, and_true]
      exact h
    · rw [if_neg (by simpa using hc)] at h
      have e : ((n + 1 : Nat) : Int) - 1 = n := by omega
      simp only [e, hc, not_true_eq_false, not_false_eq_true, true_imp_iff, false_imp_iff, true_and]
      rw [show (n : Int) + -1 = n - 1 by omega]
      exact ih (by omega) h
theorem sp_behind (hd : 1 ≤ d) (hm : MS K N P) (hW : MW I W) (hn : W 9 ≤ 300) {p : Int} (h0 : -1 ≤ p) (h1 : p < W 9) (h : Q (am_i (v_be W p)) K N I P z) : am_C d m_X8_behind [am_r 284, am_i p] K N I P z Q am_nx := by
  refine wf_X8_behind ?_
  rw [am_wE (by omega) (by omega)]
  have key : ∀ (m : Nat) (q : Int), 0 ≤ q → q + m = W 9 → Q (am_i (v_next (v_on W) m q)) K N I P z → L_X8_behind_4 d 284 q K N I P z Q := by
    intro m
    induction m with
    | zero =>
      intro q h0 h1 hh
      refine wf_X8_behind_4 hd ?_
      obtain ⟨k0, p0, p1, p2, p3, p4, k1, n1, k2, n2, k3, n3, k4, n4, k5, n5⟩ := id hm
      obtain ⟨w0, w1, w2, w3, w4, w5, w6, w7, w8, w9, w10, w11⟩ := hW.lits; have hw := hW.all
      simp (disch := omega) only [k0, p0, p1, p2, p3, p4, k1, n1, k2, n2, k3, n3, k4, n4, k5, n5, true_and, and_true, Option.some.injEq, exists_eq_left', am_wE, and_dr, imp_dr, imp_df, true_imp_iff, false_imp_iff, not_true_eq_false, not_false_eq_true, hw, w0, w1, w2, w3, w4, w5, w6, w7, w8, w9, w10, w11 ]
      exact hh
    | succ m ih =>
      intro q h0 h1 hh
      refine wf_X8_behind_4 hd ?_
      obtain ⟨k0, p0, p1, p2, p3, p4, k1, n1, k2, n2, k3, n3, k4, n4, k5, n5⟩ := id hm
      obtain ⟨w0, w1, w2, w3, w4, w5, w6, w7, w8, w9, w10, w11⟩ := hW.lits; have hw := hW.all
      simp (disch := omega) only [k0, p0, p1, p2, p3, p4, k1, n1, k2, n2, k3, n3, k4, n4, k5, n5, true_and, and_true, Option.some.injEq, exists_eq_left', am_wE, and_dr, imp_dr, imp_df, true_imp_iff, false_imp_iff, not_true_eq_false, not_false_eq_true, hw, w0, w1, w2, w3, w4, w5, w6, w7, w8, w9, w10, w11 ]
      refine sp_isOn hm hW (by omega) (by omega) ?_
      simp only [am_iv, ite_z, v_next] at hh ⊢
      refine ⟨fun c => ?_, fun c => ?_⟩
      · rw [if_pos (by simpa using c)] at hh; exact hh
      · rw [if_neg (by simpa using c)] at hh; exact ih _ (by omega) (by omega) hh
  exact key _ _ (by omega) (by omega) h
theorem sp_latest (hd : 2 ≤ d) (hm : MS K N P) (hW : MW I W) {n : Nat} (hn : n ≤ 300) (hp : W 9 = n) (h : Q (am_i (v_ah W n)) K N I P z) : am_C d m_X8_latest [am_r 284] K N I P z Q am_nx := by
  refine wf_X8_latest (by omega) ?_
  obtain ⟨k0, p0, p1, p2, p3, p4, k1, n1, k2, n2, k3, n3, k4, n4, k5, n5⟩ := id hm
  obtain ⟨w0, w1, w2, w3, w4, w5, w6, w7, w8, w9, w10, w11⟩ := hW.lits; have hw := hW.all
  simp (disch := omega) only [k0, p0, p1, p2, p3, p4, k1, n1, k2, n2, k3, n3, k4, n4, k5, n5, true_and, and_true, Option.some.injEq, exists_eq_left', am_wE, and_dr, imp_dr, imp_df, true_imp_iff, false_imp_iff, not_true_eq_false, not_false_eq_true, hw, w0, w1, w2, w3, w4, w5, w6, w7, w8, w9, w10, w11 ]
  exact sp_ahead (by omega) hm hW hn hp h
theorem sp_placeOf (hm : MS K N P) (hW : MW I W) (h8 : 0 ≤ W 8 ∧ W 8 ≤ 30) {c : Int} (h : Q (am_i (v_place W c)) K N I P z) : am_C d m_X8_placeOf [am_r 284, am_i c] K N I P z Q am_nx := by
  refine wf_X8_placeOf ?_
  have key : ∀ (m : Nat) (q : Int), 0 ≤ q → q + m = W 8 → Q (am_i (v_pl W c m q)) K N I P z → L_X8_placeOf_2 d 284 c q K N I P z Q := by
    intro m
    induction m with
    | zero =>
      intro q h0 h1 hh
      refine wf_X8_placeOf_2 ?_
      obtain ⟨k0, p0, p1, p2, p3, p4, k1, n1, k2, n2, k3, n3, k4, n4, k5, n5⟩ := id hm
      obtain ⟨w0, w1, w2, w3, w4, w5, w6, w7, w8, w9, w10, w11⟩ := hW.lits; have hw := hW.all
      simp (disch := omega) only [k0, p0, p1, p2, p3, p4, k1, n1, k2, n2, k3, n3, k4, n4, k5, n5, true_and, and_true, Option.some.injEq, exists_eq_left', am_wE, and_dr, imp_dr, imp_df, true_imp_iff, false_imp_iff, not_true_eq_false, not_false_eq_true, hw, w0, w1, w2, w3, w4, w5, w6, w7, w8, w9, w10, w11 ]
      exact hh
    | succ m ih =>
      intro q h0 h1 hh
      refine wf_X8_placeOf_2 ?_
      obtain ⟨k0, p0, p1, p2, p3, p4, k1, n1, k2, n2, k3, n3, k4, n4, k5, n5⟩ := id hm
      obtain ⟨w0, w1, w2, w3, w4, w5, w6, w7, w8, w9, w10, w11⟩ := hW.lits; have hw := hW.all
      simp (disch := omega) only [k0, p0, p1, p2, p3, p4, k1, n1, k2, n2, k3, n3, k4, n4, k5, n5, true_and, and_true, Option.some.injEq, exists_eq_left', am_wE, and_dr, imp_dr, imp_df, true_imp_iff, false_imp_iff, not_true_eq_false, not_false_eq_true, hw, w0, w1, w2, w3, w4, w5, w6, w7, w8, w9, w10, w11 ]
      simp only [v_pl] at hh
      refine ⟨fun q9 => ?_, fun q9 => ?_⟩
      · rw [if_pos q9] at hh; exact hh
      · rw [if_neg q9] at hh; exact ih _ (by omega) (by omega) hh
  exact key _ _ (by omega) (by omega) h
theorem sp_hasRoute (hd : 1 ≤ d) (hm : MS K N P) (hW : MW I W) (h8 : 0 ≤ W 8 ∧ W 8 ≤ 30) {c : Int} (h : Q (am_i (if v_has W c then 1 else 0)) K N I P z) : am_C d m_X8_hasRoute [am_r 284, am_i c] K N I P z Q am_nx := by
  refine wf_X8_hasRoute (by omega) ⟨hm.1, sp_placeOf hm hW h8 ?_⟩
  have b := v_place_bd h8.1 c
  obtain ⟨k0, p0, p1, p2, p3, p4, k1, n1, k2, n2, k3, n3, k4, n4, k5, n5⟩ := id hm
  obtain ⟨w0, w1, w2, w3, w4, w5, w6, w7, w8, w9, w10, w11⟩ := hW.lits; have hw := hW.all
  simp only [am_iv]
  simp (disch := omega) only [k0, p0, p1, p2, p3, p4, k1, n1, k2, n2, k3, n3, k4, n4, k5, n5, true_and, and_true, Option.some.injEq, exists_eq_left', am_wE, and_dr, imp_dr, imp_df, true_imp_iff, false_imp_iff, not_true_eq_false, not_false_eq_true, hw, w0, w1, w2, w3, w4, w5, w6, w7, w8, w9, w10, w11 ]
  refine ⟨fun q => ?_, fun q => ?_⟩
  · rw [if_neg (fun q9 => absurd q9.1 (by omega))] at h; exact h
  · refine ⟨fun q1 => ?_, fun q1 => ?_⟩
    · rw [if_neg (fun q2 => q1 q2.2)] at h; exact h
    · rw [if_pos ⟨by omega, q1⟩] at h; exact h
theorem sp_laneBy (hd : 5 ≤ d) (hm : MS K N P) (hW : MW I W) (hG : v_G W) {c s : Int} (hc0 : 0 ≤ c) (hc1 : c ≤ 999) (h : ∀ I', FR I I' → MW I' W → Q (am_i (v_lby W c s)) K N I' P z) : am_C d m_X8_laneBy [am_r 284, am_i c, am_i s] K N I P z Q am_nx := by
  refine wf_X8_laneBy (by omega) ⟨hm.1, sp_hasRoute (by omega) hm hW hG.r8 ?_⟩
  have b := v_place_bd hG.r8.1 c
  have g8 := hG.r8
  unfold v_lby at h
  simp only [am_iv, ite_z]
  refine ⟨fun q => ⟨hm.1, ?_⟩, fun q => ⟨hm.1, 285, hm.2.1, ?_⟩⟩
  · rw [if_neg q] at h
    obtain ⟨e, e1, e2⟩ := hG.rl
    exact sp_byRule (by omega) hm hW hG.l7 (f := 50) (by omega) hc0 hc1 (by omega) e2 (fun q => h _ FR.rf.J (v_JW hW))
  · rw [if_pos (by simpa using q)] at h
    refine sp_placeOf hm hW hG.r8 ?_
    obtain ⟨k0, p0, p1, p2, p3, p4, k1, n1, k2, n2, k3, n3, k4, n4, k5, n5⟩ := id hm
    obtain ⟨w0, w1, w2, w3, w4, w5, w6, w7, w8, w9, w10, w11⟩ := hW.lits; have hw := hW.all
    simp only [am_iv]
    have := (Decidable.not_not.mp q).1
    simp (disch := omega) only [k0, p0, p1, p2, p3, p4, k1, n1, k2, n2, k3, n3, k4, n4, k5, n5, true_and, and_true, Option.some.injEq, exists_eq_left', am_wE, and_dr, imp_dr, imp_df, true_imp_iff, false_imp_iff, not_true_eq_false, not_false_eq_true, hw, w0, w1, w2, w3, w4, w5, w6, w7, w8, w9, w10, w11 ]
    exact h I FR.rf hW
theorem sp_laneOf (hd : 6 ≤ d) (hm : MS K N P) (hW : MW I W) (hG : v_G W) {p : Int} (h0 : 0 ≤ p) (h1 : p < W 9) (h : ∀ I', FR I I' → MW I' W → Q (am_i (v_lo W p)) K N I' P z) : am_C d m_X8_laneOf [am_r 284, am_i p] K N I P z Q am_nx := by
  refine wf_X8_laneOf (by omega) ?_
  have g := hG.pt p h0 h1
  have g9 := hG.n9
  obtain ⟨k0, p0, p1, p2, p3, p4, k1, n1, k2, n2, k3, n3, k4, n4, k5, n5⟩ := id hm
  obtain ⟨w0, w1, w2, w3, w4, w5, w6, w7, w8, w9, w10, w11⟩ := hW.lits; have hw := hW.all
  unfold v_lo at h
  simp (disch := omega) only [k0, p0, p1, p2, p3, p4, k1, n1, k2, n2, k3, n3, k4, n4, k5, n5, true_and, and_true, Option.some.injEq, exists_eq_left', am_wE, and_dr, imp_dr, imp_df, true_imp_iff, false_imp_iff, not_true_eq_false, not_false_eq_true, hw, w0, w1, w2, w3, w4, w5, w6, w7, w8, w9, w10, w11 ]
  refine ⟨fun c => ?_, fun c => ⟨fun c2 => ?_, fun c2 => ⟨fun c3 => ?_, fun c3 => ?_⟩⟩⟩
  · rw [if_pos (Or.inl c)] at h; exact h I FR.rf hW
  · rw [if_pos (Or.inr (Or.inl c2))] at h; exact h I FR.rf hW
  · rw [if_neg (by omega)] at h
    exact sp_laneBy (by omega) hm hW hG (by omega) (by omega) h
  · rw [if_pos (Or.inr (Or.inr c3))] at h; exact h I FR.rf hW
end
