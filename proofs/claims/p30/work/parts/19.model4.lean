/-! the invariant of the row w; looking up -/
def v_G (W : Int → Int) : Prop := (0 ≤ W 0) ∧ (50 ≤ W 1 ∧ W 1 ≤ 1000) ∧ (0 ≤ W 2 ∧ W 2 ≤ 200) ∧ (0 ≤ W 3 ∧ W 3 ≤ 500) ∧ (0 ≤ W 4 ∧ W 4 ≤ 500) ∧ (1000 ≤ W 5 ∧ W 5 ≤ 5000) ∧ (0 ≤ W 6 ∧ W 6 ≤ 100) ∧ (0 ≤ W 7 ∧ W 7 ≤ 6) ∧ (0 ≤ W 8 ∧ W 8 ≤ 30) ∧ (0 ≤ W 9 ∧ W 9 ≤ 300) ∧ (∀ l, 0 ≤ l → l < W 7 → (1 ≤ W (16 + l) ∧ W (16 + l) ≤ 4999) ∧ (1 ≤ W (22 + l) ∧ W (22 + l) ≤ 200) ∧ (1 ≤ W (28 + l) ∧ W (28 + l) ≤ 50) ∧ (0 ≤ W (34 + l) ∧ W (34 + l) ≤ W (28 + l))) ∧ (∀ l, W 7 ≤ l → l < 6 → W (34 + l) = 0 ∧ W (40 + l) = 0) ∧ (∀ k, 0 ≤ k → k < W 8 → (0 ≤ W (46 + k) ∧ W (46 + k) ≤ 999) ∧ (0 ≤ W (76 + k) ∧ W (76 + k) < W 7)) ∧ (∃ e, e ≤ 80 ∧ v_rend (v_T W) 50 0 = some e) ∧ (∀ p, 0 ≤ p → p < W 9 → (10 ≤ W (200 + p) ∧ W (200 + p) ≤ 400) ∧ (0 ≤ W (500 + p) ∧ W (500 + p) ≤ 5000) ∧ (-1 ≤ W (1100 + p) ∧ W (1100 + p) ≤ 999) ∧ (W (1400 + p) = 0 ∨ W (1400 + p) = 1) ∧ (W (1700 + p) = 0 ∨ W (1700 + p) = 1) ∧ (W (2600 + p) = 0 ∨ W (2600 + p) = 5 ∨ W (2600 + p) = 6) ∧ (0 ≤ W (800 + p) ∧ W (800 + p) ≤ 15)) ∧ (∀ p q, 0 ≤ p → p < q → q < W 9 → W (800 + p) = 0 → W (800 + q) = 0 → W (500 + q) ≤ W (500 + p) - W (200 + p))
section
variable {W : Int → Int}
theorem v_G.d0 (h : v_G W) : 0 ≤ W 0 := h.1
theorem v_G.s1 (h : v_G W) : 50 ≤ W 1 ∧ W 1 ≤ 1000 := h.2.1
theorem v_G.s2 (h : v_G W) : 0 ≤ W 2 ∧ W 2 ≤ 200 := h.2.2.1
theorem v_G.s3 (h : v_G W) : 0 ≤ W 3 ∧ W 3 ≤ 500 := h.2.2.2.1
theorem v_G.s4 (h : v_G W) : 0 ≤ W 4 ∧ W 4 ≤ 500 := h.2.2.2.2.1
theorem v_G.s5 (h : v_G W) : 1000 ≤ W 5 ∧ W 5 ≤ 5000 := h.2.2.2.2.2.1
theorem v_G.s6 (h : v_G W) : 0 ≤ W 6 ∧ W 6 ≤ 100 := h.2.2.2.2.2.2.1
theorem v_G.l7 (h : v_G W) : 0 ≤ W 7 ∧ W 7 ≤ 6 := h.2.2.2.2.2.2.2.1
theorem v_G.r8 (h : v_G W) : 0 ≤ W 8 ∧ W 8 ≤ 30 := h.2.2.2.2.2.2.2.2.1
theorem v_G.n9 (h : v_G W) : 0 ≤ W 9 ∧ W 9 ≤ 300 := h.2.2.2.2.2.2.2.2.2.1
theorem v_G.ln (h : v_G W) : ∀ l, 0 ≤ l → l < W 7 → (1 ≤ W (16 + l) ∧ W (16 + l) ≤ 4999) ∧ (1 ≤ W (22 + l) ∧ W (22 + l) ≤ 200) ∧ (1 ≤ W (28 + l) ∧ W (28 + l) ≤ 50) ∧ (0 ≤ W (34 + l) ∧ W (34 + l) ≤ W (28 + l)) := h.2.2.2.2.2.2.2.2.2.2.1
theorem v_G.l0 (h : v_G W) : ∀ l, W 7 ≤ l → l < 6 → W (34 + l) = 0 ∧ W (40 + l) = 0 := h.2.2.2.2.2.2.2.2.2.2.2.1
theorem v_G.rt (h : v_G W) : ∀ k, 0 ≤ k → k < W 8 → (0 ≤ W (46 + k) ∧ W (46 + k) ≤ 999) ∧ (0 ≤ W (76 + k) ∧ W (76 + k) < W 7) := h.2.2.2.2.2.2.2.2.2.2.2.2.1
theorem v_G.rl (h : v_G W) : ∃ e, e ≤ 80 ∧ v_rend (v_T W) 50 0 = some e := h.2.2.2.2.2.2.2.2.2.2.2.2.2.1
theorem v_G.pt (h : v_G W) : ∀ p, 0 ≤ p → p < W 9 → (10 ≤ W (200 + p) ∧ W (200 + p) ≤ 400) ∧ (0 ≤ W (500 + p) ∧ W (500 + p) ≤ 5000) ∧ (-1 ≤ W (1100 + p) ∧ W (1100 + p) ≤ 999) ∧ (W (1400 + p) = 0 ∨ W (1400 + p) = 1) ∧ (W (1700 + p) = 0 ∨ W (1700 + p) = 1) ∧ (W (2600 + p) = 0 ∨ W (2600 + p) = 5 ∨ W (2600 + p) = 6) ∧ (0 ≤ W (800 + p) ∧ W (800 + p) ≤ 15) := h.2.2.2.2.2.2.2.2.2.2.2.2.2.2.1
theorem v_G.od (h : v_G W) : ∀ p q, 0 ≤ p → p < q → q < W 9 → W (800 + p) = 0 → W (800 + q) = 0 → W (500 + q) ≤ W (500 + p) - W (200 + p) := h.2.2.2.2.2.2.2.2.2.2.2.2.2.2.2
theorem v_G.mk (d0 : 0 ≤ W 0) (s1 : 50 ≤ W 1 ∧ W 1 ≤ 1000) (s2 : 0 ≤ W 2 ∧ W 2 ≤ 200) (s3 : 0 ≤ W 3 ∧ W 3 ≤ 500) (s4 : 0 ≤ W 4 ∧ W 4 ≤ 500) (s5 : 1000 ≤ W 5 ∧ W 5 ≤ 5000) (s6 : 0 ≤ W 6 ∧ W 6 ≤ 100) (l7 : 0 ≤ W 7 ∧ W 7 ≤ 6) (r8 : 0 ≤ W 8 ∧ W 8 ≤ 30) (n9 : 0 ≤ W 9 ∧ W 9 ≤ 300) (ln : ∀ l, 0 ≤ l → l < W 7 → (1 ≤ W (16 + l) ∧ W (16 + l) ≤ 4999) ∧ (1 ≤ W (22 + l) ∧ W (22 + l) ≤ 200) ∧ (1 ≤ W (28 + l) ∧ W (28 + l) ≤ 50) ∧ (0 ≤ W (34 + l) ∧ W (34 + l) ≤ W (28 + l))) (l0 : ∀ l, W 7 ≤ l → l < 6 → W (34 + l) = 0 ∧ W (40 + l) = 0) (rt : ∀ k, 0 ≤ k → k < W 8 → (0 ≤ W (46 + k) ∧ W (46 + k) ≤ 999) ∧ (0 ≤ W (76 + k) ∧ W (76 + k) < W 7)) (rl : ∃ e, e ≤ 80 ∧ v_rend (v_T W) 50 0 = some e) (pt : ∀ p, 0 ≤ p → p < W 9 → (10 ≤ W (200 + p) ∧ W (200 + p) ≤ 400) ∧ (0 ≤ W (500 + p) ∧ W (500 + p) ≤ 5000) ∧ (-1 ≤ W (1100 + p) ∧ W (1100 + p) ≤ 999) ∧ (W (1400 + p) = 0 ∨ W (1400 + p) = 1) ∧ (W (1700 + p) = 0 ∨ W (1700 + p) = 1) ∧ (W (2600 + p) = 0 ∨ W (2600 + p) = 5 ∨ W (2600 + p) = 6) ∧ (0 ≤ W (800 + p) ∧ W (800 + p) ≤ 15)) (od : ∀ p q, 0 ≤ p → p < q → q < W 9 → W (800 + p) = 0 → W (800 + q) = 0 → W (500 + q) ≤ W (500 + p) - W (200 + p)) : v_G W := ⟨d0, s1, s2, s3, s4, s5, s6, l7, r8, n9, ln, l0, rt, rl, pt, od⟩
end
/-- only the row w and the place in the text were written -/
def FR (I I' : Nat → Nat → Int) : Prop := ∀ a j, a ≠ 285 → ¬ (a = 284 ∧ j = 8) → I' a j = I a j
theorem FR.rf {I : Nat → Nat → Int} : FR I I := fun _ _ _ _ => rfl
theorem FR.tr {I I1 I2 : Nat → Nat → Int} (h : FR I I1) (h2 : FR I1 I2) : FR I I2 := fun a j h3 h4 => (h2 a j h3 h4).trans (h a j h3 h4)
theorem FR.put {I I' : Nat → Nat → Int} (h : FR I I') {k : Nat} {x : Int} : FR I (am_u2 I' 285 k x) := fun a j h1 h2 => (am_u2_o (by omega)).trans (h a j h1 h2)
theorem FR.J {I I' : Nat → Nat → Int} (h : FR I I') {x : Int} : FR I (v_J I' x) := fun a j h1 h2 => (am_u2_o (by omega)).trans (h a j h1 h2)
theorem FW.FR {I I' : Nat → Nat → Int} (h : FW I I') : FR I I' := fun a j h1 _ => by rw [h a h1]
/-- the last one below n that f holds of -/
def v_prev (f : Int → Bool) : Nat → Int
  | 0 => -1
  | n + 1 => if f n then n else v_prev f n
/-- the first one from q on that f holds of, after at most m steps -/
def v_next (f : Int → Bool) : Nat → Int → Int
  | 0, q => q
  | m + 1, q => if f q then q else v_next f m (q + 1)
theorem v_prev_bd (f : Int → Bool) : ∀ n : Nat, -1 ≤ v_prev f n ∧ v_prev f n < n
  | 0 => by simp [v_prev]
  | n + 1 => by
    have := v_prev_bd f n
    unfold v_prev
    split <;> omega
theorem v_prev_on (f : Int → Bool) : ∀ n : Nat, ¬ v_prev f n = -1 → f (v_prev f n) = true
  | 0, h => (h rfl).elim
  | n + 1, h => by
    unfold v_prev at h ⊢
    split
    · assumption
    · rename_i h1; rw [if_neg h1] at h; exact v_prev_on f n h
theorem v_prev_no (f : Int → Bool) : ∀ n : Nat, ∀ p : Int, v_prev f n < p → p < n → f p = false
  | 0, p, h1, h2 => by simp [v_prev] at h1; omega
  | n + 1, p, h1, h2 => by
    unfold v_prev at h1
    split at h1
    · omega
    · rename_i h3
      by_cases h4 : p = n
      · subst h4; simpa using h3
      · exact v_prev_no f n p h1 (by omega)
theorem v_next_bd (f : Int → Bool) : ∀ (m : Nat) (q : Int), q ≤ v_next f m q ∧ v_next f m q ≤ q + m
  | 0, q => by simp [v_next]
  | m + 1, q => by
    have := v_next_bd f m (q + 1)
    unfold v_next
    split <;> omega
theorem v_next_on (f : Int → Bool) : ∀ (m : Nat) (q : Int), v_next f m q < q + m → f (v_next f m q) = true
  | 0, q, h => by simp [v_next] at h
  | m + 1, q, h => by
    unfold v_next at h ⊢
    split
    · assumption
    · rename_i h1; rw [if_neg h1] at h; exact v_next_on f m (q + 1) (by omega)
theorem v_next_no (f : Int → Bool) : ∀ (m : Nat) (q p : Int), q ≤ p → p < v_next f m q → f p = false
  | 0, q, p, h1, h2 => by simp [v_next] at h2; omega
  | m + 1, q, p, h1, h2 => by
    unfold v_next at h2
    split at h2
    · omega
    · rename_i h3
      by_cases h4 : p = q
      · subst h4; simpa using h3
      · exact v_next_no f m (q + 1) p (by omega) h2
abbrev v_ah (W : Int → Int) (n : Nat) : Int := v_prev (v_on W) n
abbrev v_be (W : Int → Int) (p : Int) : Int := v_next (v_on W) (W 9 - p - 1).toNat (p + 1)
/-- the place of a code's route, or where it would be -/
def v_pl (W : Int → Int) (c : Int) : Nat → Int → Int
  | 0, k => k
  | m + 1, k => if c ≤ W (46 + k) then k else v_pl W c m (k + 1)
theorem v_pl_bd (W : Int → Int) (c : Int) : ∀ (m : Nat) (k : Int), k ≤ v_pl W c m k ∧ v_pl W c m k ≤ k + m
  | 0, q => by simp [v_pl]
  | m + 1, q => by
    have := v_pl_bd W c m (q + 1)
    unfold v_pl
    split <;> omega
abbrev v_place (W : Int → Int) (c : Int) : Int := v_pl W c (W 8).toNat 0
abbrev v_has (W : Int → Int) (c : Int) : Prop := v_place W c < W 8 ∧ W (46 + v_place W c) = c
def v_byR (W : Int → Int) (c s : Int) : Int := if 0 ≤ v_rev (v_T W) 50 0 c s - 48 ∧ v_rev (v_T W) 50 0 c s - 48 < W 7 then v_rev (v_T W) 50 0 c s - 48 else -1
def v_lby (W : Int → Int) (c s : Int) : Int := if v_has W c then W (76 + v_place W c) else v_byR W c s
def v_lo (W : Int → Int) (p : Int) : Int := if W (1100 + p) = -1 ∨ W (1400 + p) = 1 ∨ W (1700 + p) = 1 then -1 else v_lby W (W (1100 + p)) (W (200 + p))
theorem v_place_bd {W : Int → Int} (h8 : 0 ≤ W 8) (c : Int) : 0 ≤ v_place W c ∧ v_place W c ≤ W 8 := by
  have := v_pl_bd W c (W 8).toNat 0
  show 0 ≤ v_pl W c (W 8).toNat 0 ∧ v_pl W c (W 8).toNat 0 ≤ W 8
  omega
theorem v_byR_bd {W : Int → Int} {c s : Int} (h7 : 0 ≤ W 7) : v_byR W c s = -1 ∨ (0 ≤ v_byR W c s ∧ v_byR W c s < W 7) := by unfold v_byR; split <;> omega
theorem v_G.lby {W : Int → Int} (hG : v_G W) {c s : Int} : v_lby W c s = -1 ∨ (0 ≤ v_lby W c s ∧ v_lby W c s < W 7) := by
  unfold v_lby
  split
  · rename_i h
    have := v_pl_bd W c (W 8).toNat 0
    have := (hG.rt (v_place W c) (by simp only [v_place]; omega) h.1).2
    omega
  · exact v_byR_bd hG.l7.1
theorem v_G.lo {W : Int → Int} (hG : v_G W) {p : Int} : v_lo W p = -1 ∨ (0 ≤ v_lo W p ∧ v_lo W p < W 7) := by
  unfold v_lo
  split
  · exact Or.inl rfl
  · exact hG.lby
section
variable {d : Nat} {K N : Nat → Nat} {I : Nat → Nat → Int} {P : Nat → Nat → Option Nat} {z : Nat} {Q : am_V → am_T} {W : Int → Int}
end
