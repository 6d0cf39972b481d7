/-! rules in the reference: T is the text, by places -/
theorem am_u2_s {I : Nat → Nat → Int} {a k : Nat} {x : Int} : am_u2 I a k x a k = x := by simp [am_u2]
theorem am_u2_uu {I : Nat → Nat → Int} {a k : Nat} {x y : Int} : am_u2 (am_u2 I a k x) a k y = am_u2 I a k y := by funext b j; unfold am_u2; split <;> simp_all
theorem am_u2_o {I : Nat → Nat → Int} {a b k j : Nat} {x : Int} (h : ¬ (b = a ∧ j = k)) : am_u2 I a k x b j = I b j := if_neg h
/-- the reference's place in the text is scratch -/
abbrev v_J (I : Nat → Nat → Int) (p : Int) : Nat → Nat → Int := am_u2 I 284 8 p
theorem v_JW {I : Nat → Nat → Int} {p : Int} {W : Int → Int} (h : MW I W) : MW (v_J I p) W := fun i h0 h1 => (am_u2_o (by omega)).trans (h i h0 h1)
def v_dig (c : Int) : Bool := decide (48 ≤ c ∧ c ≤ 57)
def v_num (T : Int → Int) : Nat → Int → Int → Int × Int
  | 0, p, a => (a, p)
  | f + 1, p, a => if v_dig (T p) then v_num T f (p + 1) (10 * a + T p - 48) else (a, p)
/-- a number of one to three digits stands at p -/
def v_nok (T : Int → Int) (p : Int) : Bool := v_dig (T p) && !(v_dig (T p) && v_dig (T (p + 1)) && v_dig (T (p + 2)) && v_dig (T (p + 3)))
abbrev v_n (T : Int → Int) (p : Int) : Int × Int := v_num T 4 p 0
def v_cend (T : Int → Int) (p : Int) : Int := if T p = 109 then (v_n T ((v_n T (p + 1)).2 + 1)).2 + 1 else (v_n T (p + 1)).2 + 1
def v_cok (T : Int → Int) (p : Int) : Bool :=
  decide (T p = 99 ∨ T p = 108 ∨ T p = 109) && v_nok T (p + 1) && (if T p = 109 then decide (T (v_n T (p + 1)).2 = 44) && decide (¬ (v_n T (p + 1)).1 = 0) && v_nok T ((v_n T (p + 1)).2 + 1) && decide (T (v_n T ((v_n T (p + 1)).2 + 1)).2 = 59) else decide (T (v_n T (p + 1)).2 = 59))
def v_chold (T : Int → Int) (p c s : Int) : Bool := if T p = 109 then decide (c % (v_n T (p + 1)).1 = (v_n T ((v_n T (p + 1)).2 + 1)).1) else if T p = 99 then decide (c < (v_n T (p + 1)).1) else decide (s < (v_n T (p + 1)).1)
def v_rend (T : Int → Int) : Nat → Int → Option Int
  | 0, _ => none
  | f + 1, p => if T p = 120 ∨ (48 ≤ T p ∧ T p ≤ 53) then some (p + 1) else if T p = 63 ∧ v_cok T (p + 1) = true then (v_rend T f (v_cend T (p + 1))).bind (fun q => v_rend T f q) else none
def v_rev (T : Int → Int) : Nat → Int → Int → Int → Int
  | 0, _, _, _ => 0
  | f + 1, p, c, s => if T p = 63 then (if v_chold T (p + 1) c s then v_rev T f (v_cend T (p + 1)) c s else v_rev T f ((v_rend T f (v_cend T (p + 1))).getD 0) c s) else T p
abbrev v_T (W : Int → Int) : Int → Int := fun i => W (106 + i)
/-- numbers are small; where they end -/
theorem v_num_bd {T : Int → Int} : ∀ (f : Nat) (p a : Int), p ≤ (v_num T f p a).2 ∧ (v_num T f p a).2 ≤ p + f
  | 0, p, a => by simp [v_num]
  | f + 1, p, a => by
    unfold v_num
    split
    · have := v_num_bd (T := T) f (p + 1) (10 * a + T p - 48)
      omega
    · simp only; omega
theorem v_dig_iff {c : Int} : v_dig c = true ↔ 48 ≤ c ∧ c ≤ 57 := by simp [v_dig]
/-- what a number's row of digits is: at most three, then none -/
theorem v_n_cases {T : Int → Int} {p : Int} (h : v_nok T p = true) : (v_n T p).2 ≤ p + 3 ∧ p + 1 ≤ (v_n T p).2 ∧ 0 ≤ (v_n T p).1 ∧ (v_n T p).1 ≤ 999 ∧ v_dig (T (v_n T p).2) = false := by
  unfold v_nok at h
  simp only [v_n, v_num]
  cases h0 : v_dig (T p)
  · simp [h0] at h
  cases h1 : v_dig (T (p + 1))
  · have := v_dig_iff.mp h0
    simp [h1]; omega
  cases h2 : v_dig (T (p + 1 + 1))
  · have := v_dig_iff.mp h0; have := v_dig_iff.mp h1
    simp [h2]; omega
  cases h3 : v_dig (T (p + 1 + 1 + 1))
  · have := v_dig_iff.mp h0; have := v_dig_iff.mp h1; have := v_dig_iff.mp h2
    simp [h3]; omega
  · have e2 : p + 1 + 1 = p + 2 := by omega
    have e3 : p + 1 + 1 + 1 = p + 3 := by omega
    rw [e2] at h2; rw [e3] at h3
    simp [h0, h1, h2, h3] at h
theorem v_num_ge {T : Int → Int} : ∀ (f : Nat) (p a : Int), 0 ≤ a → a ≤ (v_num T f p a).1
  | 0, p, a, _ => Int.le_refl _
  | f + 1, p, a, h => by
    unfold v_num
    split
    · rename_i hc
      have := v_dig_iff.mp hc
      have := v_num_ge (T := T) f (p + 1) (10 * a + T p - 48) (by omega)
      omega
    · exact Int.le_refl _
theorem v_nok_no {T : Int → Int} {p : Int} (h : v_nok T p = true) (h3 : v_dig (T (p + 3)) = true) (h2 : v_dig (T (p + 2)) = true) (h1 : v_dig (T (p + 1)) = true) : False := by
  unfold v_nok at h
  simp [h1, h2, h3] at h
section
variable {d : Nat} {K N : Nat → Nat} {I : Nat → Nat → Int} {P : Nat → Nat → Option Nat} {z : Nat} {Q : am_V → am_T} {W : Int → Int}
theorem v_rem {c a : Int} (hc : 0 ≤ c) (ha : 0 < a) : c - c.tdiv a * a = c % a := by
  rw [Int.tdiv_eq_ediv_of_nonneg hc, Int.emod_def, Int.mul_comm]
theorem v_cok_k {T : Int → Int} {p : Int} (h : v_cok T p = true) : (T p = 99 ∨ T p = 108 ∨ T p = 109) ∧ v_nok T (p + 1) = true ∧ (T p = 109 → T (v_n T (p + 1)).2 = 44 ∧ ¬ (v_n T (p + 1)).1 = 0 ∧ v_nok T ((v_n T (p + 1)).2 + 1) = true ∧ T (v_n T ((v_n T (p + 1)).2 + 1)).2 = 59) ∧ (¬ T p = 109 → T (v_n T (p + 1)).2 = 59) := by
  unfold v_cok at h
  simp only [Bool.and_eq_true, decide_eq_true_eq] at h
  obtain ⟨⟨h1, h2⟩, h3⟩ := h
  refine ⟨h1, h2, fun h4 => ?_, fun h4 => ?_⟩
  · rw [if_pos h4] at h3
    simp only [Bool.and_eq_true, decide_eq_true_eq] at h3
    exact ⟨h3.1.1.1, h3.1.1.2, h3.1.2, h3.2⟩
  · rw [if_neg h4] at h3
    simpa using h3
theorem v_cend_bd {T : Int → Int} {p : Int} (h : v_cok T p = true) : p + 3 ≤ v_cend T p ∧ v_cend T p ≤ p + 9 := by
  obtain ⟨-, h2, h3, -⟩ := v_cok_k h
  obtain ⟨b1, b2, -⟩ := v_n_cases h2
  unfold v_cend
  split
  · rename_i h9
    obtain ⟨-, -, h4, -⟩ := h3 h9
    obtain ⟨c1, c2, -⟩ := v_n_cases h4
    omega
  · omega
/-- a rule's end is behind its beginning -/
theorem v_rend_bd {T : Int → Int} : ∀ (f : Nat) (p e : Int), v_rend T f p = some e → p + 1 ≤ e
  | 0, p, e, h => by simp [v_rend] at h
  | f + 1, p, e, h => by
    unfold v_rend at h
    split at h
    · cases h; omega
    · split at h
      · rename_i _ hq
        have hb := v_cend_bd hq.2
        cases hr : v_rend T f (v_cend T (p + 1)) with
        | none => simp [hr] at h
        | some q =>
          simp only [hr, Option.bind_some] at h
          have := v_rend_bd f _ _ hr
          have := v_rend_bd f _ _ h
          omega
      · cases h
end
