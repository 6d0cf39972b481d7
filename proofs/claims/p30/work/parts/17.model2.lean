theorem and_dr {a b : Prop} (h : a) : (a ∧ b) = b := by simp [h]
theorem imp_dr {a b : Prop} (h : a) : (a → b) = b := by simp [h]
theorem imp_df {a b : Prop} (h : ¬ a) : (a → b) = True := by simp [h]
theorem MW.all {I : Nat → Nat → Int} {W : Int → Int} (h : MW I W) : ∀ i : Int, 0 ≤ i → i < 3200 → I 285 i.toNat = W i := h
theorem MW.lits {I : Nat → Nat → Int} {W : Int → Int} (h : MW I W) : I 285 0 = W 0 ∧ I 285 1 = W 1 ∧ I 285 2 = W 2 ∧ I 285 3 = W 3 ∧ I 285 4 = W 4 ∧ I 285 5 = W 5 ∧ I 285 6 = W 6 ∧ I 285 7 = W 7 ∧ I 285 8 = W 8 ∧ I 285 9 = W 9 ∧ I 285 10 = W 10 ∧ I 285 11 = W 11 :=
  ⟨h.lit 0 (by decide), h.lit 1 (by decide), h.lit 2 (by decide), h.lit 3 (by decide), h.lit 4 (by decide), h.lit 5 (by decide), h.lit 6 (by decide), h.lit 7 (by decide), h.lit 8 (by decide), h.lit 9 (by decide), h.lit 10 (by decide), h.lit 11 (by decide)⟩
/-- W with one place changed -/
def v_u (W : Int → Int) (i x : Int) : Int → Int := fun j => if j = i then x else W j
theorem v_us {W : Int → Int} {i x : Int} : v_u W i x i = x := if_pos rfl
theorem v_un {W : Int → Int} {i x j : Int} (h : j ≠ i) : v_u W i x j = W j := if_neg h
theorem MW.put {I : Nat → Nat → Int} {W : Int → Int} (h : MW I W) {i x : Int} (h0 : 0 ≤ i) : MW (am_u2 I 285 i.toNat x) (v_u W i x) := by
  intro j h1 h2
  unfold am_u2 v_u
  by_cases e : j = i
  · subst e; simp
  · rw [if_neg (by intro q; omega), if_neg e]; exact h j h1 h2
theorem MW.putn {I : Nat → Nat → Int} {W : Int → Int} (h : MW I W) {i : Nat} {x : Int} : MW (am_u2 I 285 i x) (v_u W (i : Int) x) := h.put (i := (i : Int)) (by omega)
/-- only the row w was written -/
def FW (I I' : Nat → Nat → Int) : Prop := ∀ a, a ≠ 285 → I' a = I a
theorem FW.rf {I : Nat → Nat → Int} : FW I I := fun _ _ => rfl
theorem FW.put {I I' : Nat → Nat → Int} (h : FW I I') {k : Nat} {x : Int} : FW I (am_u2 I' 285 k x) := fun a ha => by rw [am_u2_ne ha, h a ha]
theorem am_u2_o285 {I : Nat → Nat → Int} {a k j : Nat} {x : Int} (h : j ≠ k) : am_u2 I a k x a j = I a j := by simp [am_u2, h]
section
variable {d : Nat} {K N : Nat → Nat} {I : Nat → Nat → Int} {P : Nat → Nat → Option Nat} {z : Nat} {Q : am_V → am_T} {W : Int → Int}
def v_reason (W : Int → Int) (p : Int) : Int := if W (1100 + p) = -1 then 1 else if W (1400 + p) = 1 then 2 else if W (1700 + p) = 1 then 3 else if W (2600 + p) ≤ 0 then 4 else W (2600 + p)
/-- what a read does to the part to which it belongs -/
def v_readFor (W : Int → Int) (p c : Int) : Int → Int :=
  if W (1100 + p) = -1 then v_u (v_u W (1100 + p) c) (2900 + p) (W 0)
  else if W (1100 + p) = c then
    if W 3 < am_wr (W 0 - W (2900 + p)) then v_u (v_u W (2000 + p) (am_wr (W (2000 + p) + 1))) (2900 + p) (W 0)
    else v_u W (2300 + p) (am_wr (W (2300 + p) + 1))
  else v_u (v_u W (1400 + p) 1) (2900 + p) (W 0)
end
