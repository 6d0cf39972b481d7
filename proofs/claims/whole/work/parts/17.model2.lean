theorem and_dr {a b : Prop} (h : a) : (a ∧ b) = b := by simp [h]
theorem imp_dr {a b : Prop} (h : a) : (a → b) = b := by simp [h]
theorem imp_df {a b : Prop} (h : ¬ a) : (a → b) = True := by simp [h]
theorem MW.all {I : Nat → Nat → Int} {W : Int → Int} (h : MW I W) : ∀ i : Int, 0 ≤ i → i < 3200 → I 285 i.toNat = W i := h
theorem MW.lits {I : Nat → Nat → Int} {W : Int → Int} (h : MW I W) : I 285 0 = W 0 ∧ I 285 1 = W 1 ∧ I 285 2 = W 2 ∧ I 285 3 = W 3 ∧ I 285 4 = W 4 ∧ I 285 5 = W 5 ∧ I 285 6 = W 6 ∧ I 285 7 = W 7 ∧ I 285 8 = W 8 ∧ I 285 9 = W 9 ∧ I 285 10 = W 10 ∧ I 285 11 = W 11 :=
  ⟨h.lit 0 (by decide), h.lit 1 (by decide), h.lit 2 (by decide), h.lit 3 (by decide), h.lit 4 (by decide), h.lit 5 (by decide), h.lit 6 (by decide), h.lit 7 (by decide), h.lit 8 (by decide), h.lit 9 (by decide), h.lit 10 (by decide), h.lit 11 (by decide)⟩
/-- W with one place changed -/
def v_u (W : Int → Int) (i x : Int) : Int → Int := fun j => if j = i then x else W j
theorem v_us {W : Int → Int} {i x : Int} : v_u W i x i = x := if_pos rfl
theorem v_un {W : Int → Int} {i x j : Int} (h : j ≠ i) : v_u W i x j = W j := if_neg h
theorem MW.put {I : Nat → Nat → Int} {W : Int → Int} (h : MW I W) {i x : Int} (h0 : 0 ≤ i) : MW (am_u2 I 285 i.toNat x) (v_u W i x) := by
  intro j h1 h2
  unfold am_u2 v_u
  by_cases e : j = i
  · subst e; simp
  · rw [if_neg (by intro q; omega), if_neg e]; exact h j h1 h2
theorem MW.putn {I : Nat → Nat → Int} {W : Int → Int} (h : MW I W) {i : Nat} {x : Int} : MW (am_u2 I 285 i x) (v_u W (i : Int) x) := h.put (i := (i : Int)) (by omega)
/-- only the row w was written -/
def FW (I I' : Nat → Nat → Int) : Prop := ∀ a, a ≠ 285 → I' a = I a
theorem FW.rf {I : Nat → Nat → Int} : FW I I := fun _ _ => rfl
theorem FW.put {I I' : Nat → Nat → Int} (h : FW I I') {k : Nat} {x : Int} : FW I (am_u2 I' 285 k x) := fun a ha => by rw [am_u2_ne ha, h a ha]
theorem am_u2_o285 {I : Nat → Nat → Int} {a k j : Nat} {x : Int} (h : j ≠ k) : am_u2 I a k x a j = I a j := by simp [am_u2, h]
section
variable {d : Nat} {K N : Nat → Nat} {I : Nat → Nat → Int} {P : Nat → Nat → Option Nat} {z : Nat} {Q : am_V → am_T} {W : Int → Int}
def v_reason (W : Int → Int) (p : Int) : Int := if W (1100 + p) = -1 then 1 else if W (1400 + p) = 1 then 2 else if W (1700 + p) = 1 then 3 else if W (2600 + p) ≤ 0 then 4 else W (2600 + p)
theorem sp_reasonOf (hm : MS K N P) (hW : MW I W) {p : Int} (h0 : 0 ≤ p) (h1 : p < 300) (h : Q (am_i (v_reason W p)) K N I P z) : am_C d m_X8_reasonOf [am_r 284, am_i p] K N I P z Q am_nx := by
  refine wf_X8_reasonOf ?_
  obtain ⟨k0, p0, p1, p2, p3, p4, k1, n1, k2, n2, k3, n3, k4, n4, k5, n5⟩ := id hm
  obtain ⟨w0, w1, w2, w3, w4, w5, w6, w7, w8, w9, w10, w11⟩ := hW.lits; have hw := hW.all
  unfold v_reason at h
  simp (disch := omega) only [k0, p0, p1, p2, p3, p4, k1, n1, k2, n2, k3, n3, k4, n4, k5, n5, true_and, and_true, Option.some.injEq, exists_eq_left', am_wE, and_dr, imp_dr, imp_df, true_imp_iff, false_imp_iff, not_true_eq_false, not_false_eq_true, hw, w0, w1, w2, w3, w4, w5, w6, w7, w8, w9, w10, w11 ]
  refine ⟨fun c1 => ⟨fun c2 => ⟨fun c3 => ⟨fun c4 => ?_, fun c4 => ?_⟩, fun c3 => ?_⟩, fun c2 => ?_⟩, fun c1 => ?_⟩ <;> simp only [c1, if_true, if_false] at h <;> (try simp only [c2, if_true, if_false] at h) <;> (try simp only [c3, if_true, if_false] at h) <;> (try simp only [c4, if_true, if_false] at h) <;> exact h
/-- what a read does to the part to which it belongs -/
def v_readFor (W : Int → Int) (p c : Int) : Int → Int :=
  if W (1100 + p) = -1 then v_u (v_u W (1100 + p) c) (2900 + p) (W 0)
  else if W (1100 + p) = c then
    if W 3 < am_wr (W 0 - W (2900 + p)) then v_u (v_u W (2000 + p) (am_wr (W (2000 + p) + 1))) (2900 + p) (W 0)
    else v_u W (2300 + p) (am_wr (W (2300 + p) + 1))
  else v_u (v_u W (1400 + p) 1) (2900 + p) (W 0)
theorem sp_readFor (hm : MS K N P) (hW : MW I W) {p c : Int} (h0 : 0 ≤ p) (h1 : p < 300) (h : ∀ I', FW I I' → MW I' (v_readFor W p c) → Q am_nl K N I' P z) : am_C d m_X8_readFor [am_r 284, am_i p, am_i c] K N I P z Q am_nx := by
  refine wf_X8_readFor ?_
  obtain ⟨k0, p0, p1, p2, p3, p4, k1, n1, k2, n2, k3, n3, k4, n4, k5, n5⟩ := id hm
  obtain ⟨w0, w1, w2, w3, w4, w5, w6, w7, w8, w9, w10, w11⟩ := hW.lits; have hw := hW.all
  unfold v_readFor at h
  simp (disch := omega) only [k0, p0, p1, p2, p3, p4, k1, n1, k2, n2, k3, n3, k4, n4, k5, n5, true_and, and_true, Option.some.injEq, exists_eq_left', am_wE, and_dr, imp_dr, imp_df, true_imp_iff, false_imp_iff, not_true_eq_false, not_false_eq_true, hw, w0, w1, w2, w3, w4, w5, w6, w7, w8, w9, w10, w11 ]
  refine ⟨fun c1 => ⟨fun c2 => ⟨fun c3 => ?_, fun c3 => ?_⟩, fun c2 => ?_⟩, fun c1 => ?_⟩
  · rintro I4 rfl I5 rfl
    rw [if_neg c1, if_pos c2, if_pos c3] at h
    refine h _ (FW.rf.put.put) ?_
    have := (hW.put (i := 2000 + p) (x := am_wr (W (2000 + p) + 1)) (by omega)).put (i := 2900 + p) (x := W 0) (by omega)
    rw [am_u2_o285 (by omega), w0]
    exact this
  · rintro I4 rfl
    rw [if_neg c1, if_pos c2, if_neg c3] at h
    exact h _ (FW.rf.put) (hW.put (by omega))
  · rintro I4 rfl I5 rfl
    rw [if_neg c1, if_neg c2] at h
    refine h _ (FW.rf.put.put) ?_
    rw [am_u2_o285 (by omega), w0]
    exact (hW.put (by omega)).put (by omega)
  · rintro I4 rfl I5 rfl
    rw [if_pos c1] at h
    refine h _ (FW.rf.put.put) ?_
    rw [am_u2_o285 (by omega), w0]
    exact (hW.put (by omega)).put (by omega)
end
