/-- W with a new part -/
def v_new (W : Int → Int) (x : Int) : Int → Int := fun i => if i = 9 then W 9 + 1 else if i = 200 + W 9 then x else if i = 1100 + W 9 then -1 else if i = 500 + W 9 ∨ i = 800 + W 9 ∨ i = 1400 + W 9 ∨ i = 1700 + W 9 ∨ i = 2000 + W 9 ∨ i = 2300 + W 9 ∨ i = 2600 + W 9 ∨ i = 2900 + W 9 then 0 else W i
abbrev v_la (W : Int → Int) : Int := v_prev (v_on W) (W 9).toNat
def v_ent (W : Int → Int) (x : Int) : Int → Int := if ¬ v_la W = -1 ∧ v_tl W (v_la W) < W 6 then v_u (v_u (v_new W x) (1700 + W 9) 1) (1700 + v_la W) 1 else v_new W x
theorem MA.new {I : Nat → Nat → Int} {W : Int → Int} {S : Int → Int → Int} {c : Int} {T : Int → Int} {n x : Int} (h0 : 0 ≤ W 9) (h1 : W 9 ≤ 299) (h : MA I (v_u (v_u (v_u (v_u (v_u (v_u (v_u (v_u (v_u (v_u (v_u W 9 (W 9 + 1)) (200 + W 9) x) (500 + W 9) 0) (800 + W 9) 0) (1100 + W 9) (-1)) (1400 + W 9) 0) (1700 + W 9) 0) (2000 + W 9) 0) (2300 + W 9) 0) (2600 + W 9) 0) (2900 + W 9) 0) S c T n) : MA I (v_new W x) S c T n := by
  refine h.cg (fun i a b => ?_)
  unfold v_u v_new
  by_cases c9 : i = 9
  · simp (disch := omega) only [c9, if_pos, if_neg]
  by_cases c2 : i = 200 + W 9
  · simp (disch := omega) only [c2, if_pos, if_neg]
  by_cases c3 : i = 1100 + W 9
  · simp (disch := omega) only [c3, if_pos, if_neg]
  by_cases c4 : i = 500 + W 9 ∨ i = 800 + W 9 ∨ i = 1400 + W 9 ∨ i = 1700 + W 9 ∨ i = 2000 + W 9 ∨ i = 2300 + W 9 ∨ i = 2600 + W 9 ∨ i = 2900 + W 9
  · rcases c4 with e | e | e | e | e | e | e | e <;> simp (disch := omega) only [e, if_pos, if_neg, if_true, true_or, or_true]
  · simp (disch := omega) only [if_neg]
theorem v_entc {N : Nat → Nat} {I : Nat → Nat → Int} {W : Int → Int} {R : (Nat → Nat → Int) → Prop} {x : Int} (n1 : N 285 = 3200) (w9 : I 285 9 = W 9) (h0 : 0 ≤ W 9) (h1 : W 9 ≤ 299) (h : R (am_u2 (am_u2 (am_u2 (am_u2 (am_u2 (am_u2 (am_u2 (am_u2 (am_u2 (am_u2 (am_u2 I 285 (Int.toNat 9) (W 9 + 1)) 285 (200 + W 9).toNat x) 285 (500 + W 9).toNat 0) 285 (800 + W 9).toNat 0) 285 (1100 + W 9).toNat (-1)) 285 (1400 + W 9).toNat 0) 285 (1700 + W 9).toNat 0) 285 (2000 + W 9).toNat 0) 285 (2300 + W 9).toNat 0) 285 (2600 + W 9).toNat 0) 285 (2900 + W 9).toNat 0)) : ((9 : Int) < N 285) ∧ ((9 : Int) < N 285) ∧ ((9 : Int) < N 285) ∧ ∀ I3, I3 = am_u2 I 285 (Int.toNat 9) (am_wr (I 285 9 + 1)) → (0 ≤ am_wr (200 + I 285 9) ∧ am_wr (200 + I 285 9) < N 285) ∧ ∀ I4, I4 = am_u2 I3 285 (Int.toNat (am_wr (200 + I 285 9))) x → (0 ≤ am_wr (500 + I 285 9) ∧ am_wr (500 + I 285 9) < N 285) ∧ ∀ I5, I5 = am_u2 I4 285 (Int.toNat (am_wr (500 + I 285 9))) 0 → (0 ≤ am_wr (800 + I 285 9) ∧ am_wr (800 + I 285 9) < N 285) ∧ ∀ I6, I6 = am_u2 I5 285 (Int.toNat (am_wr (800 + I 285 9))) 0 → (0 ≤ am_wr (1100 + I 285 9) ∧ am_wr (1100 + I 285 9) < N 285) ∧ ∀ I7, I7 = am_u2 I6 285 (Int.toNat (am_wr (1100 + I 285 9))) (-1) → (0 ≤ am_wr (1400 + I 285 9) ∧ am_wr (1400 + I 285 9) < N 285) ∧ ∀ I8, I8 = am_u2 I7 285 (Int.toNat (am_wr (1400 + I 285 9))) 0 → (0 ≤ am_wr (1700 + I 285 9) ∧ am_wr (1700 + I 285 9) < N 285) ∧ ∀ I9, I9 = am_u2 I8 285 (Int.toNat (am_wr (1700 + I 285 9))) 0 → (0 ≤ am_wr (2000 + I 285 9) ∧ am_wr (2000 + I 285 9) < N 285) ∧ ∀ I10, I10 = am_u2 I9 285 (Int.toNat (am_wr (2000 + I 285 9))) 0 → (0 ≤ am_wr (2300 + I 285 9) ∧ am_wr (2300 + I 285 9) < N 285) ∧ ∀ I11, I11 = am_u2 I10 285 (Int.toNat (am_wr (2300 + I 285 9))) 0 → (0 ≤ am_wr (2600 + I 285 9) ∧ am_wr (2600 + I 285 9) < N 285) ∧ ∀ I12, I12 = am_u2 I11 285 (Int.toNat (am_wr (2600 + I 285 9))) 0 → (0 ≤ am_wr (2900 + I 285 9) ∧ am_wr (2900 + I 285 9) < N 285) ∧ ∀ I13, I13 = am_u2 I12 285 (Int.toNat (am_wr (2900 + I 285 9))) 0 → R I13 := by
  simp (disch := omega) only [n1, w9, am_wE, and_dr, forall_eq, true_and, and_true]
  exact h
section
variable {d : Nat} {K N : Nat → Nat} {I I1 : Nat → Nat → Int} {P : Nat → Nat → Option Nat} {z : Nat} {Q : am_V → am_T} {W : Int → Int} {S : Int → Int → Int} {c : Int} {T : Int → Int} {n : Int}
/-- the routes behind j are moved down -/
def v_ins (W : Int → Int) (j : Int) : Int → Int := fun i => if (46 + j < i ∧ i ≤ 46 + W 8) ∨ (76 + j < i ∧ i ≤ 76 + W 8) then W (i - 1) else W i
def v_rt (W : Int → Int) (k x l : Int) : Int → Int := v_u (v_u (v_u (v_ins W k) 8 (W 8 + 1)) (46 + k) x) (76 + k) l
end
