/-! THE REFERENCE, method by method. W: its row w as a function of whole numbers. -/
theorem am_wE {x : Int} (h1 : -2147483648 ≤ x) (h2 : x ≤ 2147483647) : am_wr x = x := am_wr_eq ⟨h1, h2⟩
/-- where the reference's rows lie -/
def MS (K N : Nat → Nat) (P : Nat → Nat → Option Nat) : Prop := K 284 = 8 ∧ P 284 0 = some 285 ∧ P 284 1 = some 286 ∧ P 284 2 = some 287 ∧ P 284 3 = some 288 ∧ P 284 4 = some 289 ∧ K 285 = 10 ∧ N 285 = 3200 ∧ K 286 = 10 ∧ N 286 = 19200 ∧ K 287 = 10 ∧ N 287 = 3200 ∧ K 288 = 10 ∧ N 288 = 80 ∧ K 289 = 10 ∧ N 289 = 8
def MW (I : Nat → Nat → Int) (W : Int → Int) : Prop := ∀ i : Int, 0 ≤ i → i < 3200 → I 285 i.toNat = W i
theorem MW.lit {I : Nat → Nat → Int} {W : Int → Int} (h : MW I W) (n : Nat) (hn : n < 3200) : I 285 n = W (n : Int) := h (n : Int) (by omega) (by omega)
theorem ite_z {c : Prop} [Decidable c] : ((if c then (1 : Int) else 0) = 0) ↔ ¬ c := by split <;> simp_all
theorem ite_zz {c : Prop} [Decidable c] : (if c then (1 : Int) else 0) = 0 ∨ (if c then (1 : Int) else 0) = 1 := by split <;> simp
section
variable {d : Nat} {K N : Nat → Nat} {I : Nat → Nat → Int} {P : Nat → Nat → Option Nat} {z : Nat} {Q : am_V → am_T} {W : Int → Int}
/-- how many parts below n are on the belt -/
def v_cnt (f : Int → Bool) : Nat → Int
  | 0 => 0
  | n + 1 => v_cnt f n + if f n then 1 else 0
theorem v_cnt_bd (f : Int → Bool) : ∀ n : Nat, 0 ≤ v_cnt f n ∧ v_cnt f n ≤ n
  | 0 => by simp [v_cnt]
  | n + 1 => by
    have := v_cnt_bd f n
    unfold v_cnt
    split <;> omega
abbrev v_on (W : Int → Int) : Int → Bool := fun p => decide (W (800 + p) = 0)
end
