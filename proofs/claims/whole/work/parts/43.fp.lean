/-! the quotient of two small whole numbers is a number -/
def v_fq (a b : Nat) : Bool := decide ((FP.ddiv (FP.i2d (Int32.ofInt a)) (FP.i2d (Int32.ofInt b))) &&& 0x7fffffffffffffff ≤ 0x7ff0000000000000)
set_option maxRecDepth 100000 in
theorem v_fqa : (List.range 301).all (fun a => (List.range 300).all fun b => v_fq a (b + 1)) = true := by decide +kernel
theorem v_ddn {a b : Int} (a0 : 0 ≤ a) (a1 : a ≤ 300) (b0 : 1 ≤ b) (b1 : b ≤ 300) : vf_n64 (FP.ddiv (FP.i2d (Int32.ofInt a)) (FP.i2d (Int32.ofInt b))) := by
  have h := List.all_eq_true.mp v_fqa a.toNat (List.mem_range.mpr (by omega))
  have h2 := List.all_eq_true.mp h (b - 1).toNat (List.mem_range.mpr (by omega))
  have h3 := of_decide_eq_true h2
  rw [show ((a.toNat : Nat) : Int) = a by omega, show (((b - 1).toNat + 1 : Nat) : Int) = b by omega] at h3
  exact h3
