/-! the quotient of two small whole numbers is a number -/
def v_fq (a b : Nat) : Bool := decide ((FP.ddiv (FP.i2d (Int32.ofInt a)) (FP.i2d (Int32.ofInt b))) &&& 0x7fffffffffffffff ≤ 0x7ff0000000000000)
def v_fr (lo : Nat) : Bool := (List.range 16).all fun a => (List.range 300).all fun b => v_fq (lo + a) (b + 1)
set_option maxRecDepth 100000 in
theorem v_fr0 : v_fr 0 = true := by decide +kernel
set_option maxRecDepth 100000 in
theorem v_fr1 : v_fr 16 = true := by decide +kernel
set_option maxRecDepth 100000 in
theorem v_fr2 : v_fr 32 = true := by decide +kernel
set_option maxRecDepth 100000 in
theorem v_fr3 : v_fr 48 = true := by decide +kernel
set_option maxRecDepth 100000 in
theorem v_fr4 : v_fr 64 = true := by decide +kernel
set_option maxRecDepth 100000 in
theorem v_fr5 : v_fr 80 = true := by decide +kernel
set_option maxRecDepth 100000 in
theorem v_fr6 : v_fr 96 = true := by decide +kernel
set_option maxRecDepth 100000 in
theorem v_fr7 : v_fr 112 = true := by decide +kernel
set_option maxRecDepth 100000 in
theorem v_fr8 : v_fr 128 = true := by decide +kernel
set_option maxRecDepth 100000 in
theorem v_fr9 : v_fr 144 = true := by decide +kernel
set_option maxRecDepth 100000 in
theorem v_fr10 : v_fr 160 = true := by decide +kernel
set_option maxRecDepth 100000 in
theorem v_fr11 : v_fr 176 = true := by decide +kernel
set_option maxRecDepth 100000 in
theorem v_fr12 : v_fr 192 = true := by decide +kernel
set_option maxRecDepth 100000 in
theorem v_fr13 : v_fr 208 = true := by decide +kernel
set_option maxRecDepth 100000 in
theorem v_fr14 : v_fr 224 = true := by decide +kernel
set_option maxRecDepth 100000 in
theorem v_fr15 : v_fr 240 = true := by decide +kernel
set_option maxRecDepth 100000 in
theorem v_fr16 : v_fr 256 = true := by decide +kernel
set_option maxRecDepth 100000 in
theorem v_fr17 : v_fr 272 = true := by decide +kernel
set_option maxRecDepth 100000 in
theorem v_fr18 : v_fr 288 = true := by decide +kernel
theorem v_frq {lo a b : Nat} (h : v_fr lo = true) (h0 : lo ≤ a) (h1 : a < lo + 16) (h2 : b < 300) : v_fq a (b + 1) = true := by
  have h := List.all_eq_true.mp h (a - lo) (List.mem_range.mpr (by omega))
  have h3 := List.all_eq_true.mp h b (List.mem_range.mpr h2)
  rw [show lo + (a - lo) = a by omega] at h3
  exact h3
theorem v_fqa {a b : Nat} (h : a ≤ 300) (h2 : b < 300) : v_fq a (b + 1) = true := by
  rcases (show (0 ≤ a ∧ a < 16) ∨ (16 ≤ a ∧ a < 32) ∨ (32 ≤ a ∧ a < 48) ∨ (48 ≤ a ∧ a < 64) ∨ (64 ≤ a ∧ a < 80) ∨ (80 ≤ a ∧ a < 96) ∨ (96 ≤ a ∧ a < 112) ∨ (112 ≤ a ∧ a < 128) ∨ (128 ≤ a ∧ a < 144) ∨ (144 ≤ a ∧ a < 160) ∨ (160 ≤ a ∧ a < 176) ∨ (176 ≤ a ∧ a < 192) ∨ (192 ≤ a ∧ a < 208) ∨ (208 ≤ a ∧ a < 224) ∨ (224 ≤ a ∧ a < 240) ∨ (240 ≤ a ∧ a < 256) ∨ (256 ≤ a ∧ a < 272) ∨ (272 ≤ a ∧ a < 288) ∨ (288 ≤ a ∧ a < 304) by omega) with q | q | q | q | q | q | q | q | q | q | q | q | q | q | q | q | q | q | q
  · exact v_frq v_fr0 q.1 q.2 h2
  · exact v_frq v_fr1 q.1 q.2 h2
  · exact v_frq v_fr2 q.1 q.2 h2
  · exact v_frq v_fr3 q.1 q.2 h2
  · exact v_frq v_fr4 q.1 q.2 h2
  · exact v_frq v_fr5 q.1 q.2 h2
  · exact v_frq v_fr6 q.1 q.2 h2
  · exact v_frq v_fr7 q.1 q.2 h2
  · exact v_frq v_fr8 q.1 q.2 h2
  · exact v_frq v_fr9 q.1 q.2 h2
  · exact v_frq v_fr10 q.1 q.2 h2
  · exact v_frq v_fr11 q.1 q.2 h2
  · exact v_frq v_fr12 q.1 q.2 h2
  · exact v_frq v_fr13 q.1 q.2 h2
  · exact v_frq v_fr14 q.1 q.2 h2
  · exact v_frq v_fr15 q.1 q.2 h2
  · exact v_frq v_fr16 q.1 q.2 h2
  · exact v_frq v_fr17 q.1 q.2 h2
  · exact v_frq v_fr18 q.1 q.2 h2
theorem v_ddn {a b : Int} (a0 : 0 ≤ a) (a1 : a ≤ 300) (b0 : 1 ≤ b) (b1 : b ≤ 300) : vf_n64 (FP.ddiv (FP.i2d (Int32.ofInt a)) (FP.i2d (Int32.ofInt b))) := by
  have h2 := v_fqa (a := a.toNat) (b := (b - 1).toNat) (by omega) (by omega)
  have h3 := of_decide_eq_true h2
  rw [show ((a.toNat : Nat) : Int) = a by omega, show (((b - 1).toNat + 1 : Nat) : Int) = b by omega] at h3
  exact h3
