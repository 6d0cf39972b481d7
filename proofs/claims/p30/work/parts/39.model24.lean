/-- ranked before -/
def v_rb (W : Int → Int) (p q : Int) : Bool := if v_lo W p = -1 ∨ v_lo W q = -1 then decide (¬ v_lo W p = -1 ∨ (v_lo W q = -1 ∧ p < q)) else decide (W (16 + v_lo W p) - v_md W p < W (16 + v_lo W q) - v_md W q ∨ (W (16 + v_lo W p) - v_md W p = W (16 + v_lo W q) - v_md W q ∧ p < q))
abbrev v_rkf (W : Int → Int) (p : Int) : Int → Bool := fun q => decide (W (800 + q) = 0 ∧ ¬ q = p ∧ v_rb W q p = true)
def v_rkd (W : Int → Int) (r : Int) : Nat → Int → Int
  | 0, _ => -1
  | m + 1, p => if W (800 + p) = 0 ∧ v_cnt (v_rkf W p) (W 9).toNat = r then p else v_rkd W r m (p + 1)
section
variable {d : Nat} {K N : Nat → Nat} {I I1 : Nat → Nat → Int} {P : Nat → Nat → Option Nat} {z : Nat} {Q : am_V → am_T} {W : Int → Int} {S : Int → Int → Int} {c : Int} {T : Int → Int} {n : Int}
end
