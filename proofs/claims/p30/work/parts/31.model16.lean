section
variable {d : Nat} {K N : Nat → Nat} {I I1 : Nat → Nat → Int} {P : Nat → Nat → Option Nat} {z : Nat} {Q : am_V → am_T} {W : Int → Int} {S : Int → Int → Int} {c : Int} {T : Int → Int} {n : Int}
theorem v_it_off {W : Int → Int} (hG : v_G W) (hF : v_F W) (k : Nat) {p : Int} (p0 : 0 ≤ p) (p1 : p < W 9) : v_on (v_it k W) p = true → v_on W p = true := fun h => decide_eq_true (v_it_on hG hF p0 p1 k (of_decide_eq_true h)).1
end
