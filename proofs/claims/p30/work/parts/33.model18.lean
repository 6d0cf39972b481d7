abbrev v_own (W : Int → Int) : Int := if ¬ v_cs W (W 9).toNat = -1 ∧ (W (1100 + v_cs W (W 9).toNat) = -1 ∨ v_as W (W 9).toNat = -1) then v_cs W (W 9).toNat else v_as W (W 9).toNat
section
variable {d : Nat} {K N : Nat → Nat} {I I1 : Nat → Nat → Int} {P : Nat → Nat → Option Nat} {z : Nat} {Q : am_V → am_T} {W : Int → Int} {S : Int → Int → Int} {c : Int} {T : Int → Int} {n : Int}
end
