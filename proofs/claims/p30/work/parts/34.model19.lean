/-- the routes from k on move up by one, so far up to j -/
def v_del (W : Int → Int) (k j : Int) : Int → Int := fun i => if i = 8 then W 8 - 1 else if (46 + k ≤ i ∧ i < 46 + j) ∨ (76 + k ≤ i ∧ i < 76 + j) then W (i + 1) else W i
section
variable {d : Nat} {K N : Nat → Nat} {I I1 : Nat → Nat → Int} {P : Nat → Nat → Option Nat} {z : Nat} {Q : am_V → am_T} {W : Int → Int} {S : Int → Int → Int} {c : Int} {T : Int → Int} {n : Int}
end
