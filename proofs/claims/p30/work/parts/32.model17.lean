abbrev v_fts (W : Int → Int) (a b : Int) : Int := v_cnt (fun p => decide (a ≤ W (800 + p) ∧ W (800 + p) ≤ b)) (W 9).toNat
section
variable {d : Nat} {K N : Nat → Nat} {I I1 : Nat → Nat → Int} {P : Nat → Nat → Option Nat} {z : Nat} {Q : am_V → am_T} {W : Int → Int} {S : Int → Int → Int} {c : Int} {T : Int → Int} {n : Int}
end
