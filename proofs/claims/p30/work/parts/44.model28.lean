def v_sh (W : Int → Int) : UInt64 := if W 9 - v_ob W = 0 then FP.dconst1 else FP.ddiv (FP.i2d (Int32.ofInt (v_fts W 10 15))) (FP.i2d (Int32.ofInt (W 9 - v_ob W)))
/-- W with a new rule -/
def v_ld (W T : Int → Int) (n : Int) : Int → Int := fun i => if i = 11 then n else if 106 ≤ i ∧ i < 106 + n then T (i - 106) else W i
section
variable {d : Nat} {K N : Nat → Nat} {I I1 : Nat → Nat → Int} {P : Nat → Nat → Option Nat} {z : Nat} {Q : am_V → am_T} {W : Int → Int} {S : Int → Int → Int} {c : Int} {T : Int → Int} {n : Int}
end
