/-- a row's sum, as the machine adds -/
def v_sum (f : Int → Int) : Nat → Int
  | 0 => 0
  | n + 1 => am_wr (v_sum f n + f n)
abbrev v_rts (W : Int → Int) (l : Int) : Int := v_cnt (fun k => decide (W (76 + k) = l)) (W 8).toNat
section
variable {d : Nat} {K N : Nat → Nat} {I I1 : Nat → Nat → Int} {P : Nat → Nat → Option Nat} {z : Nat} {Q : am_V → am_T} {W : Int → Int} {S : Int → Int → Int} {c : Int} {T : Int → Int} {n : Int}
end
