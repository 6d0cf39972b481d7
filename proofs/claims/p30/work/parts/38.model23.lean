section
variable {d : Nat} {K N : Nat → Nat} {I I1 : Nat → Nat → Int} {P : Nat → Nat → Option Nat} {z : Nat} {Q : am_V → am_T} {W : Int → Int} {S : Int → Int → Int} {c : Int} {T : Int → Int} {n : Int}
/-- what part answers of a property -/
def v_pp (W : Int → Int) (x y : Int) : Int := if y = 0 then W (200 + x) else if y = 1 then W (800 + x) else if y = 2 then W (500 + x) else if y = 3 then W (1100 + x) else if y = 4 then W (1400 + x) else if y = 5 then W (1700 + x) else if y = 6 then W (2000 + x) else if y = 7 then W (2300 + x) else if y = 8 then (if W (800 + x) = 0 then v_lo W x else -1) else W (2600 + x)
def v_tot (W : Int → Int) (c n y : Int) : Int := if y = 0 then W 0 else if y = 1 then W 9 else if y = 2 then v_ob W else if y = 3 then v_fts W 10 15 else if y = 4 then v_fts W 1 6 else if y = 5 then v_fts W 9 9 else if y = 6 then W 7 else if y = 7 then W 8 else if y = 8 then W 10 else if y = 9 then v_sum (fun p => W (2300 + p)) (W 9).toNat else if y = 10 then v_sum (fun p => W (2000 + p)) (W 9).toNat else if y = 11 then v_sum (fun p => W (1400 + p)) (W 9).toNat else if y = 12 then v_sum (fun p => W (1700 + p)) (W 9).toNat else if y = 13 then c else n
end
