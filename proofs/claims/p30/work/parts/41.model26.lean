section
variable {d : Nat} {K N : Nat → Nat} {I I1 : Nat → Nat → Int} {P : Nat → Nat → Option Nat} {z : Nat} {Q : am_V → am_T} {W : Int → Int} {S : Int → Int → Int} {c : Int} {T : Int → Int} {n : Int}
theorem PM.fe4 {I : Nat → Nat → Int} {a o m : Int} {H : Int → Int} (h : PM I a o m H) {k : Nat} {x : Int} (hk : ¬ k = 9 ∧ ¬ k = 10 ∧ ¬ k = 13) : PM (am_u2 I 284 k x) a o m H := ⟨(am_u2_o (by omega)).trans h.1, (am_u2_o (by omega)).trans h.2.1, (am_u2_o (by omega)).trans h.2.2.1, fun j x y => (am_u2_o (by omega)).trans (h.2.2.2 j x y)⟩
theorem PM.aw {I : Nat → Nat → Int} {a o m : Int} {H : Int → Int} (h : PM I a o m H) {x : Int} : PM (am_u2 I 284 9 x) x o m H := ⟨am_u2_s, (am_u2_o (by omega)).trans h.2.1, (am_u2_o (by omega)).trans h.2.2.1, fun j x y => (am_u2_o (by omega)).trans (h.2.2.2 j x y)⟩
end
