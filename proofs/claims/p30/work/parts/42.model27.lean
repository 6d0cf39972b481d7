section
variable {d : Nat} {K N : Nat → Nat} {I I1 : Nat → Nat → Int} {P : Nat → Nat → Option Nat} {z : Nat} {Q : am_V → am_T} {W : Int → Int} {S : Int → Int → Int} {c : Int} {T : Int → Int} {n : Int}
theorem v_sg_in {p : Int} (h0 : 0 ≤ p) (h1 : p < n) : v_sg T n p = T p := if_pos ⟨h0, h1⟩
theorem v_sg_out {p : Int} (h1 : n ≤ p) : v_sg T n p = -1 := if_neg (by omega)
theorem PM.cg {I : Nat → Nat → Int} {a o m a' o' m' : Int} {H H' : Int → Int} (h : PM I a o m H) (ea : a = a') (eo : o = o') (em : m = m') (e : ∀ k : Int, 0 ≤ k → k < o → H k = H' k) : PM I a' o' m' H' := by
  subst ea eo em
  exact ⟨h.1, h.2.1, h.2.2.1, fun k x y => (h.2.2.2 k x y).trans (e k x y)⟩
end
