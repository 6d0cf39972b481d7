/-! the reference's calls -/
/-- after a call: the answer, what was thrown, the whole state -/
def OM (K N : Nat → Nat) (I : Nat → Nat → Int) (P : Nat → Nat → Option Nat) (z : Nat) (Q : am_V → am_T) (k : Int) (v : am_V) (W : Int → Int) (S : Int → Int → Int) (c : Int) (T : Int → Int) (n : Int) : Prop := ∀ I', FM I I' → MA I' W S c T n → I' 284 7 = k → Q v K N I' P z
theorem MA.put {I : Nat → Nat → Int} {W : Int → Int} {S : Int → Int → Int} {c : Int} {T : Int → Int} {n : Int} (h : MA I W S c T n) {i x : Int} (h0 : 0 ≤ i) : MA (am_u2 I 285 i.toNat x) (v_u W i x) S c T n := h.fr FR.rf.put (h.1.put h0)
def v_it : Nat → (Int → Int) → Int → Int
  | 0, W => W
  | k + 1, W => v_go (v_it k W)
theorem v_it_G {W : Int → Int} (hG : v_G W) (hF : v_F W) : ∀ k : Nat, v_G (v_it k W) ∧ v_F (v_it k W) ∧ v_same W (v_it k W) ∧ (v_it k W) 0 = W 0 + k
  | 0 => ⟨hG, hF, v_same.rf, by simp [v_it]⟩
  | k + 1 => by
    obtain ⟨h1, h2, h3, h4⟩ := v_it_G hG hF k
    obtain ⟨g1, g2, g3, g4⟩ := v_go_G h1 h2
    refine ⟨g1, g2, h3.tr g3, ?_⟩
    show v_go (v_it k W) 0 = _
    rw [g4, h4]; omega
abbrev v_ob (W : Int → Int) : Int := v_cnt (v_on W) (W 9).toNat
section
variable {d : Nat} {K N : Nat → Nat} {I I1 : Nat → Nat → Int} {P : Nat → Nat → Option Nat} {z : Nat} {Q : am_V → am_T} {W : Int → Int} {S : Int → Int → Int} {c : Int} {T : Int → Int} {n : Int}
end
