/-! the reference's calls -/
/-- after a call: the answer, what was thrown, the whole state -/
def OM (K N : Nat → Nat) (I : Nat → Nat → Int) (P : Nat → Nat → Option Nat) (z : Nat) (Q : am_V → am_T) (k : Int) (v : am_V) (W : Int → Int) (S : Int → Int → Int) (c : Int) (T : Int → Int) (n : Int) : Prop := ∀ I', FM I I' → MA I' W S c T n → I' 284 7 = k → Q v K N I' P z
theorem MA.put {I : Nat → Nat → Int} {W : Int → Int} {S : Int → Int → Int} {c : Int} {T : Int → Int} {n : Int} (h : MA I W S c T n) {i x : Int} (h0 : 0 ≤ i) : MA (am_u2 I 285 i.toNat x) (v_u W i x) S c T n := h.fr FR.rf.put (h.1.put h0)
def v_it : Nat → (Int → Int) → Int → Int
  | 0, W => W
  | k + 1, W => v_go (v_it k W)
theorem v_it_G {W : Int → Int} (hG : v_G W) (hF : v_F W) : ∀ k : Nat, v_G (v_it k W) ∧ v_F (v_it k W) ∧ v_same W (v_it k W) ∧ (v_it k W) 0 = W 0 + k
  | 0 => ⟨hG, hF, v_same.rf, by simp [v_it]⟩
  | k + 1 => by
    obtain ⟨h1, h2, h3, h4⟩ := v_it_G hG hF k
    obtain ⟨g1, g2, g3, g4⟩ := v_go_G h1 h2
    refine ⟨g1, g2, h3.tr g3, ?_⟩
    show v_go (v_it k W) 0 = _
    rw [g4, h4]; omega
abbrev v_ob (W : Int → Int) : Int := v_cnt (v_on W) (W 9).toNat
section
variable {d : Nat} {K N : Nat → Nat} {I I1 : Nat → Nat → Int} {P : Nat → Nat → Option Nat} {z : Nat} {Q : am_V → am_T} {W : Int → Int} {S : Int → Int → Int} {c : Int} {T : Int → Int} {n : Int}
theorem sp_no (hm : MS K N P) {k : Int} (hF : FM I I1) (hA : MA I1 W S c T n) (h : OM K N I P z Q k (am_i 0) W S c T n) : am_C d m_X8_refuse [am_r 284, am_i k] K N I1 P z (fun v K N I P z => am_iv v fun x => Q (am_i x) K N I P z) am_nx :=
  sp_refuse hm (h _ (hF.put (by omega)) hA.th am_u2_s)
theorem sp_clear (hm : MS K N P) (hA : MA I W S c T n) (h : OM K N I P z Q 0 (am_i n) W S c T 0) : am_C d m_X8_clear [am_r 284] K N I P z Q am_nx := by
  refine wf_X8_clear ⟨hm.1, ?_⟩
  rintro I2 rfl; replace hA := hA.th (x := 0); have hF : FM I (am_u2 I 284 7 0) := FM.rf.put (by omega); have ht : am_u2 I 284 7 0 284 7 = 0 := am_u2_s; have hW := hA.w; generalize am_u2 I 284 7 0 = I1 at *
  rintro I2 rfl
  obtain ⟨hW, a1, a2, a3, a4, a5, a6⟩ := hA
  rw [a2]
  refine h _ (hF.put (by omega)) ⟨fun i a b => (am_u2_o (by omega)).trans (hW i a b), (am_u2_o (by omega)).trans a1, am_u2_s, ?_, fun k a b => (am_u2_o (by omega)).trans (a4 k a b), a5, by omega⟩ ((am_u2_o (by omega)).trans ht)
  intro i k a b e f
  rw [am_u2_o (by omega)]
  exact a3 i k a b e f
end
