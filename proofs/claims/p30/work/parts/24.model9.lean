/-! the reference's whole state: W the row w, S the saved rows, c their number, T the text, n its length -/
def MA (I : Nat → Nat → Int) (W : Int → Int) (S : Int → Int → Int) (c : Int) (T : Int → Int) (n : Int) : Prop := MW I W ∧ I 284 5 = c ∧ I 284 6 = n ∧ (∀ j i : Int, 0 ≤ j → j < c → 0 ≤ i → i < 3200 → I 286 (j * 3200 + i).toNat = S j i) ∧ (∀ k : Int, 0 ≤ k → k < 80 → I 288 k.toNat = T k) ∧ (0 ≤ c ∧ c ≤ 6) ∧ (0 ≤ n ∧ n ≤ 80)
def FM (I I' : Nat → Nat → Int) : Prop := ∀ a, (a < 284 ∨ 289 < a) → I' a = I a
theorem FM.rf {I : Nat → Nat → Int} : FM I I := fun _ _ => rfl
theorem FM.tr {I I1 I2 : Nat → Nat → Int} (h : FM I I1) (h2 : FM I1 I2) : FM I I2 := fun a h3 => (h2 a h3).trans (h a h3)
theorem FR.FM {I I' : Nat → Nat → Int} (h : FR I I') : FM I I' := fun a h1 => funext fun j => h a j (by omega) (by omega)
theorem FM.put {I I' : Nat → Nat → Int} (h : FM I I') {a k : Nat} {x : Int} (ha : 284 ≤ a ∧ a ≤ 289) : FM I (am_u2 I' a k x) := fun b hb => by rw [am_u2_ne (by omega), h b hb]
section
variable {I I' : Nat → Nat → Int} {W W' : Int → Int} {S : Int → Int → Int} {c : Int} {T : Int → Int} {n : Int}
theorem MA.w (h : MA I W S c T n) : MW I W := h.1
theorem MA.fr (h : MA I W S c T n) (hf : FR I I') (hW : MW I' W') : MA I' W' S c T n := by
  obtain ⟨h1, h2, h3, h4, h5, h6⟩ := h
  refine ⟨hW, (hf 284 5 (by omega) (by omega)).trans h2, (hf 284 6 (by omega) (by omega)).trans h3, fun j i a b e f => (hf 286 _ (by omega) (by omega)).trans (h4 j i a b e f), fun k a b => (hf 288 _ (by omega) (by omega)).trans (h5 k a b), h6⟩
theorem MA.th (h : MA I W S c T n) {x : Int} : MA (am_u2 I 284 7 x) W S c T n := by
  obtain ⟨h1, h2, h3, h4, h5, h6⟩ := h
  refine ⟨fun i a b => (am_u2_o (by omega)).trans (h1 i a b), (am_u2_o (by omega)).trans h2, (am_u2_o (by omega)).trans h3, fun j i a b e f => (am_u2_o (by omega)).trans (h4 j i a b e f), fun k a b => (am_u2_o (by omega)).trans (h5 k a b), h6⟩
theorem MA.cg (h : MA I W S c T n) (e : ∀ i : Int, 0 ≤ i → i < 3200 → W i = W' i) : MA I W' S c T n := ⟨h.1.cg e, h.2⟩
end
def v_svS (S : Int → Int → Int) (c : Int) (W : Int → Int) : Int → Int → Int := fun j => if c = 6 then (if j = 5 then W else S (j + 1)) else (if j = c then W else S j)
def v_svc (c : Int) : Int := if c = 6 then 6 else c + 1
section
variable {d : Nat} {K N : Nat → Nat} {I : Nat → Nat → Int} {P : Nat → Nat → Option Nat} {z : Nat} {Q : am_V → am_T} {W : Int → Int} {S : Int → Int → Int} {c : Int} {T : Int → Int} {n : Int}
end
