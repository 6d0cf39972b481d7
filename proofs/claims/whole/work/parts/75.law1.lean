/-! THE LAW: class and reference side by side -/
def LI (K N : Nat → Nat) (I : Nat → Nat → Int) (P : Nat → Nat → Option Nat) (z : Nat) (W : Int → Int) (S : Int → Int → Int) (c : Int) (T : Int → Int) (n : Int) : Prop := GI K N I P z W S c T n ∧ MS K N P ∧ MA I W S c T n ∧ GT N I ∧ K 290 = 14 ∧ N 290 = 1
/-- after the class's call: the class's heap stands for the new state, the reference's for the old one -/
def CO (K N : Nat → Nat) (I : Nat → Nat → Int) (P : Nat → Nat → Option Nat) (z : Nat) (K1 N1 : Nat → Nat) (I1 : Nat → Nat → Int) (P1 : Nat → Nat → Option Nat) (z1 : Nat) (W : Int → Int) (S : Int → Int → Int) (c : Int) (T : Int → Int) (n : Int) : Prop := KF z K K1 ∧ KF z N N1 ∧ 287 ≤ z ∧ (∀ a, a < 4 ∨ (284 ≤ a ∧ a ≤ 289) → I1 a = I a) ∧ GP P P1 ∧ GI K1 N1 I1 P1 z1 W S c T n
section
variable {d : Nat} {K N K1 N1 : Nat → Nat} {I I1 I' : Nat → Nat → Int} {P P1 P' : Nat → Nat → Option Nat} {z z1 : Nat} {Q R : am_V → am_T} {X : Nat → am_T} {W W' V : Int → Int} {S S' : Int → Int → Int} {c c' : Int} {T T' : Int → Int} {n n' : Int}
theorem GI.cg (h : GI K N I P z W S c T n) (hI : ∀ a, a < 284 ∨ 291 ≤ a → I' a = I a) : GI K N I' P z W S c T n := by
  obtain ⟨σ, dr, hA, hB, hC, ⟨⟨d1, d2, d3⟩, d4, d5⟩⟩ := h
  have far : ∀ a, (10 ≤ a ∧ a < 20) ∨ 291 ≤ a → I' a = I a ∧ P a = P a := fun a ha => ⟨hI a (by omega), rfl⟩
  have rc : ∀ V, RC I V → RC I' V := fun V hv p k x1 x2 x3 x4 x5 => by rw [hI 7 (by omega)]; exact hv p k x1 x2 x3 x4 x5
  have sd : ∀ t V, sN t → SD K N I P t V → SD K N I' P t V := fun t V ht hv => by
    have b := ht.b
    exact hv.tr b (fun a x y => hI a (by omega)) (fun a x y => rfl) far
  refine ⟨σ, dr, hA, fun t ht => ?_, hC.i (hI 4 (by omega)) (hI 8 (by omega)) (hI 9 (by omega)), ⟨sd _ _ sN.now d1, d2, rc _ d3⟩, fun j j0 j1 => ?_, d5⟩
  · have b := ht.b
    exact (hB t ht).tr (fun a x y => hI a (by omega)) (fun a x y => rfl)
  · obtain ⟨e1, e2, e3, e4⟩ := d4 j j0 j1
    exact ⟨sd _ _ (hA.2.2.1 j j0 (by have := hC.2.1; omega)).2.1 e1, e2, rc _ e3, e4⟩
theorem GI.zz (h : GI K N I P z W S c T n) : 287 ≤ z := by obtain ⟨σ, dr, hA, hB, hC, hD⟩ := h; exact hA.2.2.2.2.2.1
theorem GI.v (h : GI K N I P z W S c T n) : VG W := by obtain ⟨σ, dr, hA, hB, hC, hD⟩ := h; exact hD.1.2.1
theorem GI.k4 (h : GI K N I P z W S c T n) : K 4 = 7 := by obtain ⟨σ, dr, hA, hB, hC, hD⟩ := h; exact hA.1.1
theorem CO.rf (h : GI K N I P z W S c T n) : CO K N I P z K N I P z W S c T n := ⟨fun _ _ => rfl, fun _ _ => rfl, h.zz, fun _ _ => rfl, GP.rf, h⟩
theorem CO.mk (h0 : GI K N I P z W S c T n) {S' : Int → Int → Int} {W' T' : Int → Int} {c' n' : Int} (f1 : GF I I') (f2 : GP P P') (h : GI K N I' P' z W' S' c' T' n') : CO K N I P z K N I' P' z W' S' c' T' n' := ⟨fun _ _ => rfl, fun _ _ => rfl, h0.zz, fun a ha => f1 a (by omega), f2, h⟩
theorem CO.out {b : Int} (h : CO K N I P z K1 N1 I1 P1 z1 W S c T n) : CO K N I P z K1 N1 (am_u2 I1 290 (Int.toNat 0) b) P1 z1 W S c T n := ⟨h.1, h.2.1, h.2.2.1, fun a ha => by rw [am_u2_ne (by omega)]; exact h.2.2.2.1 a ha, h.2.2.2.2.1, h.2.2.2.2.2.cg (fun a ha => am_u2_ne (by omega))⟩
theorem CO.ms (hc : CO K N I P z K1 N1 I1 P1 z1 W' S' c' T' n') (h : MS K N P) : MS K1 N1 P1 := by
  obtain ⟨k, nn, hz, hi, hp, _⟩ := hc
  obtain ⟨q0, q1, q2, q3, q4, q5, q6, q7, q8, q9, q10, q11, q12, q13, q14, q15⟩ := h
  exact ⟨by rw [k _ (by omega)]; exact q0, by rw [hp _ (by omega) (by omega)]; exact q1, by rw [hp _ (by omega) (by omega)]; exact q2, by rw [hp _ (by omega) (by omega)]; exact q3, by rw [hp _ (by omega) (by omega)]; exact q4, by rw [hp _ (by omega) (by omega)]; exact q5, by rw [k _ (by omega)]; exact q6, by rw [nn _ (by omega)]; exact q7, by rw [k _ (by omega)]; exact q8, by rw [nn _ (by omega)]; exact q9, by rw [k _ (by omega)]; exact q10, by rw [nn _ (by omega)]; exact q11, by rw [k _ (by omega)]; exact q12, by rw [nn _ (by omega)]; exact q13, by rw [k _ (by omega)]; exact q14, by rw [nn _ (by omega)]; exact q15⟩
theorem CO.ma (hc : CO K N I P z K1 N1 I1 P1 z1 W' S' c' T' n') (h : MA I W S c T n) : MA I1 W S c T n := by
  have hi := hc.2.2.2.1
  obtain ⟨h1, h2, h3, h4, h5, h6⟩ := h
  refine ⟨fun i a b => ?_, ?_, ?_, fun j i a b e f => ?_, fun k a b => ?_, h6⟩
  · rw [hi 285 (by omega)]; exact h1 i a b
  · rw [hi 284 (by omega)]; exact h2
  · rw [hi 284 (by omega)]; exact h3
  · rw [hi 286 (by omega)]; exact h4 j i a b e f
  · rw [hi 288 (by omega)]; exact h5 k a b
theorem LI.next (h : LI K N I P z W S c T n) (hc : CO K N I P z K1 N1 I1 P1 z1 W' S' c' T' n') (hF : FM I1 I') (hA : MA I' W' S' c' T' n') : LI K1 N1 I' P1 z1 W' S' c' T' n' := by
  obtain ⟨l1, l2, l3, l4, l5, l6⟩ := h
  have hm := hc.ms l2
  obtain ⟨k, nn, hz, hi, hp, hg⟩ := hc
  refine ⟨hg.cg (fun a ha => hF a (by omega)), hm, hA, ?_, by rw [k _ (by omega)]; exact l5, by rw [nn _ (by omega)]; exact l6⟩
  have e : ∀ a, a < 4 → I' a = I a := fun a ha => by rw [hF a (by omega)]; exact hi a (by omega)
  obtain ⟨t0, t1, t2, t3, t4⟩ := l4
  refine ⟨by rw [nn _ (by omega)]; exact t0, by rw [nn _ (by omega)]; exact t1, by rw [nn _ (by omega)]; exact t2, ?_, ?_⟩
  · rw [e 0 (by omega)]; exact t3
  · intro j j0 j1
    rw [e 1 (by omega), e 2 (by omega)]; exact t4 j j0 j1
/-- what the reference's call does, in one outcome -/
def RQ (d : Nat) (M : am_M) (vs : List am_V) (K N : Nat → Nat) (I : Nat → Nat → Int) (P : Nat → Nat → Option Nat) (z : Nat) (k : Int) (v : am_V) (W : Int → Int) (S : Int → Int → Int) (c : Int) (T : Int → Int) (n : Int) : Prop := ∀ Q : am_V → am_T, OM K N I P z Q k v W S c T n → am_C d M vs K N I P z Q am_nx
/-- both calls, for the law -/
def BC (d : Nat) (M : am_M) (vs : List am_V) (K N : Nat → Nat) (I : Nat → Nat → Int) (P : Nat → Nat → Option Nat) (z : Nat) (R : am_V → am_T) : Prop := ∀ (K1 N1 : Nat → Nat) (I1 : Nat → Nat → Int) (P1 : Nat → Nat → Option Nat) (z1 : Nat) (k b : Int) (W : Int → Int) (S : Int → Int → Int) (c : Int) (T : Int → Int) (n : Int), CO K N I P z K1 N1 I1 P1 z1 W S c T n → (k = 0 → I1 290 0 = b) → RQ d M vs K1 N1 I1 P1 z1 k (am_i b) W S c T n → R (am_i k) K1 N1 I1 P1 z1
/-- both calls, where the law compares the answers at once -/
def BD (d : Nat) (M : am_M) (vs : List am_V) (K N : Nat → Nat) (I : Nat → Nat → Int) (P : Nat → Nat → Option Nat) (z : Nat) (R : am_V → am_T) : Prop := ∀ (K1 N1 : Nat → Nat) (I1 : Nat → Nat → Int) (P1 : Nat → Nat → Option Nat) (z1 : Nat) (b : Int) (W : Int → Int) (S : Int → Int → Int) (c : Int) (T : Int → Int) (n : Int), CO K N I P z K1 N1 I1 P1 z1 W S c T n → RQ d M vs K1 N1 I1 P1 z1 0 (am_i b) W S c T n → R (am_i b) K1 N1 I1 P1 z1
end
