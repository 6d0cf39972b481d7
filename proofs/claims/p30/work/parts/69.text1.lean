theorem am_u2_id {I : Nat → Nat → Int} {a k : Nat} {x : Int} (h : I a k = x) : am_u2 I a k x = I := by
  funext b j
  unfold am_u2
  split
  · rename_i q; rw [q.1, q.2, h]
  · rfl
theorem v_chrN : ∀ k : Nat, k < 127 → am_wr ((Int32.ofInt (k : Int)).toUInt32 % 65536).toInt32.toInt = (k : Int) := by decide +kernel
theorem v_chr {x : Int} (h0 : 0 ≤ x) (h1 : x ≤ 126) : am_wr ((Int32.ofInt x).toUInt32 % 65536).toInt32.toInt = x := by
  have := v_chrN x.toNat (by omega)
  rw [show ((x.toNat : Nat) : Int) = x by omega] at this
  exact this
section
variable {d : Nat} {K N : Nat → Nat} {I I' : Nat → Nat → Int} {P P' : Nat → Nat → Option Nat} {z : Nat} {Q : am_V → am_T} {X : Nat → am_T} {W W' V W0 L0 : Int → Int} {S : Int → Int → Int} {c : Int} {T T' : Int → Int} {n n' : Int} {s s2 dr : Nat}
theorem GI.txt (h : GI K N I P z W S c T n) (hI : ∀ a, ¬ a = 8 → ¬ a = 9 → I' a = I a) (h1 : I' 8 1 = n') (h2 : 0 ≤ n' ∧ n' ≤ 80) (h3 : ∀ k : Int, 0 ≤ k → k < n' → I' 9 k.toNat = T' k ∧ 32 ≤ T' k ∧ T' k ≤ 126) : GI K N I' P z W S c T' n' := by
  obtain ⟨σ, dr, hA, hB, hC, ⟨⟨d1, d2, d3⟩, d4, d5⟩⟩ := h
  have far : ∀ a, (10 ≤ a ∧ a < 20) ∨ 564 ≤ a → I' a = I a ∧ P a = P a := fun a ha => ⟨hI a (by omega) (by omega), rfl⟩
  have rc : ∀ V, RC I V → RC I' V := fun V hv p k x1 x2 x3 x4 x5 => by rw [hI 7 (by omega) (by omega)]; exact hv p k x1 x2 x3 x4 x5
  have sd : ∀ t V, sN t → SD K N I P t V → SD K N I' P t V := fun t V ht hv => by
    have b := ht.b
    exact hv.tr b (fun a x y => hI a (by omega) (by omega)) (fun a x y => rfl) far
  refine ⟨σ, dr, hA, fun t ht => ?_, ⟨by rw [hI 4 (by omega) (by omega)]; exact hC.1, hC.2.1, h1, h2, h3⟩, ⟨sd _ _ sN.now d1, d2, rc _ d3⟩, fun j j0 j1 => ?_, d5⟩
  · have b := ht.b
    exact (hB t ht).tr (fun a x y => hI a (by omega) (by omega)) (fun a x y => rfl)
  · obtain ⟨e1, e2, e3, e4⟩ := d4 j j0 j1
    exact ⟨sd _ _ (hA.2.2.1 j j0 (by have := hC.2.1; omega)).2.1 e1, e2, rc _ e3, e4⟩
end
/-! the reader -/
def TX (K N : Nat → Nat) (I : Nat → Nat → Int) (P : Nat → Nat → Option Nat) (T : Int → Int) (n : Int) : Prop := K 8 = 5 ∧ P 8 0 = some 9 ∧ K 9 = 9 ∧ N 9 = 80 ∧ I 8 1 = n ∧ (0 ≤ n ∧ n ≤ 80) ∧ (∀ k : Int, 0 ≤ k → k < n → I 9 k.toNat = T k ∧ 32 ≤ T k ∧ T k ≤ 126)
section
variable {d : Nat} {K N : Nat → Nat} {I I' : Nat → Nat → Int} {P P' : Nat → Nat → Option Nat} {z : Nat} {Q : am_V → am_T} {T U : Int → Int} {n : Int} {dr : Nat}
theorem TX.tr (h : TX K N I P T n) (h1 : I' 8 1 = I 8 1) (h9 : I' 9 = I 9) : TX K N I' P T n := by
  obtain ⟨q1, q2, q3, q4, q5, q6, q7⟩ := h
  exact ⟨q1, q2, q3, q4, by rw [h1]; exact q5, q6, fun k a b => by rw [h9]; exact q7 k a b⟩
theorem TX.at (h : TX K N I P T n) {x : Int} : TX K N (am_u2 I 8 2 x) P T n := h.tr (am_u2_o (by omega)) (am_u2_ne (by omega))
theorem TX.g (h : TX K N I P T n) {p : Int} (p0 : 0 ≤ p) : v_sg T n p = -1 ∨ (p < n ∧ v_sg T n p = T p ∧ 32 ≤ v_sg T n p ∧ v_sg T n p ≤ 126) := by
  rcases (show p < n ∨ n ≤ p by omega) with q | q
  · right
    have := (h.2.2.2.2.2.2 p p0 q).2
    rw [v_sg_in p0 q]
    exact ⟨q, rfl, this.1, this.2⟩
  · left; exact v_sg_out q
theorem ct_next (h : TX K N I P T n) {p : Int} (hp : I 8 2 = p) (p0 : 0 ≤ p) (hq : Q (am_i (v_sg T n p)) K N I P z) : am_C d m_X5_nextSign [am_r 8] K N I P z Q am_nx := by
  obtain ⟨q1, q2, q3, q4, q5, q6, q7⟩ := h
  refine wf_X5_nextSign ⟨q1, ?_⟩
  rw [hp, q5]
  refine ⟨fun r => absurd r (by omega), fun _ => ⟨fun r => ?_, fun r => ⟨fun r2 => absurd r2 (by omega), fun _ => ⟨9, q2, q3, by omega, ?_⟩⟩⟩⟩
  · rw [v_sg_out r] at hq; exact hq
  · rw [v_sg_in p0 (by omega)] at hq
    rw [(q7 p p0 (by omega)).1]; exact hq
theorem ct_sign (hd : 1 ≤ d) (h : TX K N I P T n) {p x : Int} (hp : I 8 2 = p) (p0 : 0 ≤ p) (p1 : p ≤ n) (h1 : v_sg T n p = x → Q (am_i 1) K N (am_u2 I 8 2 (p + 1)) P z) (h0 : ¬ v_sg T n p = x → Q (am_i 0) K N I P z) : am_C d m_X5_takesSign [am_r 8, am_i x] K N I P z Q am_nx := by
  have hn := h.2.2.2.2.2.1
  refine wf_X5_takesSign hd ⟨h.1, ct_next h hp p0 ⟨fun r => ⟨h.1, ?_⟩, fun r => h0 r⟩⟩
  rintro I9 rfl
  rw [hp, am_wE (by omega) (by omega)]
  exact h1 r
theorem ct_num (hd : 1 ≤ d) (h : TX K N I P T n) {p : Int} (hp : I 8 2 = p) (p0 : 0 ≤ p) (p1 : p ≤ n) (hq : Q (am_i (v_t3 (v_sg T n) p).1) K N (am_u2 I 8 2 (v_t3 (v_sg T n) p).2) P z) : am_C d m_X5_takeNumber [am_r 8] K N I P z Q am_nx := by
  have hn := h.2.2.2.2.2.1
  have key : ∀ (m : Nat) (x q : Int), p ≤ q → q ≤ n → (m : Int) ≤ 3 → (x = -1 ↔ m = 3) → -1 ≤ x → (m = 2 → x ≤ 9) → (m = 1 → x ≤ 99) → (m = 0 → x ≤ 999) → Q (am_i (v_tn (v_sg T n) m x q).1) K N (am_u2 I 8 2 (v_tn (v_sg T n) m x q).2) P z → L_X5_takeNumber_4 d 8 x (3 - m) K N (am_u2 I 8 2 q) P z Q := by
    intro m
    induction m with
    | zero =>
      intro x q q0 q1 m3 hx x0 b2 b1 b0 hq
      exact wf_X5_takeNumber_4 hd ⟨fun _ => hq, fun r => absurd r (by omega)⟩
    | succ m ih =>
      intro x q q0 q1 m3 hx x0 b2 b1 b0 hq
      rw [v_tn] at hq
      refine wf_X5_takeNumber_4 hd ⟨fun r => absurd r (by omega), fun _ => ⟨h.1, ct_next h.at am_u2_s (by omega) ⟨fun r => ?_, fun r => ⟨fun r2 => ?_, fun r2 => ?_⟩⟩⟩⟩
      · rw [if_neg (by omega)] at hq; exact hq
      · rw [if_pos (by omega)] at hq
        have hlt : q < n := by
          rcases (show q < n ∨ n ≤ q by omega) with t | t
          · exact t
          · rw [v_sg_out t] at r; omega
        refine ⟨fun r3 => ⟨h.1, ?_⟩, fun r3 => ⟨h.1, ?_⟩⟩
        · rintro I9 rfl
          have hx1 : ¬ x = -1 := by omega
          rw [if_neg hx1] at hq
          rw [am_u2_s, am_u2_uu, am_wE (x := q + 1) (by omega) (by omega), am_wE (x := 10 * x) (by omega) (by omega), am_wE (x := 10 * x + v_sg T n q) (by omega) (by omega), am_wE (x := 10 * x + v_sg T n q - 48) (by omega) (by omega), am_wE (by omega) (by omega), show (3 : Int) - ((m + 1 : Nat) : Int) + 1 = 3 - m by omega]
          exact ih _ (q + 1) (by omega) (by omega) (by omega) ⟨fun t => by omega, fun t => by omega⟩ (by omega) (fun t => by omega) (fun t => by have := b2 (by omega); omega) (fun t => by have := b1 (by omega); omega) hq
        · rintro I9 rfl
          have hx1 : x = -1 := by omega
          rw [if_pos hx1] at hq
          rw [am_u2_s, am_u2_uu, am_wE (x := q + 1) (by omega) (by omega), am_wE (x := 0 + v_sg T n q) (by omega) (by omega), am_wE (x := 0 + v_sg T n q - 48) (by omega) (by omega), am_wE (by omega) (by omega), show (3 : Int) - ((m + 1 : Nat) : Int) + 1 = 3 - m by omega]
          exact ih _ (q + 1) (by omega) (by omega) (by omega) ⟨fun t => by omega, fun t => by omega⟩ (by omega) (fun t => by omega) (fun t => by omega) (fun t => by omega) hq
      · rw [if_neg (by omega)] at hq; exact hq
  have e := key 3 (-1) p (Int.le_refl _) p1 (by omega) ⟨fun _ => rfl, fun _ => rfl⟩ (by omega) (fun t => by omega) (fun t => by omega) (fun t => by omega) hq
  rw [am_u2_id hp] at e
  exact wf_X5_takeNumber e
/-! nodes -/
theorem RN.lt {r : Nat} : ∀ (f : Nat) (nd p nd' p' : Int), RN I r U f nd p nd' p' → nd < nd'
  | 0, _, _, _, _, h => h.elim
  | f + 1, nd, p, nd', p', h => by
    rcases h.2 with ⟨h1, h2, h3⟩ | ⟨h1, h2, h3, h4, h5, n1, p1, h6, h7, h8, h9⟩
    · omega
    · have := RN.lt f _ _ _ _ h9; omega
theorem RN.ext {r : Nat} (h4 : I r 4 ≤ I' r 4) : ∀ (f : Nat) (nd p nd' p' : Int), (∀ j : Int, nd ≤ j → j < nd' → I' (r + 1) j.toNat = I (r + 1) j.toNat ∧ I' (r + 2) j.toNat = I (r + 2) j.toNat ∧ I' (r + 3) j.toNat = I (r + 3) j.toNat ∧ I' (r + 4) j.toNat = I (r + 4) j.toNat) → RN I r U f nd p nd' p' → RN I' r U f nd p nd' p'
  | 0, _, _, _, _, _, h => h.elim
  | f + 1, nd, p, nd', p', he, h => by
    have hl := RN.lt _ _ _ _ _ h
    obtain ⟨h0, h⟩ := h
    obtain ⟨e1, e2, e3, e4⟩ := he nd (Int.le_refl _) hl
    refine ⟨⟨h0.1, by omega⟩, ?_⟩
    rw [e1, e2, e3, e4]
    rcases h with h | ⟨h1, h2, h3, h4', h5, n1, p1, h6, h7, h8, h9⟩
    · exact Or.inl h
    · have hl2 := RN.lt _ _ _ _ _ h9
      exact Or.inr ⟨h1, h2, h3, h4', h5, n1, p1, RN.ext h4 f _ _ _ _ (fun j a b => he j (by omega) (by omega)) h6, h7, h8, RN.ext h4 f _ _ _ _ (fun j a b => he j (by omega) b) h9⟩
theorem RN.up {r : Nat} : ∀ (f : Nat) (nd p nd' p' : Int), RN I r U f nd p nd' p' → RN I r U (f + 1) nd p nd' p'
  | 0, _, _, _, _, h => h.elim
  | f + 1, nd, p, nd', p', h => by
    obtain ⟨h0, h⟩ := h
    refine ⟨h0, ?_⟩
    rcases h with h | ⟨h1, h2, h3, h4, h5, n1, p1, h6, h7, h8, h9⟩
    · exact Or.inl h
    · exact Or.inr ⟨h1, h2, h3, h4, h5, n1, p1, RN.up f _ _ _ _ h6, h7, h8, RN.up f _ _ _ _ h9⟩
theorem cu_node (hr : RO K N P dr) {x a b cnt : Int} (h4 : I dr 4 = cnt) (c0 : 0 ≤ cnt) (c1 : cnt < 80) (x0 : 0 ≤ x) (x1 : x < 65536) (h : ∀ I', (∀ y, ¬ (dr ≤ y ∧ y < dr + 5) → I' y = I y) → I' dr 4 = cnt + 1 → I' dr 5 = I dr 5 → (∀ j : Int, 0 ≤ j → j < cnt → I' (dr + 1) j.toNat = I (dr + 1) j.toNat ∧ I' (dr + 2) j.toNat = I (dr + 2) j.toNat ∧ I' (dr + 3) j.toNat = I (dr + 3) j.toNat ∧ I' (dr + 4) j.toNat = I (dr + 4) j.toNat) → (I' (dr + 1) cnt.toNat = x ∧ I' (dr + 2) cnt.toNat = a ∧ I' (dr + 3) cnt.toNat = b) → Q (am_i cnt) K N I' P z) : am_C d m_X4_addNode [am_r dr, am_i x, am_i a, am_i b] K N I P z Q am_nx := by
  obtain ⟨r0, q0, q1, q2, q3, r1, n1, r2, n2, r3, n3, r4, n4⟩ := id hr
  refine wf_X4_addNode ⟨r0, fun _ => ⟨dr + 1, q0, r1, by omega, by omega, ?_⟩, fun t => absurd t (by omega)⟩
  rintro I4 rfl
  rw [h4]
  refine ⟨dr + 2, q1, r2, ?_, ?_⟩
  · rw [am_u2_o (by omega)]; omega
  rintro I7 rfl
  rw [am_u2_o (I := I) (b := dr) (by omega), h4]
  refine ⟨dr + 3, q2, r3, ?_, ?_⟩
  · rw [am_u2_o (by omega), am_u2_o (by omega)]; omega
  rintro I10 rfl
  have e7 : am_u2 (am_u2 I (dr + 1) cnt.toNat x) (dr + 2) cnt.toNat a dr 4 = cnt := by rw [am_u2_o (by omega), am_u2_o (by omega)]; exact h4
  rw [e7]
  refine ⟨dr + 4, q3, r4, ?_, ?_⟩
  · rw [am_u2_o (by omega), am_u2_o (by omega), am_u2_o (by omega)]; omega
  rintro I13 rfl I14 rfl
  have e : am_u2 (am_u2 (am_u2 I (dr + 1) cnt.toNat x) (dr + 2) cnt.toNat a) (dr + 3) cnt.toNat b dr 4 = cnt := by rw [am_u2_o (by omega), am_u2_o (by omega), am_u2_o (by omega)]; exact h4
  rw [e]
  have e2 : am_u2 (am_u2 (am_u2 (am_u2 I (dr + 1) cnt.toNat x) (dr + 2) cnt.toNat a) (dr + 3) cnt.toNat b) (dr + 4) cnt.toNat (-1) dr 4 = cnt := by rw [am_u2_o (by omega)]; exact e
  rw [e2, am_wE (x := cnt + 1) (by omega) (by omega), am_u2_s, show cnt + 1 - 1 = cnt by omega, am_wE (by omega) (by omega)]
  refine h _ (fun y hy => by rw [am_u2_ne (by omega), am_u2_ne (by omega), am_u2_ne (by omega), am_u2_ne (by omega), am_u2_ne (by omega)]) am_u2_s (by rw [am_u2_o (by omega), am_u2_o (by omega), am_u2_o (by omega), am_u2_o (by omega), am_u2_o (by omega)]) (fun j j0 j1 => ?_) ?_
  · refine ⟨?_, ?_, ?_, ?_⟩ <;> rw [am_u2_o (by omega), am_u2_o (by omega), am_u2_o (by omega), am_u2_o (by omega), am_u2_o (by omega)]
  · refine ⟨?_, ?_, ?_⟩
    · rw [am_u2_o (by omega), am_u2_o (by omega), am_u2_o (by omega), am_u2_o (by omega), am_u2_s]
    · rw [am_u2_o (by omega), am_u2_o (by omega), am_u2_o (by omega), am_u2_s]
    · rw [am_u2_o (by omega), am_u2_o (by omega), am_u2_s]
end
