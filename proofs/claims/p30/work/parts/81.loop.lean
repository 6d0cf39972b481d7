/-! the law's loop -/
section
variable {d : Nat} {K N : Nat → Nat} {z : Nat} {Q : am_V → am_T}
theorem cl_cell {I : Nat → Nat → Int} {P : Nat → Nat → Option Nat} {i : Int} (hN : N 3 < 2147483648) (hi : 0 ≤ i) (hq : ∀ a : Int, Q (am_i a) K N I P z) : am_C d m_L_cell [am_r 3, am_i i] K N I P z Q am_nx :=
  wf_L_cell ⟨by omega, hN, fun _ => hq _, fun e => ⟨⟨hi, by omega⟩, hq _⟩⟩
theorem law_loop (hd : 30 ≤ d) (hN : N 3 < 2147483648) (hQ : ∀ (K N : Nat → Nat) (I : Nat → Nat → Int) (P : Nat → Nat → Option Nat) (z : Nat), Q (am_i 1) K N I P z) : ∀ (m j k n : Nat) (l3 : Int) (W : Int → Int) (S : Int → Int → Int) (c : Int) (I : Nat → Nat → Int) (P : Nat → Nat → Option Nat), j + m = 32 → k ≤ 560 + 3103 * j → n ≤ 13514 + 18618 * j → l3 = j → RI W S c → G2 K N I P z W S c W S c → L_L_law_18 d k n 3 4 284 l3 K N I P z Q := by
  intro m
  induction m with
  | zero =>
    intro j k n l3 W S c I P hj hk hn e3 hR g
    refine wf_L_law_18 (by omega) ⟨fun _ => ⟨⟨by omega, by omega⟩, st_alike (by omega) g.1.v g ?_⟩, fun e => absurd (by omega) e⟩
    intro I1 P1 g
    simp only [am_iv]
    exact ⟨⟨by omega, by omega⟩, Or.inr (by trivial), hQ _ _ _ _ _⟩
  | succ m ih =>
    intro j k n l3 W S c I P hj hk hn e3 hR g
    have u1 : am_wr (2 * l3) = 2 * (j : Int) := by rw [am_wE (by omega) (by omega)]; omega
    have u2 : am_wr (am_wr (2 * l3) + 1) = 2 * (j : Int) + 1 := by rw [u1, am_wE (by omega) (by omega)]
    refine wf_L_law_18 (by omega) ⟨fun e => absurd e (by omega), fun _ => ⟨⟨by omega, by omega⟩, cl_cell hN (by omega) ?_⟩⟩
    intro a
    simp only [am_iv]
    refine ⟨⟨by omega, by omega⟩, cl_cell hN (by omega) ?_⟩
    intro b
    simp only [am_iv]
    obtain ⟨v0, s0⟩ := st_ask (d := d - 1) (S := S) (c := c) (by omega) g.1.v b a
    refine ⟨⟨by omega, by omega⟩, st_o s0 g ?_⟩
    intro I1 P1 g
    simp only [am_iv]
    obtain ⟨r, W', S', c', hR', s1⟩ := st_change (d := d - 1) (by omega) g.1.v g.1.cc hR a b
    refine ⟨⟨by omega, by omega⟩, st_o s1 g ?_⟩
    intro I2 P2 g
    simp only [am_iv]
    refine ⟨⟨by omega, by omega⟩, st_q s1 rfl rfl g ?_⟩
    intro I3 P3 g
    simp only [am_iv]
    refine ⟨fun e => (e (by trivial)).elim, fun _ => ⟨⟨by omega, by omega⟩, st_o (st_counted (by omega) g.1.v hR'.1) g ?_⟩⟩
    intro I4 P4 g
    simp only [am_iv]
    refine ⟨fun e => absurd e (by decide), fun _ => ⟨⟨by omega, by omega⟩, st_o (st_apart (by omega) g.1.v) g ?_⟩⟩
    intro I5 P5 g
    simp only [am_iv]
    refine ⟨fun _ => ?_, fun e => absurd e (by decide)⟩
    exact ih (j + 1) _ _ _ W' S' c' I5 P5 (by omega) (by omega) (by omega) (by rw [am_wE (by omega) (by omega)]; omega) hR' g
end
