/-! both sorters made -/
section
variable {d : Nat} {K N K' N' : Nat → Nat} {I I0 I' : Nat → Nat → Int} {P P' : Nat → Nat → Option Nat} {z s r : Nat} {Q : am_V → am_T}
theorem LV.md2 (h : LV I0 284 K N I P) (hk : ∀ a, a < 284 → K' a = K a ∧ N' a = N a ∧ I' a = I a ∧ P' a = P a) : LV (fun a => if a < 284 then I0 a else I' a) 284 K' N' I' P' := by
  obtain ⟨⟨a1, a2, a3, a4, a5, a6, a7, a8, a9, a10, a11, a12, a13, a14, a15⟩, h1, h2, h3, h4, h5, h6⟩ := h
  have k : ∀ a, a < 284 → K' a = K a := fun a q => (hk a q).1
  have n : ∀ a, a < 284 → N' a = N a := fun a q => (hk a q).2.1
  have ii : ∀ a, a < 284 → I' a = I a := fun a q => (hk a q).2.2.1
  have p : ∀ a, a < 284 → P' a = P a := fun a q => (hk a q).2.2.2
  refine ⟨⟨by rw [k 4 (by omega)]; exact a1, by rw [p 4 (by omega)]; exact a2, by rw [p 4 (by omega)]; exact a3, by rw [p 4 (by omega)]; exact a4, by rw [p 4 (by omega)]; exact a5, by rw [k 5 (by omega)]; exact a6, by rw [n 5 (by omega)]; exact a7, by rw [k 6 (by omega)]; exact a8, by rw [p 6 (by omega)]; exact a9, by rw [k 7 (by omega)]; exact a10, by rw [n 7 (by omega)]; exact a11, by rw [k 8 (by omega)]; exact a12, by rw [p 8 (by omega)]; exact a13, by rw [k 9 (by omega)]; exact a14, by rw [n 9 (by omega)]; exact a15⟩, h1.fr (fun a q1 q2 => ⟨k a (by omega), n a (by omega)⟩) (p _ (by omega)), h2.fr (fun a q1 q2 => ⟨k a (by omega), n a (by omega)⟩) (p _ (by omega)), fun a q => ?_, by rw [ii 15 (by omega), ii 16 (by omega), ii 17 (by omega)]; exact h4, fun a q => ?_, fun s hs hlt => (h6 s hs hlt).tr (fun a q1 q2 => hk a (by have := hs.2.1; omega)) (ii 0 (by omega))⟩
  · show I' a = if a < 284 then I0 a else I' a
    rw [if_pos (by omega), ii a (by omega)]; exact h3 a q
  · show I' a = if a < 284 then I0 a else I' a
    rw [if_neg (by omega)]
theorem sK_in {a : Nat} (h : 4 ≤ a) (h1 : a < 284) : sK K a = K (a + 280) := by unfold sK; rw [sw_in h h1]
theorem sI_in {a : Nat} (h : 4 ≤ a) (h1 : a < 284) : sI I a = I (a + 280) := by unfold sI; rw [sw_in h h1]
theorem sP_in {a k b : Nat} (h : 4 ≤ a) (h1 : a < 284) (hb : P (a + 280) k = some (b + 280)) (h2 : 4 ≤ b) (h3 : b < 284) : sP P a k = some b := by
  unfold sP
  rw [sw_in h h1, hb]
  show some (sw (b + 280)) = some b
  rw [sw_out (by omega) (by omega), Nat.add_sub_cancel]
theorem RO.sw (h : RO K N P (r + 280)) (h4 : 4 ≤ r) (h5 : r + 5 ≤ 284) : RO (sK K) (sK N) (sP P) r := by
  obtain ⟨v5, w1, w2, w3, w4, w5, w6, w7, w8, w9, w10, w11, w12⟩ := h
  have k : ∀ i, i < 5 → sK K (r + i) = K (r + 280 + i) := fun i q => by rw [sK_in (by omega) (by omega)]; congr 1; omega
  have n : ∀ i, i < 5 → sK N (r + i) = N (r + 280 + i) := fun i q => by rw [sK_in (by omega) (by omega)]; congr 1; omega
  have p : ∀ j i, i < 5 → P (r + 280) j = some (r + 280 + i) → sP P r j = some (r + i) := fun j i q h => sP_in h4 (by omega) (by rw [h]; congr 1; omega) (by omega) (by omega)
  exact ⟨(k 0 (by omega)).trans v5, p 0 1 (by omega) w1, p 1 2 (by omega) w2, p 2 3 (by omega) w3, p 3 4 (by omega) w4, (k 1 (by omega)).trans w5, (n 1 (by omega)).trans w6, (k 2 (by omega)).trans w7, (n 2 (by omega)).trans w8, (k 3 (by omega)).trans w9, (n 3 (by omega)).trans w10, (k 4 (by omega)).trans w11, (n 4 (by omega)).trans w12⟩
theorem NS.sw (h : NS K N I P (s + 280) (r + 280)) (h4 : 4 ≤ s) (h5 : s + 33 ≤ 284) (r4 : 4 ≤ r) (r5 : r < 284) : NS (sK K) (sK N) (sI I) (sP P) s r := by
  obtain ⟨⟨v5, w1, w2, w3, w4, w5, w6, w7, w8, w9, w10, w11, w12, w13⟩, ⟨v8, x1, x2, x3, x4, x5, x6⟩, v9, ⟨y1, y2, y3⟩, u1, u2⟩ := h
  have k : ∀ i, i < 33 → sK K (s + i) = K (s + 280 + i) := fun i q => by rw [sK_in (by omega) (by omega)]; congr 1; omega
  have n : ∀ i, i < 33 → sK N (s + i) = N (s + 280 + i) := fun i q => by rw [sK_in (by omega) (by omega)]; congr 1; omega
  have p : ∀ m j i, m < 33 → i < 33 → P (s + 280 + m) j = some (s + 280 + i) → sP P (s + m) j = some (s + i) := fun m j i q0 q h => sP_in (by omega) (by omega) (by rw [show s + m + 280 = s + 280 + m by omega, h]; congr 1; omega) (by omega) (by omega)
  refine ⟨⟨(k 0 (by omega)).trans v5, (k 1 (by omega)).trans w1, (n 1 (by omega)).trans w2, (k 2 (by omega)).trans w3, (n 2 (by omega)).trans w4, (k 3 (by omega)).trans w5, (k 4 (by omega)).trans w6, (n 4 (by omega)).trans w7, (k 5 (by omega)).trans w8, (n 5 (by omega)).trans w9, (k 6 (by omega)).trans w10, (n 6 (by omega)).trans w11, fun a a0 a1 => ?_, fun a a0 a1 => ?_⟩, ⟨p 0 0 1 (by omega) (by omega) v8, p 0 1 2 (by omega) (by omega) x1, p 0 3 3 (by omega) (by omega) x2, p 0 5 6 (by omega) (by omega) x3, p 3 0 4 (by omega) (by omega) x4, p 3 1 5 (by omega) (by omega) x5, fun i i0 i1 => ?_⟩, sP_in h4 (by omega) v9 r4 r5, ⟨fun j j0 j1 => ⟨?_, ?_, ?_⟩, fun i j i0 i1 j0 j1 q => ?_, fun a a0 a1 => ?_⟩, ?_, fun a j a0 a1 a2 a3 => ?_⟩
  · rw [sK_in (by omega) (by omega)]; exact w12 _ (by omega) (by omega)
  · rw [sK_in (by omega) (by omega)]; exact w13 _ (by omega) (by omega)
  · have e := p 2 i.toNat (7 + i.toNat) (by omega) (by omega) (by rw [← Nat.add_assoc]; exact x6 i i0 i1)
    rw [← Nat.add_assoc] at e
    exact e
  · have e := p 6 j.toNat (13 + j.toNat) (by omega) (by omega) (by rw [← Nat.add_assoc]; exact (y1 j j0 j1).1)
    rw [← Nat.add_assoc] at e
    exact e
  · show s + 13 ≤ s + 13 + j.toNat; omega
  · show s + 13 + j.toNat < s + 33; omega
  · replace q : s + 13 + i.toNat = s + 13 + j.toNat := q
    omega
  · refine ⟨((a - (s + 13) : Nat) : Int), by omega, by omega, ?_⟩
    show s + 13 + (((a - (s + 13) : Nat) : Int)).toNat = a
    omega
  · rw [sI_in (by omega) (by omega), show s + 1 + 280 = s + 280 + 1 by omega, u1]
    unfold sI
    rw [sw_lo (by omega)]
  · rw [sI_in (by omega) (by omega)]
    exact u2 _ _ (by omega) (by omega) (by omega) (by omega)
theorem LU.lv (h : LU I0 564 K N I P) : LV (sI I0) 284 (sK K) (sK N) (sI I) (sP P) := by
  obtain ⟨⟨a1, a2, a3, a4, a5, a6, a7, a8, a9, a10, a11, a12, a13, a14, a15⟩, h1, h2, h3, h4, h5, h6⟩ := h
  refine ⟨⟨(sK_in (by omega) (by omega)).trans a1, sP_in (b := 5) (by omega) (by omega) a2 (by omega) (by omega), sP_in (b := 6) (by omega) (by omega) a3 (by omega) (by omega), sP_in (b := 8) (by omega) (by omega) a4 (by omega) (by omega), sP_in (b := 10) (by omega) (by omega) a5 (by omega) (by omega), (sK_in (by omega) (by omega)).trans a6, (sK_in (by omega) (by omega)).trans a7, (sK_in (by omega) (by omega)).trans a8, sP_in (b := 7) (by omega) (by omega) a9 (by omega) (by omega), (sK_in (by omega) (by omega)).trans a10, (sK_in (by omega) (by omega)).trans a11, (sK_in (by omega) (by omega)).trans a12, sP_in (b := 9) (by omega) (by omega) a13 (by omega) (by omega), (sK_in (by omega) (by omega)).trans a14, (sK_in (by omega) (by omega)).trans a15⟩, RO.sw (r := 10) h1 (by omega) (by omega), RO.sw (r := 15) h2 (by omega) (by omega), fun a q => ?_, ?_, fun a q => ?_, fun s hs q => ?_⟩
  · by_cases e : a < 4
    · unfold sI
      rw [sw_lo e]
      exact h3 a (by omega)
    · rw [sI_in (by omega) (by omega), sI_in (by omega) (by omega)]
      exact h3 _ (by omega)
  · rw [sI_in (by omega) (by omega), sI_in (by omega) (by omega), sI_in (by omega) (by omega)]
    exact h4
  · by_cases e : a < 564
    · unfold sI
      rw [sw_out q e]
      exact h3 _ (by omega)
    · unfold sI
      rw [sw_hi (by omega)]
      exact h5 a (by omega)
  · have b := hs.b
    have c := hs.1
    exact NS.sw (h6 (s + 280) (by unfold sM; unfold sN at hs; omega) (by omega)) (by omega) (by omega) (by omega) (by omega)
theorem RI.start (S : Int → Int → Int) : RI WZ S 0 := by
  have z9 : WZ 9 = 0 := rfl
  refine ⟨⟨fun p p0 p1 => ?_, fun l l0 l1 => ?_⟩, fun j j0 j1 => absurd j1 (by omega)⟩
  · rw [z9] at p1; omega
  · rw [WZ.z (i := 40 + l) (by omega) (by omega) (by omega)]
    show v_cnt _ (WZ 9).toNat = 0
    rw [z9]
    rfl
/-- THE LAW from its entry: 0, 1, 2 the sorter's rows of settings, 3 the script -/
theorem law_init (hd : 30 ≤ d) (hQ : ∀ (K N : Nat → Nat) (I : Nat → Nat → Int) (P : Nat → Nat → Option Nat) (z : Nat), Q (am_i 1) K N I P z) (hN : N 3 ≤ 260) (ht : GT N I) (h0 : ∀ a k, 4 ≤ a → I a k = 0) : am_E d m_L_law 0 0 0 [some (am_r 3), none, none, none, none, none, none] [] K N I P 0 Q am_nx := by
  refine wf_L_law (by omega) ⟨by omega, ?_⟩
  rintro K1 N2 b3 z4 rfl rfl rfl rfl
  refine ⟨by omega, cu_sorter (by omega) am_u1_s (by rw [am_u1_o (by omega)]; exact ht.1) h0 ?_⟩
  intro K6 N7 I8 P9 hL p0 p1 p5 fk fn
  refine ⟨by omega, ?_⟩
  rintro K11 N12 b13 z14 rfl rfl rfl rfl
  have i8 : ∀ a k, 284 ≤ a → I8 a k = 0 := fun a k q => by rw [hL.2.2.2.2.2.1 a q]; exact h0 a k (by omega)
  have n7 : ∀ a, a < 4 → N7 a = N a := fun a q => by rw [fn a (by omega), am_u1_o (by omega)]
  refine ⟨by omega, cu_sorter2 (by omega) am_u1_s (by rw [am_u1_o (by omega), n7 0 (by omega)]; exact ht.1) i8 ?_⟩
  intro K16 N17 I18 P19 hU q0 q1 q5 gk gn gp
  have i18 : ∀ a, a < 284 → I18 a = I8 a := fun a q => hU.2.2.2.1 a (by omega)
  have n17 : ∀ a, a < 284 → N17 a = N7 a := fun a q => by rw [gn a (by omega), am_u1_o (by omega)]
  have k16 : ∀ a, a < 284 → K16 a = K6 a := fun a q => by rw [gk a (by omega), am_u1_o (by omega)]
  have ht2 : GT N17 I18 := ht.cg (fun a q => by rw [n17 a (by omega), n7 a q]) (fun a q => by rw [i18 a (by omega), hL.2.2.2.1 a (by omega)])
  have ht3 : GT (sK N17) (sI I18) := ht2.cg (fun a q => by unfold sK; rw [sw_lo q]) (fun a q => by unfold sI; rw [sw_lo q])
  have hM := hL.md2 (K' := K16) (N' := N17) (I' := I18) (P' := P19) (fun a q => ⟨k16 a q, n17 a q, i18 a q, gp a q⟩)
  have g1 : GI K16 N17 I18 P19 560 WZ (fun _ _ => 0) 0 T0 0 := GI.start hM (fun a k a0 a1 => by show (if a < 284 then I a else I18 a) k = 0; rw [if_pos (by omega)]; exact h0 a k a0) (by rw [gp 4 (by omega)]; exact p0) (by rw [gp 4 (by omega)]; exact p1) (by rw [gp 5 (by omega)]; exact p5) ht2
  have g2 : GI (sK K16) (sK N17) (sI I18) (sP P19) 560 WZ (fun _ _ => 0) 0 T0 0 := GI.start hU.lv (fun a k a0 a1 => by rw [sI_in a0 (by omega)]; exact i8 _ k (by omega)) (sP_in (b := 20) (by omega) (by omega) q0 (by omega) (by omega)) (sP_in (b := 53) (by omega) (by omega) q1 (by omega) (by omega)) (fun j j0 j1 => sP_in (by omega) (by omega) (by rw [q5 j j0 j1]; congr 1; omega) (by omega) (by omega)) ht3
  exact law_loop hd (by rw [n17 3 (by omega), n7 3 (by omega)]; omega) hQ 32 0 _ _ 0 WZ (fun _ _ => 0) 0 I18 P19 (by omega) (by omega) (by omega) rfl (RI.start _) ⟨g1, g2, ht2⟩
end
