section
variable {d : Nat} {K N K0 N0 K' N' : Nat → Nat} {I I0 I' : Nat → Nat → Int} {P P0 P' : Nat → Nat → Option Nat} {z s r i j b e : Nat} {Q : am_V → am_T}
theorem LV.md (h : LV I0 284 K N I P) (hk : ∀ a, a < 284 → K' a = K a ∧ N' a = N a ∧ I' a = I a ∧ P' a = P a) (hz : ∀ a, 284 ≤ a → ¬ a = 285 → I' a = I a) : LV (fun a => if a = 285 then I' 285 else I0 a) 284 K' N' I' P' := by
  obtain ⟨⟨a1, a2, a3, a4, a5, a6, a7, a8, a9, a10, a11, a12, a13, a14, a15⟩, h1, h2, h3, h4, h5, h6⟩ := h
  have k : ∀ a, a < 284 → K' a = K a := fun a q => (hk a q).1
  have n : ∀ a, a < 284 → N' a = N a := fun a q => (hk a q).2.1
  have ii : ∀ a, a < 284 → I' a = I a := fun a q => (hk a q).2.2.1
  have p : ∀ a, a < 284 → P' a = P a := fun a q => (hk a q).2.2.2
  refine ⟨⟨by rw [k 4 (by omega)]; exact a1, by rw [p 4 (by omega)]; exact a2, by rw [p 4 (by omega)]; exact a3, by rw [p 4 (by omega)]; exact a4, by rw [p 4 (by omega)]; exact a5, by rw [k 5 (by omega)]; exact a6, by rw [n 5 (by omega)]; exact a7, by rw [k 6 (by omega)]; exact a8, by rw [p 6 (by omega)]; exact a9, by rw [k 7 (by omega)]; exact a10, by rw [n 7 (by omega)]; exact a11, by rw [k 8 (by omega)]; exact a12, by rw [p 8 (by omega)]; exact a13, by rw [k 9 (by omega)]; exact a14, by rw [n 9 (by omega)]; exact a15⟩, h1.fr (fun a q1 q2 => ⟨k a (by omega), n a (by omega)⟩) (p _ (by omega)), h2.fr (fun a q1 q2 => ⟨k a (by omega), n a (by omega)⟩) (p _ (by omega)), fun a q => ?_, by rw [ii 15 (by omega), ii 16 (by omega), ii 17 (by omega)]; exact h4, fun a q => ?_, fun s hs hlt => (h6 s hs hlt).tr (fun a q1 q2 => hk a (by have := hs.2.1; omega)) (ii 0 (by omega))⟩
  · show I' a = if a = 285 then I' 285 else I0 a
    rw [if_neg (by omega), ii a (by omega)]; exact h3 a q
  · show I' a = if a = 285 then I' 285 else I0 a
    by_cases e : a = 285
    · rw [if_pos e, e]
    · rw [if_neg e, hz a q e]; exact h5 a q
theorem law_fin {d k n : Nat} (hd : 26 ≤ d) (hQ : ∀ (K N : Nat → Nat) (I : Nat → Nat → Int) (P : Nat → Nat → Option Nat) (z : Nat), Q (am_i 1) K N I P z) (hN : N0 3 ≤ 2048) (ht : GT N0 I0) (h0 : ∀ a k, 4 ≤ a → I0 a k = 0) (hL : LV I0 284 K N I P) (p0 : P 4 0 = some 20) (p1 : P 4 1 = some 53) (p5 : ∀ j : Int, 0 ≤ j → j < 6 → P 5 j.toNat = some (86 + 33 * j.toNat)) (fn : ∀ a, a < 4 → N a = N0 a)
    (hk : ∀ a, a < 284 → K' a = K a ∧ N' a = N a ∧ I' a = I a ∧ P' a = P a) (hz : ∀ a, 284 ≤ a → ¬ a = 285 → I' a = I a) (hm : MS K' N' P') (hw : ∀ i : Int, 0 ≤ i → i < 3200 → I' 285 i.toNat = WZ i) (ho : K' 290 = 14 ∧ N' 290 = 1) (k9 : k ≤ 287) (n9 : n ≤ 32460) : L_N_law_23 d k n 3 4 284 290 0 K' N' I' P' 287 Q := by
  have i0 : ∀ a, 284 ≤ a → ¬ a = 285 → ∀ k, I' a k = 0 := fun a q1 q2 k => by rw [hz a q1 q2, hL.2.2.2.2.2.1 a q1]; exact h0 a k (by omega)
  have i4 : ∀ a, a < 4 → I' a = I0 a := fun a q => by rw [(hk a (by omega)).2.2.1]; exact hL.2.2.2.1 a (by omega)
  have n4 : ∀ a, a < 4 → N' a = N0 a := fun a q => by rw [(hk a (by omega)).2.1]; exact fn a q
  have ht2 : GT N' I' := by
    obtain ⟨t0, t1, t2, t3, t4⟩ := ht
    refine ⟨by rw [n4 0 (by omega)]; exact t0, by rw [n4 1 (by omega)]; exact t1, by rw [n4 2 (by omega)]; exact t2, by rw [i4 0 (by omega)]; exact t3, ?_⟩
    rw [i4 1 (by omega), i4 2 (by omega)]; exact t4
  have hL2 := hL.md hk hz
  have hg : GI K' N' I' P' 287 WZ (fun _ _ => 0) 0 (fun _ => 0) 0 := GI.start hL2 (fun a k q1 q2 => by show (if a = 285 then I' 285 else I0 a) k = 0; rw [if_neg (by omega)]; exact h0 a k q1) (by rw [(hk 4 (by omega)).2.2.2]; exact p0) (by rw [(hk 4 (by omega)).2.2.2]; exact p1) (by rw [(hk 5 (by omega)).2.2.2]; exact p5) ht2
  refine law_loop hd hQ 513 0 k n 0 _ _ _ _ _ WZ (fun _ _ => 0) 0 (fun _ => 0) 0 (by omega) rfl (by omega) (by omega) (by rw [n4 3 (by omega)]; exact hN) ⟨hg, hm, ⟨hw, i0 284 (by omega) (by omega) 5, i0 284 (by omega) (by omega) 6, fun j i q1 q2 => by omega, fun k q1 q2 => i0 288 (by omega) (by omega) _, ⟨by omega, by omega⟩, by omega, by omega⟩, ht2, ho.1, ho.2⟩
theorem WZ.at {i : Int} (h0 : 0 ≤ i) : WZ i = if i.toNat = 11 then 1 else if i.toNat = 106 then 120 else if i.toNat = 6 then 5 else if i.toNat = 5 then 2000 else if i.toNat = 4 then 40 else if i.toNat = 3 then 50 else if i.toNat = 2 then 20 else if i.toNat = 1 then 300 else 0 := by
  obtain ⟨n, rfl⟩ := Int.eq_ofNat_of_zero_le h0
  unfold WZ
  simp only [Int.toNat_natCast]
  repeat' split
  all_goals omega
/-- THE LAW from its entry: 0, 1, 2 the sorter's rows of settings, 3 the script -/
theorem law_init (hd : 26 ≤ d) (hQ : ∀ (K N : Nat → Nat) (I : Nat → Nat → Int) (P : Nat → Nat → Option Nat) (z : Nat), Q (am_i 1) K N I P z) (hN : N 3 ≤ 2048) (ht : GT N I) (h0 : ∀ a k, 4 ≤ a → I a k = 0) : am_E d m_L_law 0 0 0 [some (am_r 3), none, none, none, none, none, none, none, none] [] K N I P 0 Q am_nx := by
  refine wf_N_law (by omega) ⟨by omega, ?_⟩
  rintro K1 N2 b3 z4 rfl rfl rfl rfl
  refine ⟨by omega, cu_sorter (by omega) am_u1_s (by rw [am_u1_o (by omega)]; exact ht.1) h0 ?_⟩
  intro K6 N7 I8 P9 hL p0 p1 p5 fk fn
  refine ⟨by omega, ?_⟩
  rintro K11 N12 b13 z14 rfl rfl rfl rfl
  refine ⟨by omega, wf_X8_init (by omega) ⟨by omega, ?_⟩⟩
  rintro K1 N2 b3 z4 rfl rfl rfl rfl
  refine ⟨by simp [am_u1], ?_⟩
  rintro P7 rfl
  refine ⟨by omega, ?_⟩
  rintro K8 N9 b10 z11 rfl rfl rfl rfl
  refine ⟨by simp [am_u1], ?_⟩
  rintro P14 rfl
  refine ⟨by omega, ?_⟩
  rintro K15 N16 b17 z18 rfl rfl rfl rfl
  refine ⟨by simp [am_u1], ?_⟩
  rintro P21 rfl
  refine ⟨by omega, ?_⟩
  rintro K22 N23 b24 z25 rfl rfl rfl rfl
  refine ⟨by simp [am_u1], ?_⟩
  rintro P28 rfl
  refine ⟨by omega, ?_⟩
  rintro K29 N30 b31 z32 rfl rfl rfl rfl
  refine ⟨by simp [am_u1], ?_⟩
  rintro P35 rfl
  refine ⟨285, by simp [am_p2], by simp [am_u1], by simp [am_u1], ?_⟩
  rintro I38 rfl
  refine ⟨by simp [am_u1], ?_⟩
  rintro I39 rfl
  refine ⟨by simp [am_u1], ?_⟩
  rintro I40 rfl
  refine ⟨by simp [am_u1], ?_⟩
  rintro I41 rfl
  refine ⟨by simp [am_u1], ?_⟩
  rintro I42 rfl
  refine ⟨by simp [am_u1], ?_⟩
  rintro I43 rfl
  refine ⟨by simp [am_u1], ?_⟩
  rintro I44 rfl
  refine ⟨by simp [am_u1], ?_⟩
  rintro I45 rfl
  refine ⟨by omega, ?_⟩
  refine ⟨by omega, ?_⟩
  rintro K21 N22 b23 z24 rfl rfl rfl rfl
  simp only [Nat.reduceAdd, Nat.zero_add]
  refine law_fin hd hQ hN ht h0 hL p0 p1 p5 (fun a q => by rw [fn a (by omega), am_u1_o (by omega)]) (fun a q => ⟨?_, ?_, ?_, ?_⟩) (fun a q1 q2 => ?_) ?_ (fun i q1 q2 => ?_) ?_ (by omega) (by omega)
  · simp (disch := omega) only [am_u1_o]
  · simp (disch := omega) only [am_u1_o]
  · simp (disch := omega) only [am_u2_ne]
  · simp (disch := omega) only [am_p2_ne]
  · simp (disch := omega) only [am_u2_ne]
  · simp [MS, am_u1, am_p2]
  · rw [WZ.at q1, ← h0 285 i.toNat (by omega), ← hL.2.2.2.2.2.1 285 (by omega)]
    simp [am_u2]
  · simp [am_u1]
end
