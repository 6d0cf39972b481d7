theorem am_cp_o {I : Nat → Nat → Int} {a b sp dp n x : Nat} (h : ¬ x = b) : am_cp I a b sp dp n x = I x := by
  funext j
  unfold am_cp
  rw [if_neg (fun q => h q.1)]
theorem am_cp_s {I : Nat → Nat → Int} {a b n j : Nat} (h : j < n) : am_cp I a b 0 0 n b j = I a j := by
  unfold am_cp
  rw [if_pos ⟨rfl, by omega, by omega⟩]
  congr 1
  omega
section
variable {d : Nat} {K N : Nat → Nat} {I I' : Nat → Nat → Int} {P P' : Nat → Nat → Option Nat} {z : Nat} {Q : am_V → am_T} {W W' W0 : Int → Int} {s s2 : Nat} {m m0 : Int} {L : Int → Int} {π π2 : Int → Nat}
theorem cl_copy {a b : Nat} (ka : K a = 0) (kb : K b = 0) (ne : ¬ a = b) (h : ∀ I', (∀ x, ¬ x = b → I' x = I x) → (∀ k, k < 5 → I' b k = I a k) → Q am_nl K N I' P z) : am_C d m_X0_copyFrom [am_r b, am_r a] K N I P z Q am_nx := by
  refine wf_X0_copyFrom ⟨ka, kb, ?_⟩
  rintro I3 rfl I4 rfl I5 rfl I6 rfl I7 rfl
  simp (disch := omega) only [am_u2_o]
  refine h _ (fun x hx => by rw [am_u2_ne hx, am_u2_ne hx, am_u2_ne hx, am_u2_ne hx, am_u2_ne hx]) (fun k hk => ?_)
  rcases (show k = 0 ∨ k = 1 ∨ k = 2 ∨ k = 3 ∨ k = 4 by omega) with q | q | q | q | q <;> subst q <;> simp (disch := omega) only [am_u2_o, am_u2_s]
theorem cp_copy {a b : Nat} (ka : K a = 2) (kb : K b = 2) (ne : ¬ a = b) (h5 : I a 5 = 0 ∨ I a 5 = 1) (h6 : I a 6 = 0 ∨ I a 6 = 1) (h : ∀ I', (∀ x, ¬ x = b → I' x = I x) → (∀ k, k < 12 → I' b k = I a k) → Q am_nl K N I' P z) : am_C d m_X2_copyFrom [am_r b, am_r a] K N I P z Q am_nx := by
  refine wf_X2_copyFrom ⟨ka, kb, ?_⟩
  rintro I3 rfl I4 rfl I5 rfl I6 rfl I7 rfl
  simp (disch := omega) only [am_u2_o]
  refine ⟨h5, ?_⟩
  rintro I8 rfl
  simp (disch := omega) only [am_u2_o]
  refine ⟨h6, ?_⟩
  rintro I9 rfl I10 rfl I11 rfl I12 rfl I13 rfl I14 rfl
  simp (disch := omega) only [am_u2_o]
  refine h _ (fun x hx => by rw [am_u2_ne hx, am_u2_ne hx, am_u2_ne hx, am_u2_ne hx, am_u2_ne hx, am_u2_ne hx, am_u2_ne hx, am_u2_ne hx, am_u2_ne hx, am_u2_ne hx, am_u2_ne hx, am_u2_ne hx]) (fun k hk => ?_)
  rcases (show k = 0 ∨ k = 1 ∨ k = 2 ∨ k = 3 ∨ k = 4 ∨ k = 5 ∨ k = 6 ∨ k = 7 ∨ k = 8 ∨ k = 9 ∨ k = 10 ∨ k = 11 by omega) with q | q | q | q | q | q | q | q | q | q | q | q <;> subst q <;> simp (disch := omega) only [am_u2_o, am_u2_s]
theorem cr_copy (hd : 2 ≤ d) (hk : SK K N s) (hp : SP P s) (hk2 : SK K N s2) (hp2 : SP P s2) (hne : s + 33 ≤ s2 ∨ s2 + 33 ≤ s) (h : ∀ I', (∀ x, ¬ (s + 3 ≤ x ∧ x < s + 6) → I' x = I x) → I' (s + 3) 2 = I (s2 + 3) 2 → (∀ k, k < 30 → I' (s + 4) k = I (s2 + 4) k ∧ I' (s + 5) k = I (s2 + 5) k) → Q am_nl K N I' P z) : am_C d m_X3_copyFrom [am_r (s + 3), am_r (s2 + 3)] K N I P z Q am_nx := by
  obtain ⟨s0, s1, s2', s3, s4, s5, s6, s7, s8, s9, s10, s11, s12, s13⟩ := hk
  obtain ⟨t0, t1, t2, t3, t4, t5, t6⟩ := hp
  obtain ⟨u0, u1, u2, u3, u4, u5, u6, u7, u8, u9, u10, u11, u12, u13⟩ := hk2
  obtain ⟨v0, v1, v2, v3, v4, v5, v6⟩ := hp2
  refine wf_X3_copyFrom hd ⟨u5, s2 + 4, v4, s5, s + 4, t4, u6, s6, by omega, ?_⟩
  rintro I7 rfl
  refine ⟨s2 + 5, v5, s + 5, t5, u8, s8, by omega, ?_⟩
  rintro I12 rfl I13 rfl
  have z0 : Int.toNat 0 = 0 := rfl
  have z30 : Int.toNat 30 = 30 := rfl
  rw [z0, z30]
  refine h _ (fun x hx => ?_) ?_ (fun k hk => ⟨?_, ?_⟩)
  · rw [am_u2_ne (by omega), am_cp_o (by omega), am_cp_o (by omega)]
  · rw [am_u2_s, am_cp_o (by omega), am_cp_o (by omega)]
  · rw [am_u2_o (by omega), am_cp_o (by omega), am_cp_s hk]
  · rw [am_u2_o (by omega), am_cp_s hk, am_cp_o (by omega)]
theorem cs_copy (hd : 4 ≤ d) (hk : SK K N s) (hp : SP P s) (hi : SI P s π) (hS : ST K N I P s2 W m L π2) (hB : SBo I s2) (hne : s + 33 ≤ s2 ∨ s2 + 33 ≤ s) {r : Nat} (hr : P s2 4 = some r) (h : ∀ I' P', (∀ x, ¬ (s ≤ x ∧ x < s + 33) → I' x = I x) → P' = am_p2 P s 4 (some r) → SBo I' s → ST K N I' P' s W m L π → Q am_nl K N I' P' z) : am_C d m_X6_copyFrom [am_r s, am_r s2] K N I P z Q am_nx := by
  have hk2 := hS.k
  have hp2 := hS.p
  have hi2 := hS.i
  obtain ⟨s0, s1, s2', s3, s4, s5, s6, s7, s8, s9, s10, s11, s12, s13⟩ := id hk
  obtain ⟨t0, t1, t2, t3, t4, t5, t6⟩ := id hp
  obtain ⟨u0, u1, u2, u3, u4, u5, u6, u7, u8, u9, u10, u11, u12, u13⟩ := id hk2
  obtain ⟨v0, v1, v2, v3, v4, v5, v6⟩ := id hp2
  have hm := hS.m2
  have key2 : ∀ (n : Nat) (j : Int) (I' : Nat → Nat → Int), 0 ≤ j → j + n = 20 → (∀ x, ¬ (s ≤ x ∧ x < s + 33) → I' x = I x) → (∀ k, k < 6 → I' (s + 1) k = I (s2 + 1) k) → I' s 2 = I s2 2 → I' s 6 = I s2 6 → (∀ i : Nat, i < 6 → ∀ k, k < 5 → I' (s + 7 + i) k = I (s2 + 7 + i) k) → I' (s + 3) 2 = I (s2 + 3) 2 → (∀ k, k < 30 → I' (s + 4) k = I (s2 + 4) k ∧ I' (s + 5) k = I (s2 + 5) k) → (∀ i : Int, 0 ≤ i → i < j → ∀ k, k < 12 → I' (π i) k = I (π2 i) k) → L_X6_copyFrom_81 d s s2 j K N I' (am_p2 P s 4 (some r)) z Q := by
    intro n
    induction n with
    | zero =>
      intro j I' j0 j1 f0 f1 f2 f3 f4 f5 f6 f7
      refine wf_X6_copyFrom_81 (by omega) ⟨fun _ => ⟨u0, s0, ?_⟩, fun q => absurd q (by omega)⟩
      rintro I3 rfl I4 rfl I5 rfl
      have f0s := f0 s2 (by omega)
      rw [am_u2_o (I := I') (by omega), am_u2_o (I := am_u2 I' s 7 _) (by omega), am_u2_o (I := I') (by omega), f0s]
      obtain ⟨c0, c1, c2, c3, c4, c5, c6, c7⟩ := hS.c
      have g : ∀ a k, ¬ (a = s ∧ 7 ≤ k ∧ k ≤ 9) → am_u2 (am_u2 (am_u2 I' s 7 (I s2 7)) s 8 (I s2 8)) s 9 (I s2 9) a k = I' a k := fun a k hak => by rw [am_u2_o (by omega), am_u2_o (by omega), am_u2_o (by omega)]
      have pt : ∀ i : Int, 0 ≤ i → i < 20 → ∀ k, k < 12 → am_u2 (am_u2 (am_u2 I' s 7 (I s2 7)) s 8 (I s2 8)) s 9 (I s2 9) (π i) k = I (π2 i) k := fun i a b k hk => by
        have bi := hi.bd a b
        rw [g _ _ (by omega)]; exact f7 i a (by omega) k hk
      have pp : ∀ a k, ¬ (a = s ∧ k = 4) → am_p2 P s 4 (some r) a k = P a k := fun a k hak => by unfold am_p2; rw [if_neg hak]
      have hSt : ST K N (am_u2 (am_u2 (am_u2 I' s 7 (I s2 7)) s 8 (I s2 8)) s 9 (I s2 9)) (am_p2 P s 4 (some r)) s W m L π := by
        refine ⟨hk, ⟨?_, ?_, ?_, ?_, ?_, ?_, fun i a b => ?_⟩, ⟨fun i a b => ⟨?_, hi.bd a b⟩, hi.2⟩, ⟨fun k a b => ?_, ?_, fun i k a b e f => ?_, ?_, fun k a b => ⟨?_, ?_⟩, ?_, ?_, ?_⟩, ?_, hS.b, hm.2, fun j a b => ?_⟩
        · rw [pp _ _ (by omega)]; exact t0
        · rw [pp _ _ (by omega)]; exact t1
        · rw [pp _ _ (by omega)]; exact t2
        · rw [pp _ _ (by omega)]; exact t3
        · rw [pp _ _ (by omega)]; exact t4
        · rw [pp _ _ (by omega)]; exact t5
        · rw [pp _ _ (by omega)]; exact t6 i a b
        · rw [pp _ _ (by omega)]; exact hi.pl a b
        · rw [g _ _ (by omega), f1 _ (by omega)]; exact c0 k a b
        · rw [g _ _ (by omega), f2]; exact c1
        · rw [g _ _ (by omega), f4 i.toNat (by omega) k.toNat (by omega)]; exact c2 i k a b e f
        · rw [g _ _ (by omega), f5]; exact c3
        · rw [g _ _ (by omega), (f6 _ (by omega)).1]; exact (c4 k a b).1
        · rw [g _ _ (by omega), (f6 _ (by omega)).2]; exact (c4 k a b).2
        · rw [am_u2_o (by omega), am_u2_o (by omega), am_u2_s]; exact c5
        · rw [am_u2_o (by omega), am_u2_s]; exact c6
        · rw [am_u2_s]; exact c7
        · rw [g _ _ (by omega), f3]; exact hS.ob
        · have := hS.t j a b
          unfold PC at this ⊢
          have e := pt j a (by omega)
          rw [e 0 (by omega), e 1 (by omega), e 2 (by omega), e 3 (by omega), e 4 (by omega), e 5 (by omega), e 6 (by omega), e 7 (by omega), e 8 (by omega), e 9 (by omega), e 10 (by omega)]
          exact this
      refine h _ _ (fun x hx => ?_) rfl ?_ hSt
      · rw [am_u2_ne (by omega), am_u2_ne (by omega), am_u2_ne (by omega)]; exact f0 x hx
      · -- every part object of the State stands at some place
        intro a a1 a2
        have hsur : ∃ i : Int, 0 ≤ i ∧ i < 20 ∧ π i = a := hi.2.2 a a1 a2
        obtain ⟨i, i0, i1, i2⟩ := hsur
        have e := pt i i0 i1
        rw [← i2, e 5 (by omega), e 6 (by omega)]
        exact hB _ (hi2.bd i0 i1).1 (hi2.bd i0 i1).2
    | succ n ih =>
      intro j I' j0 j1 f0 f1 f2 f3 f4 f5 f6 f7
      have bj := hi.bd j0 (show j < 20 by omega)
      have bj2 := hi2.bd j0 (show j < 20 by omega)
      have pp : ∀ a k, ¬ (a = s ∧ k = 4) → am_p2 P s 4 (some r) a k = P a k := fun a k hak => by unfold am_p2; rw [if_neg hak]
      have e0 := f0 (π2 j) (by omega)
      have hb := hB _ bj2.1 bj2.2
      refine wf_X6_copyFrom_81 (by omega) ⟨fun q => absurd q (by omega), fun _ => ⟨s0, s + 6, by rw [pp _ _ (by omega)]; exact t3, s10, by omega, π j, by rw [pp _ _ (by omega)]; exact hi.pl j0 (by omega), u0, s2 + 6, by rw [pp _ _ (by omega)]; exact v3, u10, by omega, π2 j, by rw [pp _ _ (by omega)]; exact hi2.pl j0 (by omega), s13 _ bj.1 bj.2, ?_⟩⟩
      refine cp_copy (u13 _ bj2.1 bj2.2) (s13 _ bj.1 bj.2) (by omega) (by rw [e0]; exact hb.1) (by rw [e0]; exact hb.2) ?_
      intro I2 g0 g1
      rw [am_wE (by omega) (by omega)]
      refine ih (j + 1) I2 (by omega) (by omega) (fun x hx => (g0 x (by omega)).trans (f0 x hx)) (fun k hk => by rw [g0 _ (by omega)]; exact f1 k hk) (by rw [g0 _ (by omega)]; exact f2) (by rw [g0 _ (by omega)]; exact f3) (fun i hi k hk => by rw [g0 _ (by omega)]; exact f4 i hi k hk) (by rw [g0 _ (by omega)]; exact f5) (fun k hk => by rw [g0 _ (by omega), g0 _ (by omega)]; exact f6 k hk) (fun i a b k hk => ?_)
      rcases (show i < j ∨ i = j by omega) with q | q
      · rw [g0 _ (fun e => by have := hi.2.1 i j a (by omega) j0 (by omega) e; omega)]
        exact f7 i a q k hk
      · subst q
        rw [g1 k hk, e0]
  have key1 : ∀ (n : Nat) (j : Int) (I' : Nat → Nat → Int), 0 ≤ j → j + n = 6 → (∀ x, ¬ (s ≤ x ∧ x < s + 33) → I' x = I x) → (∀ k, k < 6 → I' (s + 1) k = I (s2 + 1) k) → I' s 2 = I s2 2 → (∀ i : Nat, (i : Int) < j → ∀ k, k < 5 → I' (s + 7 + i) k = I (s2 + 7 + i) k) → L_X6_copyFrom_25 d s s2 j K N I' P z Q := by
    intro n
    induction n with
    | zero =>
      intro j I' j0 j1 f0 f1 f2 f4
      refine wf_X6_copyFrom_25 (by omega) ⟨fun _ => ⟨s0, s + 3, t2, u0, s2 + 3, v2, s5, cr_copy (by omega) hk hp hk2 hp2 hne ?_⟩, fun q => absurd q (by omega)⟩
      intro I2 g0 g1 g2
      refine ⟨u0, r, hr, s0, ?_⟩
      rintro P14 rfl I15 rfl
      have e3 : ∀ x, ¬ (s + 3 ≤ x ∧ x < s + 6) → ¬ x = s → am_u2 I2 s 6 (I2 s2 6) x = I' x := fun x hx hx2 => (am_u2_ne hx2).trans (g0 x hx)
      have e6 : I2 s2 6 = I s2 6 := by rw [g0 s2 (by omega), f0 s2 (by omega)]
      refine key2 20 0 _ (by omega) (by omega) (fun x hx => by rw [e3 x (by omega) (by omega)]; exact f0 x hx) (fun k hk => by rw [e3 _ (by omega) (by omega)]; exact f1 k hk) ?_ (by rw [am_u2_s]; exact e6) (fun i hi k hk => by rw [e3 _ (by omega) (by omega)]; exact f4 i (by omega) k hk) ?_ (fun k hk => ⟨?_, ?_⟩) (fun i a b => absurd b (by omega))
      · rw [am_u2_o (by omega), g0 s (by omega)]; exact f2
      · rw [am_u2_o (by omega), g1, f0 _ (by omega)]
      · rw [am_u2_o (by omega), (g2 k hk).1, f0 _ (by omega)]
      · rw [am_u2_o (by omega), (g2 k hk).2, f0 _ (by omega)]
    | succ n ih =>
      intro j I' j0 j1 f0 f1 f2 f4
      refine wf_X6_copyFrom_25 (by omega) ⟨fun q => absurd q (by omega), fun _ => ⟨s0, s + 2, t1, s3, by omega, s + 7 + j.toNat, t6 j j0 (by omega), u0, s2 + 2, v1, u3, by omega, s2 + 7 + j.toNat, v6 j j0 (by omega), s12 _ (by omega) (by omega), ?_⟩⟩
      refine cl_copy (u12 _ (by omega) (by omega)) (s12 _ (by omega) (by omega)) (by omega) ?_
      intro I2 g0 g1
      rw [am_wE (by omega) (by omega)]
      refine ih (j + 1) I2 (by omega) (by omega) (fun x hx => (g0 x (by omega)).trans (f0 x hx)) (fun k hk => by rw [g0 _ (by omega)]; exact f1 k hk) (by rw [g0 _ (by omega)]; exact f2) (fun i hi k hk => ?_)
      rcases (show (i : Int) < j ∨ i = j.toNat by omega) with q | q
      · rw [g0 _ (by omega)]; exact f4 i q k hk
      · subst q
        rw [g1 k hk, f0 _ (by omega)]
  refine wf_X6_copyFrom (by omega) ⟨u0, s2 + 1, v0, s0, s + 1, t0, u1, s1, by omega, ?_⟩
  rintro I7 rfl I8 rfl
  have z0 : Int.toNat 0 = 0 := rfl
  have z6 : Int.toNat 6 = 6 := rfl
  rw [z0, z6]
  refine key1 6 0 _ (by omega) (by omega) (fun x hx => by rw [am_u2_ne (by omega), am_cp_o (by omega)]) (fun k hk => by rw [am_u2_o (by omega), am_cp_s hk]) (by rw [am_u2_s, am_cp_o (by omega)]) (fun i hi => absurd hi (by omega))
end
