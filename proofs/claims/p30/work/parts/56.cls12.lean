section
variable {d : Nat} {K N : Nat → Nat} {I I' : Nat → Nat → Int} {P P' : Nat → Nat → Option Nat} {z : Nat} {Q : am_V → am_T} {W W' W0 : Int → Int} {s s2 : Nat} {m m0 : Int} {L : Int → Int} {π π2 : Int → Nat}
theorem SC.rt (h : SC I s W) (hI : ∀ a k, s ≤ a → a < s + 13 → ¬ (s + 3 ≤ a ∧ a < s + 6) → ¬ (a = s ∧ (k = 6 ∨ 10 ≤ k)) → I' a k = I a k) (h3 : I' (s + 3) 2 = W' 8) (h4 : ∀ k : Int, 0 ≤ k → k < 30 → I' (s + 4) k.toNat = W' (46 + k) ∧ I' (s + 5) k.toNat = W' (76 + k)) (hW : ∀ i : Int, 0 ≤ i → i < 46 → ¬ i = 8 → W' i = W i) : SC I' s W' := by
  obtain ⟨c0, c1, c2, c3, c4, c5, c6, c7⟩ := h
  refine ⟨fun k a b => ?_, ?_, fun i k a b e f => ?_, h3, h4, ?_, ?_, ?_⟩
  · rw [hI _ _ (by omega) (by omega) (by omega) (by omega), hW _ (by omega) (by omega) (by omega)]; exact c0 k a b
  · rw [hI _ _ (by omega) (by omega) (by omega) (by omega), hW _ (by omega) (by omega) (by omega)]; exact c1
  · rw [hI _ _ (by omega) (by omega) (by omega) (by omega), hW _ (by omega) (by omega) (by omega)]; exact c2 i k a b e f
  · rw [hI _ _ (by omega) (by omega) (by omega) (by omega), hW _ (by omega) (by omega) (by omega)]; exact c5
  · rw [hI _ _ (by omega) (by omega) (by omega) (by omega), hW _ (by omega) (by omega) (by omega)]; exact c6
  · rw [hI _ _ (by omega) (by omega) (by omega) (by omega), hW _ (by omega) (by omega) (by omega)]; exact c7
/-- a route is put -/
theorem cr_put (hd : 1 ≤ d) (hk : SK K N s) (hp : SP P s) (hc : SC I s W) (h8 : 0 ≤ W 8 ∧ W 8 ≤ 30) {x l : Int}
    (h1 : v_has W x → ∀ I', (∀ a, ¬ (s + 3 ≤ a ∧ a < s + 6) → I' a = I a) → SC I' s (v_u (v_u W (46 + v_place W x) x) (76 + v_place W x) l) → Q am_nl K N I' P z)
    (h2 : ¬ v_has W x → W 8 < 30 → ∀ I', (∀ a, ¬ (s + 3 ≤ a ∧ a < s + 6) → I' a = I a) → SC I' s (v_rt W (v_place W x) x l) → Q am_nl K N I' P z) (h3 : ¬ v_has W x → W 8 < 30) : am_C d m_X3_put [am_r (s + 3), am_i x, am_i l] K N I P z Q am_nx := by
  have b := v_place_bd h8.1 x
  refine wf_X3_put hd ⟨hk.2.2.2.2.2.1, cr_placeFor hk hp hc h8 ?_⟩
  obtain ⟨s0, s1, s2, s3, s4, s5, s6, s7, s8, s9, s10, s11, s12, s13⟩ := hk
  obtain ⟨t0, t1, t2, t3, t4, t5, t6⟩ := hp
  obtain ⟨c0, c1, c2, c3, c4, c5⟩ := id hc
  simp only [am_iv]
  have hh : v_has W x ↔ (v_place W x < W 8 ∧ W (46 + v_place W x) = x) := Iff.rfl
  generalize hpl : v_place W x = k at *
  have key : ¬ v_has W x → W 8 < 30 → ∀ (n : Nat) (j : Int) (I' : Nat → Nat → Int), k ≤ j → j = k + n → j ≤ W 8 → (∀ a, ¬ (s + 4 ≤ a ∧ a < s + 6) → I' a = I a) → (∀ i : Int, 0 ≤ i → i < 30 → I' (s + 4) i.toNat = v_ins W j (46 + i) ∧ I' (s + 5) i.toNat = v_ins W j (76 + i)) → L_X3_put_57 d (s + 3) x l k j K N I' P z Q := by
    intro hnh h30 n
    induction n with
    | zero =>
      intro j I' j0 j1 j2 f0 f1
      have hjk : j = k := by omega
      subst hjk
      refine wf_X3_put_57 ⟨fun _ => ⟨s5, ?_⟩, fun q => absurd (Int.le_refl _) q⟩
      rintro I2 rfl
      refine ⟨s + 4, t4, s6, by omega, ?_⟩
      rintro I5 rfl
      refine ⟨s + 5, t5, s8, by omega, ?_⟩
      rintro I8 rfl
      have e3 : I' (s + 3) 2 = W 8 := by rw [f0 _ (by omega)]; exact c3
      rw [e3, am_wE (by omega) (by omega)]
      refine h2 hnh h30 _ (fun a ha => by rw [am_u2_ne (by omega), am_u2_ne (by omega), am_u2_ne (by omega)]; exact f0 a (by omega)) ?_
      unfold v_rt
      refine hc.rt (fun a k x y e f => by rw [am_u2_o (by omega), am_u2_o (by omega), am_u2_o (by omega), f0 a (by omega)]) ?_ (fun i i0 i1 => ⟨?_, ?_⟩) (fun i i0 i1 i2 => ?_)
      · rw [am_u2_o (by omega), am_u2_o (by omega), am_u2_s, v_un (by omega), v_un (by omega), v_us]
      · by_cases q : i = j
        · subst q
          rw [am_u2_o (by omega), am_u2_s, v_un (by omega), v_us]
        · rw [am_u2_o (by omega), am_u2_o (by omega), am_u2_o (by omega), (f1 i i0 i1).1, v_un (by omega), v_un (by omega), v_un (by omega)]
      · by_cases q : i = j
        · subst q
          rw [am_u2_s, v_us]
        · rw [am_u2_o (by omega), am_u2_o (by omega), am_u2_o (by omega), (f1 i i0 i1).2, v_un (by omega), v_un (by omega), v_un (by omega)]
      · rw [v_un (by omega), v_un (by omega), v_un (by omega)]
        unfold v_ins
        rw [if_neg (by omega)]
    | succ n ih =>
      intro j I' j0 j1 j2 f0 f1
      have ea := (f1 (j - 1) (by omega) (by omega)).1
      have eb := (f1 (j - 1) (by omega) (by omega)).2
      refine wf_X3_put_57 ⟨fun q => absurd q (by omega), fun _ => ⟨s5, s + 4, t4, s6, ?_, by omega, ?_⟩⟩
      · rw [am_wE (by omega) (by omega)]; omega
      rintro I12 rfl
      refine ⟨s + 5, t5, s8, ?_, by omega, ?_⟩
      · rw [am_wE (by omega) (by omega)]; omega
      rintro I15 rfl
      rw [am_wE (x := j - 1) (by omega) (by omega), am_wE (x := j + -1) (by omega) (by omega), show j + -1 = j - 1 by omega, am_u2_o (I := I') (by omega), ea, eb]
      refine ih (j - 1) _ (by omega) (by omega) (by omega) (fun a ha => by rw [am_u2_ne (by omega), am_u2_ne (by omega)]; exact f0 a ha) (fun i i0 i1 => ⟨?_, ?_⟩)
      · by_cases q : i = j
        · subst q
          rw [am_u2_o (by omega), am_u2_s]
          unfold v_ins
          rw [if_neg (by omega), if_pos (by omega)]
          congr 1; omega
        · rw [am_u2_o (by omega), am_u2_o (by omega), (f1 i i0 i1).1]
          unfold v_ins
          by_cases q2 : (46 + j < 46 + i ∧ 46 + i ≤ 46 + W 8) ∨ (76 + j < 46 + i ∧ 46 + i ≤ 76 + W 8)
          · rw [if_pos q2, if_pos (by omega)]
          · rw [if_neg q2, if_neg (by omega)]
      · by_cases q : i = j
        · subst q
          rw [am_u2_s]
          unfold v_ins
          rw [if_neg (by omega), if_pos (by omega)]
          congr 1; omega
        · rw [am_u2_o (by omega), am_u2_o (by omega), (f1 i i0 i1).2]
          unfold v_ins
          by_cases q2 : (46 + j < 76 + i ∧ 76 + i ≤ 46 + W 8) ∨ (76 + j < 76 + i ∧ 76 + i ≤ 76 + W 8)
          · rw [if_pos q2, if_pos (by omega)]
          · rw [if_neg q2, if_neg (by omega)]
  have go : ¬ v_has W x → L_X3_put_57 d (s + 3) x l k (I (s + 3) 2) K N I P z Q := by
    intro hnh
    rw [c3]
    have h30 := h3 hnh
    refine key hnh h30 (W 8 - k).toNat (W 8) I (by omega) (by omega) (by omega) (fun _ _ => rfl) (fun i i0 i1 => ?_)
    unfold v_ins
    rw [if_neg (by omega), if_neg (by omega)]
    exact c4 i i0 i1
  refine ⟨s5, fun q => ⟨fun _ => go (fun r => absurd (hh.mp r).1 (by omega)), fun r => ?_⟩, fun q => ⟨s + 4, t4, s6, by omega, fun r => ?_, fun r => ⟨fun _ => ?_, fun r2 => ?_⟩⟩⟩
  · have := h3 (fun r2 => absurd (hh.mp r2).1 (by omega))
    omega
  · rw [(c4 k b.1 (by omega)).1] at r
    refine ⟨by omega, ?_⟩
    rintro I11 rfl
    refine ⟨s + 5, t5, s8, by omega, ?_⟩
    rintro I14 rfl
    refine h1 (hh.mpr ⟨by omega, r⟩) _ (fun a ha => by rw [am_u2_ne (by omega), am_u2_ne (by omega)]) ?_
    refine hc.rt (fun a k x y e f => by rw [am_u2_o (by omega), am_u2_o (by omega)]) ?_ (fun i i0 i1 => ⟨?_, ?_⟩) (fun i i0 i1 i2 => ?_)
    · rw [am_u2_o (by omega), am_u2_o (by omega), v_un (by omega), v_un (by omega)]; exact c3
    · by_cases q : i = k
      · subst q
        rw [am_u2_o (by omega), am_u2_s, v_un (by omega), v_us]
      · rw [am_u2_o (by omega), am_u2_o (by omega), v_un (by omega), v_un (by omega)]; exact (c4 i i0 i1).1
    · by_cases q : i = k
      · subst q
        rw [am_u2_s, v_us]
      · rw [am_u2_o (by omega), am_u2_o (by omega), v_un (by omega), v_un (by omega)]; exact (c4 i i0 i1).2
    · rw [v_un (by omega), v_un (by omega)]
  · exact go (fun r3 => r (by rw [(c4 k b.1 (by omega)).1]; exact (hh.mp r3).2))
  · have := h3 (fun r3 => r (by rw [(c4 k b.1 (by omega)).1]; exact (hh.mp r3).2))
    omega
theorem cr_drop (hd : 1 ≤ d) (hk : SK K N s) (hp : SP P s) (hc : SC I s W) (h8 : 0 ≤ W 8 ∧ W 8 ≤ 30) {x : Int} (hh : v_has W x) (h : ∀ I', (∀ a, ¬ (s + 3 ≤ a ∧ a < s + 6) → I' a = I a) → SC I' s (v_del W (v_place W x) (W 8 - 1)) → Q am_nl K N I' P z) : am_C d m_X3_drop [am_r (s + 3), am_i x] K N I P z Q am_nx := by
  have b := v_place_bd h8.1 x
  refine wf_X3_drop hd ⟨hk.2.2.2.2.2.1, cr_placeFor hk hp hc h8 ?_⟩
  obtain ⟨s0, s1, s2, s3, s4, s5, s6, s7, s8, s9, s10, s11, s12, s13⟩ := hk
  obtain ⟨t0, t1, t2, t3, t4, t5, t6⟩ := hp
  obtain ⟨c0, c1, c2, c3, c4, c5⟩ := id hc
  simp only [am_iv]
  have hh : v_place W x < W 8 ∧ W (46 + v_place W x) = x := hh
  generalize hpl : v_place W x = k at *
  have key : ∀ (n : Nat) (j : Int) (I' : Nat → Nat → Int), k ≤ j → j + n = W 8 - 1 → (∀ a, ¬ (s + 3 ≤ a ∧ a < s + 6) → I' a = I a) → I' (s + 3) 2 = W 8 - 1 → (∀ i : Int, 0 ≤ i → i < 30 → I' (s + 4) i.toNat = v_del W k j (46 + i) ∧ I' (s + 5) i.toNat = v_del W k j (76 + i)) → L_X3_drop_37 d (s + 3) j K N I' P z Q := by
    intro n
    induction n with
    | zero =>
      intro j I' j0 j1 f0 f2 f1
      refine wf_X3_drop_37 ⟨s5, fun _ => h I' f0 ?_, fun q => absurd f2 (by omega)⟩
      have hj : j = W 8 - 1 := by omega
      rw [hj] at f1
      refine hc.rt (fun a k x y e f => by rw [f0 a (by omega)]) ?_ f1 (fun i i0 i1 i2 => ?_)
      · rw [f2]; unfold v_del; rw [if_pos rfl]
      · unfold v_del; rw [if_neg i2, if_neg (by omega)]
    | succ n ih =>
      intro j I' j0 j1 f0 f2 f1
      have ea := (f1 (j + 1) (by omega) (by omega)).1
      have eb := (f1 (j + 1) (by omega) (by omega)).2
      refine wf_X3_drop_37 ⟨s5, fun q => absurd f2 (by omega), fun _ => ⟨s + 4, t4, s6, ?_, by omega, ?_⟩⟩
      · rw [am_wE (by omega) (by omega)]; omega
      rintro I4 rfl
      refine ⟨s + 5, t5, s8, ?_, by omega, ?_⟩
      · rw [am_wE (by omega) (by omega)]; omega
      rintro I7 rfl
      rw [am_wE (x := j + 1) (by omega) (by omega), am_u2_o (I := I') (by omega), ea, eb]
      refine ih (j + 1) _ (by omega) (by omega) (fun a ha => by rw [am_u2_ne (by omega), am_u2_ne (by omega)]; exact f0 a ha) (by rw [am_u2_o (by omega), am_u2_o (by omega)]; exact f2) (fun i i0 i1 => ⟨?_, ?_⟩)
      · by_cases q : i = j
        · subst q
          rw [am_u2_o (by omega), am_u2_s]
          unfold v_del
          rw [if_neg (by omega), if_neg (by omega), if_neg (by omega), if_pos (by omega)]
          congr 1; omega
        · rw [am_u2_o (by omega), am_u2_o (by omega), (f1 i i0 i1).1]
          unfold v_del
          rw [if_neg (show ¬ 46 + i = 8 by omega), if_neg (show ¬ 46 + i = 8 by omega)]
          by_cases q2 : (46 + k ≤ 46 + i ∧ 46 + i < 46 + j) ∨ (76 + k ≤ 46 + i ∧ 46 + i < 76 + j)
          · rw [if_pos q2, if_pos (by omega)]
          · rw [if_neg q2, if_neg (by omega)]
      · by_cases q : i = j
        · subst q
          rw [am_u2_s]
          unfold v_del
          rw [if_neg (by omega), if_neg (by omega), if_neg (by omega), if_pos (by omega)]
          congr 1; omega
        · rw [am_u2_o (by omega), am_u2_o (by omega), (f1 i i0 i1).2]
          unfold v_del
          rw [if_neg (show ¬ 76 + i = 8 by omega), if_neg (show ¬ 76 + i = 8 by omega)]
          by_cases q2 : (46 + k ≤ 76 + i ∧ 76 + i < 46 + j) ∨ (76 + k ≤ 76 + i ∧ 76 + i < 76 + j)
          · rw [if_pos q2, if_pos (by omega)]
          · rw [if_neg q2, if_neg (by omega)]
  refine ⟨s5, fun q => absurd c3 (by omega), fun q => ⟨s + 4, t4, s6, by omega, fun r => ?_, fun r => ?_⟩⟩
  · rintro I11 rfl
    rw [c3, am_wE (by omega) (by omega)]
    refine key (W 8 - 1 - k).toNat k _ (by omega) (by omega) (fun a ha => am_u2_ne (by omega)) am_u2_s (fun i i0 i1 => ?_)
    rw [am_u2_o (by omega), am_u2_o (by omega)]
    unfold v_del
    rw [if_neg (by omega), if_neg (by omega), if_neg (by omega), if_neg (by omega)]
    exact c4 i i0 i1
  · exact (r (by rw [(c4 k b.1 (by omega)).1]; exact hh.2)).elim
theorem cp_accept {b : Nat} {p x : Int} (hk : K b = 2) (hp : PC I b W p) (x0 : 0 ≤ x) (p0 : 0 ≤ p) (p1 : p < 300) (h : ∀ I', (∀ a, ¬ a = b → I' a = I a) → I' b 11 = I b 11 → PC I' b (v_readFor W p x) p → (I' b 5 = I b 5 ∨ I' b 5 = 1) → I' b 6 = I b 6 → Q am_nl K N I' P z) : am_C d m_X2_accept [am_r b, am_i x, am_i (W 0), am_i (W 3)] K N I P z Q am_nx := by
  obtain ⟨e0, e1, e2, e3, e4, e5, e6, e7, e8, e9, e10⟩ := id hp
  unfold v_readFor at h
  refine wf_X2_accept ⟨hk, ?_⟩
  rw [e4, e7, e8, e10]
  have two : ∀ (f c : Nat) (u v : Int), (f = 4 ∧ c = 1100) ∨ (f = 5 ∧ c = 1400) ∨ (f = 7 ∧ c = 2000) → PC (am_u2 (am_u2 I b f u) b 10 v) b (v_u (v_u W ((c : Int) + p) u) (2900 + p) v) p := by
    intro f c u v hc
    have g : ∀ k, ¬ k = f → ¬ k = 10 → am_u2 (am_u2 I b f u) b 10 v b k = I b k := fun k a c => by rw [am_u2_o (by omega), am_u2_o (by omega)]
    have w : ∀ i : Int, ¬ i = c → ¬ i = 2900 → v_u (v_u W ((c : Int) + p) u) (2900 + p) v (i + p) = W (i + p) := fun i a e => by rw [v_un (by omega), v_un (by omega)]
    have gf : am_u2 (am_u2 I b f u) b 10 v b f = u := by rw [am_u2_o (by omega), am_u2_s]
    have wf : v_u (v_u W ((c : Int) + p) u) (2900 + p) v ((c : Int) + p) = u := by rw [v_un (by omega), v_us]
    unfold PC
    rw [am_u2_s, v_us, g 0 (by omega) (by omega), g 1 (by omega) (by omega), g 2 (by omega) (by omega), g 3 (by omega) (by omega), g 6 (by omega) (by omega), g 8 (by omega) (by omega), g 9 (by omega) (by omega), w 200 (by omega) (by omega), w 500 (by omega) (by omega), w 800 (by omega) (by omega), w 1700 (by omega) (by omega), w 2300 (by omega) (by omega), w 2600 (by omega) (by omega)]
    rcases hc with ⟨h1, h2⟩ | ⟨h1, h2⟩ | ⟨h1, h2⟩
    · subst h1 h2
      rw [gf, g 5 (by omega) (by omega), g 7 (by omega) (by omega), w 1400 (by omega) (by omega), w 2000 (by omega) (by omega)]
      exact ⟨e0, e1, e2, e3, wf.symm, e5, e6, e7, e8, e9, rfl⟩
    · subst h1 h2
      rw [gf, g 4 (by omega) (by omega), g 7 (by omega) (by omega), w 1100 (by omega) (by omega), w 2000 (by omega) (by omega)]
      exact ⟨e0, e1, e2, e3, e4, wf.symm, e6, e7, e8, e9, rfl⟩
    · subst h1 h2
      rw [gf, g 4 (by omega) (by omega), g 5 (by omega) (by omega), w 1100 (by omega) (by omega), w 1400 (by omega) (by omega)]
      exact ⟨e0, e1, e2, e3, e4, e5, e6, wf.symm, e8, e9, rfl⟩
  have fr : ∀ (f : Nat) (u v : Int), ∀ a, ¬ a = b → am_u2 (am_u2 I b f u) b 10 v a = I a := fun f u v a ha => by rw [am_u2_ne ha, am_u2_ne ha]
  refine ⟨fun c1 => ⟨fun c2 => ⟨fun _ => ?_, fun c3 => (c1 c3).elim⟩, fun c2 => ?_⟩, fun c1 => ⟨fun c2 => ⟨fun c3 => ⟨fun c4 => (c4 c1).elim, fun _ => ?_⟩, fun c3 => absurd c3 (by omega)⟩, fun c2 => ?_⟩⟩
  · rintro I2 rfl I3 rfl
    rw [if_neg c2, if_neg c1] at h
    exact h _ (fr _ _ _) (by rw [am_u2_o (by omega), am_u2_o (by omega)]) (two 5 1400 1 (W 0) (by omega)) (Or.inr (by rw [am_u2_o (by omega), am_u2_s])) (by rw [am_u2_o (by omega), am_u2_o (by omega)])
  · rintro I2 rfl I3 rfl
    rw [if_pos c2] at h
    exact h _ (fr _ _ _) (by rw [am_u2_o (by omega), am_u2_o (by omega)]) (two 4 1100 x (W 0) (by omega)) (Or.inl (by rw [am_u2_o (by omega), am_u2_o (by omega)])) (by rw [am_u2_o (by omega), am_u2_o (by omega)])
  · rintro I2 rfl I3 rfl
    rw [if_neg c3, if_pos c1, if_pos c2] at h
    exact h _ (fr _ _ _) (by rw [am_u2_o (by omega), am_u2_o (by omega)]) (two 7 2000 _ (W 0) (by omega)) (Or.inl (by rw [am_u2_o (by omega), am_u2_o (by omega)])) (by rw [am_u2_o (by omega), am_u2_o (by omega)])
  · rintro I2 rfl
    rw [if_neg (by omega), if_pos c1, if_neg c2] at h
    refine h _ (fun a ha => am_u2_ne ha) (am_u2_o (by omega)) ?_ (Or.inl (am_u2_o (by omega))) (am_u2_o (by omega))
    have g : ∀ k, ¬ k = 8 → am_u2 I b 8 (am_wr (W (2300 + p) + 1)) b k = I b k := fun k a => am_u2_o (by omega)
    have w : ∀ i : Int, ¬ i = 2300 → v_u W (2300 + p) (am_wr (W (2300 + p) + 1)) (i + p) = W (i + p) := fun i a => v_un (by omega)
    unfold PC
    rw [g 0 (by omega), g 1 (by omega), g 2 (by omega), g 3 (by omega), g 4 (by omega), g 5 (by omega), g 6 (by omega), g 7 (by omega), g 9 (by omega), g 10 (by omega), am_u2_s, v_us, w 200 (by omega), w 500 (by omega), w 800 (by omega), w 1100 (by omega), w 1400 (by omega), w 1700 (by omega), w 2000 (by omega), w 2600 (by omega), w 2900 (by omega)]
    exact ⟨e0, e1, e2, e3, e4, e5, e6, e7, rfl, e9, e10⟩
end
