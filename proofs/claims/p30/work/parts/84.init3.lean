section
variable {d : Nat} {K N K0 N0 K' N' : Nat → Nat} {I I0 I' : Nat → Nat → Int} {P P0 P' : Nat → Nat → Option Nat} {z s r i j b e : Nat} {Q : am_V → am_T}
theorem LV.mk0 (h1 : K 4 = 7 ∧ P 4 2 = some 5 ∧ P 4 4 = some 6 ∧ P 4 5 = some 8 ∧ P 4 6 = some 10 ∧ K 5 = 13 ∧ N 5 = 6 ∧ K 6 = 1 ∧ P 6 0 = some 7 ∧ K 7 = 10 ∧ N 7 = 3000 ∧ K 8 = 5 ∧ P 8 0 = some 9 ∧ K 9 = 9 ∧ N 9 = 80) (h2 : RO K N P 10) (h3 : RO K N P 15) (h4 : ∀ y, ¬ (15 ≤ y ∧ y < 15 + 5) → I y = I0 y) (h5 : I 15 4 = 1 ∧ I 16 0 = 120 ∧ I 17 0 = -1) : LV I0 20 K N I P :=
  ⟨h1, h2, h3, fun a q => h4 a (by omega), h5, fun a q => h4 a (by omega), fun s hs q => by have := hs.1; omega⟩
theorem cu_sorter (hd : 6 ≤ d) (k4 : K 4 = 7) (hn : N 0 = 6) (h0 : ∀ a k, 4 ≤ a → I a k = 0) (f : ∀ K' N' I' P', LV I 284 K' N' I' P' → P' 4 0 = some 20 → P' 4 1 = some 53 → (∀ j : Int, 0 ≤ j → j < 6 → P' 5 j.toNat = some (86 + 33 * j.toNat)) → KF 0 K K' → KF 0 N N' → Q am_nl K' N' I' P' 280) : am_C d m_X7_init [am_r 4] K N I P 1 Q am_nx := by
  refine wf_X7_init (by omega) ⟨by omega, ?_⟩
  rintro K1 N2 b3 z4 rfl rfl rfl rfl
  refine ⟨by rw [am_u1_o (by omega)]; exact k4, ?_⟩
  rintro P7 rfl
  refine ⟨by omega, ?_⟩
  rintro K8 N9 b10 z11 rfl rfl rfl rfl
  refine ⟨by omega, wf_X1_init (by omega) ⟨by omega, ?_⟩⟩
  rintro K1 N2 b3 z4 rfl rfl rfl rfl
  refine ⟨by simp [am_u1], ?_⟩
  rintro P7 rfl
  refine ⟨by omega, ?_⟩
  refine ⟨by simp [am_u1, k4], ?_⟩
  rintro P19 rfl
  refine ⟨by omega, ?_⟩
  rintro K20 N21 b22 z23 rfl rfl rfl rfl
  refine ⟨by omega, wf_X5_init (by omega) ⟨by omega, ?_⟩⟩
  rintro K1 N2 b3 z4 rfl rfl rfl rfl
  refine ⟨by simp [am_u1], ?_⟩
  rintro P7 rfl
  refine ⟨by omega, ?_⟩
  refine ⟨by simp [am_u1, k4], ?_⟩
  rintro P31 rfl
  refine ⟨by omega, ?_⟩
  rintro K32 N33 b34 z35 rfl rfl rfl rfl
  refine ⟨by omega, cu_init (by omega) am_u1_s rfl ?_⟩
  intro K37 N38 P40 hk1 hn1 hp1 r10
  simp only [Nat.reduceAdd, Nat.zero_add] at hk1 hn1 hp1 r10 ⊢
  refine ⟨by rw [hk1 4 (by omega)]; simp [am_u1, k4], ?_⟩
  rintro P43 rfl
  refine ⟨by omega, ?_⟩
  rintro K44 N45 b46 z47 rfl rfl rfl rfl
  refine ⟨by omega, cu_init (by omega) am_u1_s rfl ?_⟩
  intro K49 N50 P52 hk2 hn2 hp2 r15
  simp only [Nat.reduceAdd, Nat.zero_add] at hk2 hn2 hp2 r15 ⊢
  have e4 : K49 4 = 7 := by rw [hk2 4 (by omega), am_u1_o (by omega), hk1 4 (by omega)]; simp [am_u1, k4]
  have h1 : K49 4 = 7 ∧ P52 4 2 = some 5 ∧ P52 4 4 = some 6 ∧ P52 4 5 = some 8 ∧ P52 4 6 = some 10 ∧ K49 5 = 13 ∧ N50 5 = 6 ∧ K49 6 = 1 ∧ P52 6 0 = some 7 ∧ K49 7 = 10 ∧ N50 7 = 3000 ∧ K49 8 = 5 ∧ P52 8 0 = some 9 ∧ K49 9 = 9 ∧ N50 9 = 80 := by
    rw [hk2 4 (by omega), hk2 5 (by omega), hk2 6 (by omega), hk2 7 (by omega), hk2 8 (by omega), hk2 9 (by omega), hn2 5 (by omega), hn2 7 (by omega), hn2 9 (by omega), hp2 4 (by omega), hp2 6 (by omega), hp2 8 (by omega)]
    simp only [am_u1, am_p2]
    simp [hk1 4 (by omega), hk1 5 (by omega), hk1 6 (by omega), hk1 7 (by omega), hk1 8 (by omega), hk1 9 (by omega), hn1 5 (by omega), hn1 7 (by omega), hn1 9 (by omega), hp1 4 (by omega), hp1 6 (by omega), hp1 8 (by omega), am_u1, am_p2, k4]
  have g10 : RO K49 N50 P52 10 := r10.fr (fun a q1 q2 => ⟨by rw [hk2 a (by omega), am_u1_o (by omega)], by rw [hn2 a (by omega), am_u1_o (by omega)]⟩) (by rw [hp2 10 (by omega), am_p2_ne (by omega)])
  have fk : KF 0 K K49 := fun a q => by rw [hk2 a (by omega), am_u1_o (by omega), hk1 a (by omega)]; simp (disch := omega) only [am_u1_o]
  have fn : KF 0 N N50 := fun a q => by rw [hn2 a (by omega), am_u1_o (by omega), hn1 a (by omega)]; simp (disch := omega) only [am_u1_o]
  clear hk1 hn1 hp1 hk2 hn2 hp2 r10
  refine ⟨by omega, r15.1, wf_X4_addLeaf (by omega) ⟨r15.1, cu_node r15 (cnt := 0) (h0 _ _ (by omega)) (by omega) (by omega) (by omega) (by omega) ?_⟩⟩
  intro I56 i1 i2 i3 i4 i5
  simp only [am_iv]
  have hL := LV.mk0 h1 g10 r15 i1 ⟨i2, i5.1, i5.2.1⟩
  clear i1 i2 i3 i4 i5 h1 g10 r15
  refine ⟨by omega, ?_⟩
  rintro K60 N61 b62 z63 rfl rfl rfl rfl
  refine ⟨by omega, cu_state (by omega) am_u1_s rfl ?_ (fun a k q => by rw [hL.2.2.2.2.2.1 a (by omega)]; exact h0 a k (by omega)) ?_⟩
  · rw [am_u1_o (by omega), fn 0 (by omega)]; exact hn
  intro K65 N66 I67 P68 hv
  simp only [Nat.reduceAdd, Nat.zero_add] at hv ⊢
  have hL2 := hL.st (by unfold sN; omega) (fun k => h0 _ k (by omega)) hv
  have fk2 : KF 0 K K65 := fun a q => by rw [(hv.1 a (by omega)).1, am_u1_o (by omega)]; exact fk a q
  have fn2 : KF 0 N N66 := fun a q => by rw [(hv.1 a (by omega)).2, am_u1_o (by omega)]; exact fn a q
  clear hv hL fk fn e4
  refine ⟨hL2.1.1, ?_⟩
  rintro P71 rfl
  have p40 : am_p2 P68 4 0 (some 20) 4 0 = some 20 := am_p2_s
  replace hL2 := hL2.p (a := 4) (k := 0) (x := some 20) (Or.inl ⟨rfl, by omega⟩)
  generalize am_p2 P68 4 0 (some 20) = P71 at *
  refine ⟨by omega, ?_⟩
  rintro K72 N73 b74 z75 rfl rfl rfl rfl
  refine ⟨by omega, cu_state (by omega) am_u1_s rfl ?_ (fun a k q => by rw [hL2.2.2.2.2.2.1 a (by omega)]; exact h0 a k (by omega)) ?_⟩
  · rw [am_u1_o (by omega), fn2 0 (by omega)]; exact hn
  intro K77 N78 I79 P80 hv
  simp only [Nat.reduceAdd, Nat.zero_add] at hv ⊢
  have hL3 := hL2.st (by unfold sN; omega) (fun k => h0 _ k (by omega)) hv
  have fk3 : KF 0 K K77 := fun a q => by rw [(hv.1 a (by omega)).1, am_u1_o (by omega)]; exact fk2 a q
  have fn3 : KF 0 N N78 := fun a q => by rw [(hv.1 a (by omega)).2, am_u1_o (by omega)]; exact fn2 a q
  have p40b : P80 4 0 = some 20 := by rw [hv.2.2.2.1 4 (by omega)]; exact p40
  refine ⟨hL3.1.1, ?_⟩
  rintro P83 rfl
  refine ng_85 (I0 := I) (K0 := K) (N0 := N) (by omega) h0 f 6 0 _ _ _ _ _ _ _ _ (by omega) rfl (by omega) (by omega) (by omega) (hL3.p (Or.inl ⟨rfl, by omega⟩)) ?_ ?_ am_p2_s (fun j h1 h2 => by omega) fk3 fn3
  · rw [fn3 0 (by omega)]; exact hn
  · rw [am_p2_o (by omega)]; exact p40b
end
