section
variable {d : Nat} {K N K0 N0 K' N' : Nat → Nat} {I I0 I' : Nat → Nat → Int} {P P0 P' : Nat → Nat → Option Nat} {z s r i j b e : Nat} {Q : am_V → am_T}
theorem LU.mk0 (h1 : K 284 = 7 ∧ P 284 2 = some 285 ∧ P 284 4 = some 286 ∧ P 284 5 = some 288 ∧ P 284 6 = some 290 ∧ K 285 = 13 ∧ N 285 = 6 ∧ K 286 = 1 ∧ P 286 0 = some 287 ∧ K 287 = 10 ∧ N 287 = 3000 ∧ K 288 = 5 ∧ P 288 0 = some 289 ∧ K 289 = 9 ∧ N 289 = 80) (h2 : RO K N P 290) (h3 : RO K N P 295) (h4 : ∀ y, ¬ (295 ≤ y ∧ y < 295 + 5) → I y = I0 y) (h5 : I 295 4 = 1 ∧ I 296 0 = 120 ∧ I 297 0 = -1) : LU I0 300 K N I P :=
  ⟨h1, h2, h3, fun a q => h4 a (by omega), h5, fun a q => h4 a (by omega), fun s hs q => by have := hs.1; omega⟩
theorem cu_sorter2 (hd : 6 ≤ d) (k4 : K 284 = 7) (hn : N 0 = 6) (h0 : ∀ a k, 284 ≤ a → I a k = 0) (f : ∀ K' N' I' P', LU I 564 K' N' I' P' → P' 284 0 = some 300 → P' 284 1 = some 333 → (∀ j : Int, 0 ≤ j → j < 6 → P' 285 j.toNat = some (366 + 33 * j.toNat)) → KF 280 K K' → KF 280 N N' → (∀ a, a < 284 → P' a = P a) → Q am_nl K' N' I' P' 560) : am_C d m_X7_init [am_r 284] K N I P 281 Q am_nx := by
  refine wf_X7_init (by omega) ⟨by omega, ?_⟩
  rintro K1 N2 b3 z4 rfl rfl rfl rfl
  refine ⟨by rw [am_u1_o (by omega)]; exact k4, ?_⟩
  rintro P7 rfl
  refine ⟨by omega, ?_⟩
  rintro K8 N9 b10 z11 rfl rfl rfl rfl
  refine ⟨by omega, wf_X1_init (by omega) ⟨by omega, ?_⟩⟩
  rintro K1 N2 b3 z4 rfl rfl rfl rfl
  refine ⟨by simp [am_u1], ?_⟩
  rintro P7 rfl
  refine ⟨by omega, ?_⟩
  refine ⟨by simp [am_u1, k4], ?_⟩
  rintro P19 rfl
  refine ⟨by omega, ?_⟩
  rintro K20 N21 b22 z23 rfl rfl rfl rfl
  refine ⟨by omega, wf_X5_init (by omega) ⟨by omega, ?_⟩⟩
  rintro K1 N2 b3 z4 rfl rfl rfl rfl
  refine ⟨by simp [am_u1], ?_⟩
  rintro P7 rfl
  refine ⟨by omega, ?_⟩
  refine ⟨by simp [am_u1, k4], ?_⟩
  rintro P31 rfl
  refine ⟨by omega, ?_⟩
  rintro K32 N33 b34 z35 rfl rfl rfl rfl
  refine ⟨by omega, cu_init (by omega) am_u1_s rfl ?_⟩
  intro K37 N38 P40 hk1 hn1 hp1 r10
  simp only [Nat.reduceAdd, Nat.zero_add] at hk1 hn1 hp1 r10 ⊢
  refine ⟨by rw [hk1 284 (by omega)]; simp [am_u1, k4], ?_⟩
  rintro P43 rfl
  refine ⟨by omega, ?_⟩
  rintro K44 N45 b46 z47 rfl rfl rfl rfl
  refine ⟨by omega, cu_init (by omega) am_u1_s rfl ?_⟩
  intro K49 N50 P52 hk2 hn2 hp2 r15
  simp only [Nat.reduceAdd, Nat.zero_add] at hk2 hn2 hp2 r15 ⊢
  have e4 : K49 284 = 7 := by rw [hk2 284 (by omega), am_u1_o (by omega), hk1 284 (by omega)]; simp [am_u1, k4]
  have h1 : K49 284 = 7 ∧ P52 284 2 = some 285 ∧ P52 284 4 = some 286 ∧ P52 284 5 = some 288 ∧ P52 284 6 = some 290 ∧ K49 285 = 13 ∧ N50 285 = 6 ∧ K49 286 = 1 ∧ P52 286 0 = some 287 ∧ K49 287 = 10 ∧ N50 287 = 3000 ∧ K49 288 = 5 ∧ P52 288 0 = some 289 ∧ K49 289 = 9 ∧ N50 289 = 80 := by
    rw [hk2 284 (by omega), hk2 285 (by omega), hk2 286 (by omega), hk2 287 (by omega), hk2 288 (by omega), hk2 289 (by omega), hn2 285 (by omega), hn2 287 (by omega), hn2 289 (by omega), hp2 284 (by omega), hp2 286 (by omega), hp2 288 (by omega)]
    simp only [am_u1, am_p2]
    simp [hk1 284 (by omega), hk1 285 (by omega), hk1 286 (by omega), hk1 287 (by omega), hk1 288 (by omega), hk1 289 (by omega), hn1 285 (by omega), hn1 287 (by omega), hn1 289 (by omega), hp1 284 (by omega), hp1 286 (by omega), hp1 288 (by omega), am_u1, am_p2, k4]
  have g10 : RO K49 N50 P52 290 := r10.fr (fun a q1 q2 => ⟨by rw [hk2 a (by omega), am_u1_o (by omega)], by rw [hn2 a (by omega), am_u1_o (by omega)]⟩) (by rw [hp2 290 (by omega), am_p2_ne (by omega)])
  have fk : KF 280 K K49 := fun a q => by rw [hk2 a (by omega), am_u1_o (by omega), hk1 a (by omega)]; simp (disch := omega) only [am_u1_o]
  have fn : KF 280 N N50 := fun a q => by rw [hn2 a (by omega), am_u1_o (by omega), hn1 a (by omega)]; simp (disch := omega) only [am_u1_o]
  have fp : ∀ a, a < 284 → P52 a = P a := fun a q => by rw [hp2 a (by omega), am_p2_ne (by omega), hp1 a (by omega)]; simp (disch := omega) only [am_p2_ne]
  clear hk1 hn1 hp1 hk2 hn2 hp2 r10
  refine ⟨by omega, r15.1, wf_X4_addLeaf (by omega) ⟨r15.1, cu_node r15 (cnt := 0) (h0 _ _ (by omega)) (by omega) (by omega) (by omega) (by omega) ?_⟩⟩
  intro I56 i1 i2 i3 i4 i5
  simp only [am_iv]
  have hL := LU.mk0 h1 g10 r15 i1 ⟨i2, i5.1, i5.2.1⟩
  clear i1 i2 i3 i4 i5 h1 g10 r15
  refine ⟨by omega, ?_⟩
  rintro K60 N61 b62 z63 rfl rfl rfl rfl
  refine ⟨by omega, cu_state (by omega) am_u1_s rfl ?_ (fun a k q => by rw [hL.2.2.2.2.2.1 a (by omega)]; exact h0 a k (by omega)) ?_⟩
  · rw [am_u1_o (by omega), fn 0 (by omega)]; exact hn
  intro K65 N66 I67 P68 hv
  simp only [Nat.reduceAdd, Nat.zero_add] at hv ⊢
  have hL2 := hL.st (by unfold sM; omega) (fun k => h0 _ k (by omega)) hv
  have fk2 : KF 280 K K65 := fun a q => by rw [(hv.1 a (by omega)).1, am_u1_o (by omega)]; exact fk a q
  have fn2 : KF 280 N N66 := fun a q => by rw [(hv.1 a (by omega)).2, am_u1_o (by omega)]; exact fn a q
  have fp2 : ∀ a, a < 284 → am_p2 P68 284 0 (some 300) a = P a := fun a q => by rw [am_p2_ne (by omega), hv.2.2.2.1 a (by omega)]; exact fp a q
  clear hv hL fk fn e4 fp
  refine ⟨hL2.1.1, ?_⟩
  rintro P71 rfl
  have p40 : am_p2 P68 284 0 (some 300) 284 0 = some 300 := am_p2_s
  replace hL2 := hL2.p (a := 284) (k := 0) (x := some 300) (Or.inl ⟨rfl, by omega⟩)
  generalize am_p2 P68 284 0 (some 300) = P71 at *
  refine ⟨by omega, ?_⟩
  rintro K72 N73 b74 z75 rfl rfl rfl rfl
  refine ⟨by omega, cu_state (by omega) am_u1_s rfl ?_ (fun a k q => by rw [hL2.2.2.2.2.2.1 a (by omega)]; exact h0 a k (by omega)) ?_⟩
  · rw [am_u1_o (by omega), fn2 0 (by omega)]; exact hn
  intro K77 N78 I79 P80 hv
  simp only [Nat.reduceAdd, Nat.zero_add] at hv ⊢
  have hL3 := hL2.st (by unfold sM; omega) (fun k => h0 _ k (by omega)) hv
  have fk3 : KF 280 K K77 := fun a q => by rw [(hv.1 a (by omega)).1, am_u1_o (by omega)]; exact fk2 a q
  have fn3 : KF 280 N N78 := fun a q => by rw [(hv.1 a (by omega)).2, am_u1_o (by omega)]; exact fn2 a q
  have fp3 : ∀ a, a < 284 → P80 a = P a := fun a q => by rw [hv.2.2.2.1 a (by omega)]; exact fp2 a q
  have p40b : P80 284 0 = some 300 := by rw [hv.2.2.2.1 284 (by omega)]; exact p40
  refine ⟨hL3.1.1, ?_⟩
  rintro P83 rfl
  refine nh_85 (I0 := I) (K0 := K) (N0 := N) (P0 := P) (by omega) h0 f 6 0 _ _ _ _ _ _ _ _ (by omega) rfl (by omega) (by omega) (by omega) (hL3.p (Or.inl ⟨rfl, by omega⟩)) ?_ ?_ am_p2_s (fun j h1 h2 => by omega) fk3 fn3 (fun a q => by rw [am_p2_ne (by omega)]; exact fp3 a q)
  · rw [fn3 0 (by omega)]; exact hn
  · rw [am_p2_o (by omega)]; exact p40b
end
