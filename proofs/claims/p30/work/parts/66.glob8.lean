theorem v_it_add {W : Int → Int} (b : Nat) : ∀ a : Nat, v_it (a + b) W = v_it a (v_it b W)
  | 0 => by rw [Nat.zero_add]; rfl
  | a + 1 => by
    rw [show a + 1 + b = (a + b) + 1 by omega]
    show v_go (v_it (a + b) W) = v_go (v_it a (v_it b W))
    rw [v_it_add b a]
theorem v_go_fail {W : Int → Int} (hG : v_G W) (hF : v_F W) {q : Int} (q0 : 0 ≤ q) (q1 : q < W 9) (hq : ¬ W (800 + q) = 0) : (v_go W) (2600 + q) = W (2600 + q) := by
  have g9 := hG.n9
  have h1 := v_s1_G hG (k := 1) (by omega) (fun p a b c => by have := hF p a b c; omega)
  have s1 := v_s1_same (W := W) (k := 1) (n := W 9) (by omega)
  have key : ∀ n : Nat, (n : Int) ≤ W 9 → (v_s2 (v_s1 W 1 (W 9)) n) (800 + q) = W (800 + q) ∧ (v_s2 (v_s1 W 1 (W 9)) n) (2600 + q) = W (2600 + q) := by
    intro n hn
    induction n with
    | zero => exact ⟨v_s1_8 q0 (by omega), v_s1_o (by omega) (by omega) (by omega)⟩
    | succ n ih =>
      obtain ⟨ih2, ih3⟩ := ih (by omega)
      have hV := (v_s2_G h1 n (by rw [s1.n9]; omega)).1
      have b := hV.lo (p := n)
      have b7 := hV.l7
      show v_try (v_s2 (v_s1 W 1 (W 9)) n) n (800 + q) = _ ∧ v_try (v_s2 (v_s1 W 1 (W 9)) n) n (2600 + q) = _
      generalize v_s2 (v_s1 W 1 (W 9)) n = V at *
      unfold v_try
      split
      · rename_i c
        have ne : ¬ q = n := by rintro rfl; exact hq (ih2.symm.trans c.1)
        unfold v_att
        split
        · rw [v_un (by omega), v_un (by omega), v_un (by omega), v_un (by omega), v_un (by omega), v_un (by omega)]; exact ⟨ih2, ih3⟩
        · rw [v_un (by omega), v_un (by omega)]; exact ⟨ih2, ih3⟩
      · exact ⟨ih2, ih3⟩
  unfold v_go
  rw [v_s3_o (by omega) (by omega)]
  exact (key (W 9).toNat (by omega)).2
theorem v_go_sub {W : Int → Int} (hG : v_G W) (hF : v_F W) : Sub W (v_go W) := by
  have g9 := hG.n9
  obtain ⟨G1, G2, G3, G4⟩ := v_go_G hG hF
  intro p p0 p1 p2
  refine ⟨by rw [G3.n9]; exact p1, fun c hc => ?_⟩
  have o := (v_go_on hG hF p0 p1).2 p2
  unfold v_col at hc
  rcases (show c = 500 ∨ c = 800 ∨ c = 2600 ∨ (¬ c = 500 ∧ ¬ c = 800 ∧ ¬ c = 2600) by omega) with e | e | e | e
  · rw [e]; exact o.2
  · rw [e]; exact o.1
  · rw [e]; exact v_go_fail hG hF p0 p1 p2
  · exact G3 _ (by omega) (by omega) (by omega) (by omega)
theorem v_it_sub {W : Int → Int} (hG : v_G W) (hF : v_F W) : ∀ k : Nat, Sub W (v_it k W)
  | 0 => Sub.rf
  | k + 1 => by
    obtain ⟨i1, i2, i3, i4⟩ := v_it_G hG hF k
    exact (v_it_sub hG hF k).tr (v_go_sub i1 i2)
section
variable {d : Nat} {K N : Nat → Nat} {I I' : Nat → Nat → Int} {P P' : Nat → Nat → Option Nat} {z : Nat} {Q : am_V → am_T} {X : Nat → am_T} {W W' V W0 L0 : Int → Int} {S : Int → Int → Int} {c : Int} {T : Int → Int} {n : Int} {s s2 dr : Nat} {m m0 : Int} {L : Int → Int} {π π0 : Int → Nat}
theorem cx_move (hd : 7 ≤ d) (h : GI K N I P z W S c T n) {x : Int} (h1 : ¬ (1 ≤ x ∧ x ≤ 500) → X 1 K N I P z) (h2 : 1 ≤ x ∧ x ≤ 500 → 50000 < W 0 + x → X 2 K N I P z)
    (h3 : 1 ≤ x ∧ x ≤ 500 → W 0 + x ≤ 50000 → ∀ I' P', GF I I' → GP P P' → GI K N I' P' z (v_it x.toNat W) (v_svS S c W) (v_svc c) T n → Q (am_i (v_ob W - v_ob (v_it x.toNat W))) K N I' P' z) : am_C d m_X7_move [am_r 4, am_i x] K N I P z Q X := by
  obtain ⟨σ, dr, hA, hB, hC, ⟨⟨⟨m, L, π, hS, hR⟩, hV, hRC⟩, d4, d5⟩⟩ := id h; obtain ⟨⟨a0, a1, a2, a3, a4, a5, a6⟩, ⟨b0, b1, b2, b3, b4, b5, b6, b7, b8, b9⟩, -⟩ := id hA; have hG := hV.1; have k20 := hS.k.1; have hm2 := hS.m2; have tm := hS.ob
  have g0 := hG.d0
  have w5 := hV.2.2
  have e8 : I 20 8 = W 0 := hS.c.2.2.2.2.2.2.1
  refine wf_X7_move (by omega) ⟨fun q => h1 (by omega), fun q => ⟨fun q2 => ⟨a0, 20, a1, k20, ?_⟩, fun q2 => h1 (by omega)⟩⟩
  rw [e8, am_wE (by omega) (by omega)]
  refine ⟨fun q3 => ?_, fun q3 => h2 (by omega) (by omega)⟩
  have h3 := h3 (by omega) q3
  refine cx_save (by omega) h ?_
  intro I2 P2 f1 f2 h
  clear e8
  clear hA hB hC hS hR hV hRC d4 d5 a0 a1 a2 a3 a4 a5 a6 b0 b1 b2 b3 b4 b5 b6 b7 b8 b9 hG k20 hm2 tm σ dr m L π
  obtain ⟨σ, dr, hA, hB, hC, ⟨⟨⟨m, L, π, hS, hR⟩, hV, hRC⟩, d4, d5⟩⟩ := id h; obtain ⟨⟨a0, a1, a2, a3, a4, a5, a6⟩, ⟨b0, b1, b2, b3, b4, b5, b6, b7, b8, b9⟩, -⟩ := id hA; have hG := hV.1; have k20 := hS.k.1; have hm2 := hS.m2; have tm := hS.ob
  have g9 := hG.n9
  refine ⟨a0, 20, a1, k20, cs_aim (by omega) (by omega) hS hR hG ?_⟩
  intro I3 f3 hS3 hA3 f4
  rw [tm]
  have fin : ∀ I' P' m' L' π', SF 20 I2 I' → (∀ b, ¬ b = 26 → P' b = P2 b) → SM K N I' P' 20 (v_it x.toNat W) m' L' π' m W L π → am_C (d - 1) m_X7_keepDeparted [am_r 4, am_i m] K N I' P' z (fun _ K1 N2 I3 P4 z5 =>
      K1 4 = 7 ∧ ∃ b8, P4 4 0 = some b8 ∧ K1 b8 = 6 ∧ Q (am_i (am_wr (m - I3 b8 6))) K1 N2 I3 P4 z5) am_nx := by
    intro I' P' m' L' π' g1 g2 hM
    obtain ⟨hS', hA', hD', hO'⟩ := hM
    obtain ⟨i1, i2, i3, i4⟩ := v_it_G hG hV.2.1 x.toNat
    refine cx_keep (by omega) a0 (by rw [g2 4 (by omega)]; exact a1) (by rw [g2 4 (by omega)]; exact a4) b2 (by rw [g2 6 (by omega)]; exact b3) b4 b5 hS' i1 hD' ?_
    intro I4 e0 e1 e2
    have hm' := hS'.m2
    have ob1 := hS.b.ob (by omega)
    have ob2 := hS'.b.ob (by rw [i3.n9]; omega)
    refine ⟨a0, 20, by rw [g2 4 (by omega)]; exact a1, k20, ?_⟩
    rw [e0 20 (by omega), hS'.ob, am_wE (by omega) (by omega), ← ob1, ← ob2]
    refine h3 I4 P' (f1.tr (fun a ha => by rw [e0 a (by omega)]; exact g1.1 a (by omega))) (f2.tr (fun a p q => g2 a (by omega))) (h.now (fun a ha hb => by rw [e0 a hb]; exact g1.1 a (by omega)) g2 ⟨_, _, _, hS'.tr (fun a p q => e0 a (by omega)) (fun _ _ _ _ _ => rfl)⟩ (fun a p q => ?_) (fun i p q => i3 _ (by omega) (by omega) (by omega) (by omega)) ⟨i1, i2, by omega⟩ (v_it_sub hG hV.2.1 _) ?_)
    · rw [e0 a (by omega), (g1.2 a p (by omega)).1, (g1.2 a p (by omega)).2]
      exact (hB 20 sN.now).2.2.1 a p q
    · refine RC.mv (I := I') (π := π') (W0 := W) (L0 := L) (π0 := π) (m0 := m) ?_ hS.b hS'.b (v_it_sub hG hV.2.1 _) i3.n9 ?_ e1 e2
      · intro p k p0 p1 p2 k0 k1
        rw [g1.1 7 (by omega)]
        exact hRC p k p0 p1 p2 k0 k1
      · obtain ⟨q1, q2, q3, q4⟩ := hD'
        refine ⟨q1, q2, fun i i0 i1 => ?_, q4⟩
        obtain ⟨r1, r2⟩ := q3 i i0 i1
        have bi := hS'.i.bd (j := i) (by omega) (by omega)
        exact ⟨r1.cg (fun k _ => by rw [e0 _ (by omega)]) ⟨rfl, rfl, rfl, rfl, rfl, rfl, rfl, rfl, rfl, rfl⟩, r2⟩
  have key : ∀ (r k : Nat) (rd : Int) (I' : Nat → Nat → Int) (P' : Nat → Nat → Option Nat) (m' : Int) (L' : Int → Int) (π' : Int → Nat), (k : Int) + r = x → 0 ≤ rd → rd ≤ k → SF 20 I2 I' → (∀ b, ¬ b = 26 → P' b = P2 b) → SM K N I' P' 20 (v_it k W) m' L' π' m W L π → (I' 20 10 = 0 ∨ v_SV (v_it k W)) → L_X7_move_70 d 4 x m k rd K N I' P' z Q X := by
    intro r
    induction r using Nat.strongRecOn with
    | _ r ih =>
      intro k rd I' P' m' L' π' hk rd0 rd1 g1 g2 hM hf
      by_cases hr : r = 0
      · have ek : x.toNat = k := by omega
        rw [ek] at fin
        exact wf_X7_move_70 (by omega) ⟨fun _ => ⟨a0, fin I' P' m' L' π' g1 g2 hM⟩, fun _ => ⟨fun _ => ⟨a0, fin I' P' m' L' π' g1 g2 hM⟩, fun q => absurd q (by omega)⟩⟩
      · obtain ⟨i1, i2, i3, i4⟩ := v_it_G hG hV.2.1 k
        refine wf_X7_move_70 (by omega) ⟨fun q => absurd q (by omega), fun _ => ⟨fun q => absurd q (by omega), fun _ => ⟨a0, 20, by rw [g2 4 (by omega)]; exact a1, k20, ?_⟩⟩⟩
        rw [am_wE (x := x - k) (by omega) (by omega)]
        refine cs_stride (by omega) hM i1 i2 (by omega) (by omega) (by omega) hf ?_
        intro q I4 P4 m4 L4 π4 hq hit e1 e2 hM4 hf4
        simp only [am_iv]
        rw [am_wE (x := (k : Int) + ((q : Int) + 1)) (by omega) (by omega), am_wE (x := rd + 1) (by omega) (by omega)]
        have ek : (k : Int) + ((q : Int) + 1) = ((q + 1 + k : Nat) : Int) := by omega
        have ew : v_it (q + 1) (v_it k W) = v_it (q + 1 + k) W := (v_it_add k (q + 1)).symm
        rw [ew] at hM4 hf4
        rw [ek]
        exact ih (r - (q + 1)) (by omega) (q + 1 + k) (rd + 1) I4 P4 m4 L4 π4 (by omega) (by omega) (by omega) (g1.tr e1) (fun b hb => (e2 b hb).trans (g2 b hb)) hM4 hf4
  exact key x.toNat 0 0 I3 P2 m L π (by omega) (by omega) (by omega) f3 (fun _ _ => rfl) ⟨hS3, hA3, DP.rf hS3, fun _ _ _ e => e⟩ (Or.inl f4)
end
