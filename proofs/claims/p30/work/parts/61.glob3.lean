section
variable {d : Nat} {K N : Nat → Nat} {I I' : Nat → Nat → Int} {P P' : Nat → Nat → Option Nat} {z : Nat} {Q : am_V → am_T} {X : Nat → am_T} {W W' V : Int → Int} {S : Int → Int → Int} {c : Int} {T : Int → Int} {n : Int} {s s2 dr : Nat}
theorem v_G.lr (hG : v_G W) (h0 : ∀ i : Int, 0 ≤ i → i < 7 → W' i = W i) (h9 : W' 9 = W 9) (h106 : ∀ i : Int, 106 ≤ i → W' i = W i) (l7 : 0 ≤ W' 7 ∧ W' 7 ≤ 6) (r8 : 0 ≤ W' 8 ∧ W' 8 ≤ 30)
    (ln : ∀ l, 0 ≤ l → l < W' 7 → (1 ≤ W' (16 + l) ∧ W' (16 + l) ≤ 4999) ∧ (1 ≤ W' (22 + l) ∧ W' (22 + l) ≤ 200) ∧ (1 ≤ W' (28 + l) ∧ W' (28 + l) ≤ 50) ∧ (0 ≤ W' (34 + l) ∧ W' (34 + l) ≤ W' (28 + l))) (l0 : ∀ l, W' 7 ≤ l → l < 6 → W' (34 + l) = 0 ∧ W' (40 + l) = 0)
    (rt : ∀ k, 0 ≤ k → k < W' 8 → (0 ≤ W' (46 + k) ∧ W' (46 + k) ≤ 999) ∧ (0 ≤ W' (76 + k) ∧ W' (76 + k) < W' 7)) : v_G W' := by
  obtain ⟨e, he, hr⟩ := hG.rl
  refine v_G.mk ?_ ?_ ?_ ?_ ?_ ?_ ?_ l7 r8 (by rw [h9]; exact hG.n9) ln l0 rt ⟨e, he, (v_r_cg (T := v_T W) (T' := v_T W') (fun i a b => h106 _ (by omega)) 50 0 e (by omega) he hr).1⟩ (fun p a b => ?_) (fun p q a b f x y => ?_)
  · rw [h0 0 (by omega) (by omega)]; exact hG.d0
  · rw [h0 1 (by omega) (by omega)]; exact hG.s1
  · rw [h0 2 (by omega) (by omega)]; exact hG.s2
  · rw [h0 3 (by omega) (by omega)]; exact hG.s3
  · rw [h0 4 (by omega) (by omega)]; exact hG.s4
  · rw [h0 5 (by omega) (by omega)]; exact hG.s5
  · rw [h0 6 (by omega) (by omega)]; exact hG.s6
  · rw [h9] at b
    rw [h106 (200 + p) (by omega), h106 (500 + p) (by omega), h106 (1100 + p) (by omega), h106 (1400 + p) (by omega), h106 (1700 + p) (by omega), h106 (2600 + p) (by omega), h106 (800 + p) (by omega)]
    exact hG.pt p a b
  · rw [h9] at f
    rw [h106 (800 + p) (by omega)] at x
    rw [h106 (800 + q) (by omega)] at y
    rw [h106 (500 + q) (by omega), h106 (500 + p) (by omega), h106 (200 + p) (by omega)]
    exact hG.od p q a b f x y
theorem VG.lr (hV : VG W) (h0 : ∀ i : Int, 0 ≤ i → i < 7 → W' i = W i) (h9 : W' 9 = W 9) (h106 : ∀ i : Int, 106 ≤ i → W' i = W i) (hG' : v_G W') : VG W' := by
  refine ⟨hG', fun p a b f => ?_, by rw [h0 0 (by omega) (by omega)]; exact hV.2.2⟩
  rw [h9] at b
  rw [h106 _ (by omega)] at f
  rw [h106 _ (by omega), h0 5 (by omega) (by omega)]
  exact hV.2.1 p a b f
theorem Sub.low (h9 : W' 9 = W 9) (h : ∀ i : Int, 200 ≤ i → W' i = W i) : Sub W W' := fun p a b _ => ⟨by rw [h9]; exact b, fun k hk => h _ (by unfold v_col at hk; omega)⟩
theorem RC.low (hR : RC I W) (h7 : I' 7 = I 7) (h9 : W' 9 = W 9) (h : ∀ i : Int, 200 ≤ i → W' i = W i) : RC I' W' := by
  intro p k a b e f g
  rw [h9] at b
  rw [h _ (by omega)] at e
  rw [h7, hR p k a b e f g]
  exact (v_pp_sub (fun q hq => h _ (by unfold v_col at hq; omega)) e).symm
theorem GI.low (h : GI K N I P z W S c T n) (hI : ∀ a, ¬ (20 ≤ a ∧ a < 33) → I' a = I a) (hI6 : I' 20 6 = I 20 6) (hc : SC I' 20 W') (hW : ∀ i : Int, 106 ≤ i → W' i = W i) (h9 : W' 9 = W 9) (hV' : VG W') : GI K N I' P z W' S c T n := by
  obtain ⟨σ, dr, hA, hB, hC, ⟨⟨⟨m, L, π, hS, hR⟩, hV, hRC⟩, d4, d5⟩⟩ := id h; obtain ⟨⟨a0, a1, a2, a3, a4, a5, a6⟩, ⟨b0, b1, b2, b3, b4, b5, b6, b7, b8, b9⟩, -⟩ := id hA; have hG := hV.1; have k20 := hS.k.1; have hm2 := hS.m2; have tm := hS.ob
  have g9 := hG.n9
  refine h.now (fun a x y => hI a (by omega)) (fun _ _ => rfl) ⟨m, L, π, hS.ln (by omega) (fun a k hk => ?_) hc (fun j hj => ?_)⟩ (fun a x y => ?_) (fun i x y => hW _ (by omega)) hV' (Sub.low h9 (fun i hi => hW i (by omega))) (hRC.low (hI 7 (by omega)) h9 (fun i hi => hW i (by omega)))
  · rcases hk with q | q
    · rw [hI a (by omega)]
    · rw [q.1, q.2]; exact hI6
  · rcases hj with q | q
    · rw [q]; exact h9
    · exact hW j (by omega)
  · rw [hI a (by omega)]
    exact (hB 20 sN.now).2.2.1 a x y
/-- the rows of least and greatest settings -/
def GT (N : Nat → Nat) (I : Nat → Nat → Int) : Prop := N 0 = 6 ∧ N 1 = 6 ∧ N 2 = 6 ∧ (I 0 0 = 300 ∧ I 0 1 = 20 ∧ I 0 2 = 50 ∧ I 0 3 = 40 ∧ I 0 4 = 2000 ∧ I 0 5 = 5) ∧ ∀ k : Int, 0 ≤ k → k < 6 → I 1 k.toNat = (if k = 0 then 50 else if k = 4 then 1000 else 0) ∧ I 2 k.toNat = (if k = 0 then 1000 else if k = 1 then 200 else if k = 4 then 5000 else if k = 5 then 100 else 500)
theorem cx_set (hd : 6 ≤ d) (h : GI K N I P z W S c T n) (hT : GT N I) {i x lo hi : Int} (hlo : lo = if i = 0 then 50 else if i = 4 then 1000 else 0) (hhi : hi = if i = 0 then 1000 else if i = 1 then 200 else if i = 4 then 5000 else if i = 5 then 100 else 500)
    (h1 : ¬ (0 ≤ i ∧ i ≤ 5) → X 0 K N I P z) (h2 : 0 ≤ i ∧ i ≤ 5 → ¬ (lo ≤ x ∧ x ≤ hi) → X 1 K N I P z) (h3 : 0 ≤ i ∧ i ≤ 5 → lo ≤ x ∧ x ≤ hi → 0 < v_ob W → X 2 K N I P z)
    (h4 : 0 ≤ i ∧ i ≤ 5 → lo ≤ x ∧ x ≤ hi → v_ob W ≤ 0 → ∀ I' P', GF I I' → GP P P' → GI K N I' P' z (v_u W (1 + i) x) (v_svS S c W) (v_svc c) T n → Q (am_i (W (1 + i))) K N I' P' z) : am_C d m_X7_set [am_r 4, am_i i, am_i x] K N I P z Q X := by
  obtain ⟨σ, dr, hA, hB, hC, ⟨⟨⟨m, L, π, hS, hR⟩, hV, hRC⟩, d4, d5⟩⟩ := id h; obtain ⟨⟨a0, a1, a2, a3, a4, a5, a6⟩, ⟨b0, b1, b2, b3, b4, b5, b6, b7, b8, b9⟩, -⟩ := id hA; have hG := hV.1; have k20 := hS.k.1; have hm2 := hS.m2; have tm := hS.ob
  have g9 := hG.n9
  have ob := hS.b.ob (by omega)
  refine wf_X7_set hd ⟨fun q => h1 (by omega), fun q => ⟨fun q2 => ⟨by rw [hT.2.1]; omega, fun q3 => ?_, fun q3 => ⟨by rw [hT.2.2.1]; omega, fun q4 => ⟨a0, 20, a1, k20, fun q5 => ?_, fun q5 => ?_⟩, fun q4 => ?_⟩⟩, fun q2 => h1 (by omega)⟩⟩
  · rw [(hT.2.2.2.2 i (by omega) q2).1, ← hlo] at q3
    exact h2 (by omega) (by omega)
  · rw [(hT.2.2.2.2 i (by omega) q2).1, ← hlo] at q3
    rw [(hT.2.2.2.2 i (by omega) q2).2, ← hhi] at q4
    have hob : v_ob W ≤ 0 := by omega
    have h4 := h4 (by omega) (by omega) hob
    have hi0 : 0 ≤ i := by omega
    have hx2 : lo ≤ x ∧ x ≤ hi := by omega
    refine cx_save (by omega) h ?_
    intro I2 P2 f1 f2 h
    clear hA hB hC hS hR hV hRC d4 d5 a0 a1 a2 a3 a4 a5 a6 b0 b1 b2 b3 b4 b5 b6 b7 b8 b9 hG k20 hm2 tm σ dr m L π ob
    obtain ⟨σ, dr, hA, hB, hC, ⟨⟨⟨m, L, π, hS, hR⟩, hV, hRC⟩, d4, d5⟩⟩ := id h; obtain ⟨⟨a0, a1, a2, a3, a4, a5, a6⟩, ⟨b0, b1, b2, b3, b4, b5, b6, b7, b8, b9⟩, -⟩ := id hA; have hG := hV.1; have k20 := hS.k.1; have hm2 := hS.m2; have tm := hS.ob
    have ob := hS.b.ob (by omega)
    refine ⟨a0, 20, a1, k20, 21, hS.p.1, hS.k.2.1, by rw [hS.k.2.2.1]; omega, by rw [hS.k.2.2.1]; omega, ?_⟩
    rintro I14 rfl
    rw [hS.c.st hi0 q2]
    have noon : ∀ p, 0 ≤ p → p < W 9 → ¬ W (800 + p) = 0 := by
      intro p x1 x2 x3
      obtain ⟨j, j0, j1, j2⟩ := hS.b.ex x1 x2 x3
      omega
    refine h4 _ P2 (f1.tr (fun a ha => am_u2_ne (by omega))) f2 (h.low (fun a ha => am_u2_ne (by omega)) (am_u2_o (by omega)) ?_ (fun j hj => v_un (by omega)) (v_un (by omega)) ?_)
    · obtain ⟨c0, c1, c2, c3, c4, c5, c6, c7⟩ := hS.c
      refine ⟨fun k x1 x2 => ?_, ?_, fun j k x1 x2 x3 x4 => ?_, ?_, fun k x1 x2 => ⟨?_, ?_⟩, ?_, ?_, ?_⟩
      · by_cases e : k = i
        · subst e; rw [am_u2_s, v_us]
        · rw [am_u2_o (by omega), v_un (by omega)]; exact c0 k x1 x2
      · rw [am_u2_o (by omega), v_un (by omega)]; exact c1
      · rw [am_u2_o (by omega), v_un (by omega)]; exact c2 j k x1 x2 x3 x4
      · rw [am_u2_o (by omega), v_un (by omega)]; exact c3
      · rw [am_u2_o (by omega), v_un (by omega)]; exact (c4 k x1 x2).1
      · rw [am_u2_o (by omega), v_un (by omega)]; exact (c4 k x1 x2).2
      · rw [am_u2_o (by omega), v_un (by omega)]; exact c5
      · rw [am_u2_o (by omega), v_un (by omega)]; exact c6
      · rw [am_u2_o (by omega), v_un (by omega)]; exact c7
    · have hs : ∀ k : Int, 0 ≤ k → ¬ k = 1 + i → v_u W (1 + i) x k = W k := fun k _ e => v_un e
      have hx : v_u W (1 + i) x (1 + i) = x := v_us
      obtain ⟨e, he, hr⟩ := hG.rl
      have bd : ∀ k : Int, 0 ≤ k → k ≤ 5 → ∀ a b : Int, (a ≤ W (1 + k) ∧ W (1 + k) ≤ b) → (k = i → a ≤ x ∧ x ≤ b) → a ≤ v_u W (1 + i) x (1 + k) ∧ v_u W (1 + i) x (1 + k) ≤ b := by
        intro k k0 k1 a b h1 h2
        by_cases e : k = i
        · subst e; rw [hx]; exact h2 rfl
        · rw [v_un (by omega)]; exact h1
      refine ⟨v_G.mk ?_ (bd 0 (by omega) (by omega) 50 1000 hG.s1 (fun e => ?_)) (bd 1 (by omega) (by omega) 0 200 hG.s2 (fun e => ?_)) (bd 2 (by omega) (by omega) 0 500 hG.s3 (fun e => ?_)) (bd 3 (by omega) (by omega) 0 500 hG.s4 (fun e => ?_)) (bd 4 (by omega) (by omega) 1000 5000 hG.s5 (fun e => ?_)) (bd 5 (by omega) (by omega) 0 100 hG.s6 (fun e => ?_)) ?_ ?_ ?_ ?_ ?_ ?_ ⟨e, he, (v_r_cg (T := v_T W) (T' := v_T (v_u W (1 + i) x)) (fun k a b => v_un (by omega)) 50 0 e (by omega) he hr).1⟩ ?_ ?_, ?_, ?_⟩
      · rw [hs 0 (by omega) (by omega)]; exact hG.d0
      · subst e; rw [if_pos rfl] at hlo hhi; omega
      · subst e; rw [if_neg (by omega), if_neg (by omega)] at hlo; rw [if_neg (by omega), if_pos rfl] at hhi; omega
      · subst e; rw [if_neg (by omega), if_neg (by omega)] at hlo; rw [if_neg (by omega), if_neg (by omega), if_neg (by omega), if_neg (by omega)] at hhi; omega
      · subst e; rw [if_neg (by omega), if_neg (by omega)] at hlo; rw [if_neg (by omega), if_neg (by omega), if_neg (by omega), if_neg (by omega)] at hhi; omega
      · subst e; rw [if_neg (by omega), if_pos rfl] at hlo; rw [if_neg (by omega), if_neg (by omega), if_pos rfl] at hhi; omega
      · subst e; rw [if_neg (by omega), if_neg (by omega)] at hlo; rw [if_neg (by omega), if_neg (by omega), if_neg (by omega), if_pos rfl] at hhi; omega
      · rw [hs 7 (by omega) (by omega)]; exact hG.l7
      · rw [hs 8 (by omega) (by omega)]; exact hG.r8
      · rw [hs 9 (by omega) (by omega)]; exact hG.n9
      · intro l l0 l1
        rw [hs 7 (by omega) (by omega)] at l1
        rw [hs (16 + l) (by omega) (by omega), hs (22 + l) (by omega) (by omega), hs (28 + l) (by omega) (by omega), hs (34 + l) (by omega) (by omega)]
        exact hG.ln l l0 l1
      · intro l l0 l1
        have g7 := hG.l7
        rw [hs 7 (by omega) (by omega)] at l0
        rw [hs (34 + l) (by omega) (by omega), hs (40 + l) (by omega) (by omega)]
        exact hG.l0 l l0 l1
      · intro k l0 l1
        rw [hs 8 (by omega) (by omega)] at l1
        rw [hs (46 + k) (by omega) (by omega), hs (76 + k) (by omega) (by omega), hs 7 (by omega) (by omega)]
        exact hG.rt k l0 l1
      · intro p l0 l1
        rw [hs 9 (by omega) (by omega)] at l1
        rw [hs (200 + p) (by omega) (by omega), hs (500 + p) (by omega) (by omega), hs (1100 + p) (by omega) (by omega), hs (1400 + p) (by omega) (by omega), hs (1700 + p) (by omega) (by omega), hs (2600 + p) (by omega) (by omega), hs (800 + p) (by omega) (by omega)]
        exact hG.pt p l0 l1
      · intro p q p0 p1 p2 p3 p4
        rw [hs 9 (by omega) (by omega)] at p2
        rw [hs _ (by omega) (by omega)] at p3
        exact (noon p p0 (by omega) p3).elim
      · intro p p0 p1 p2
        rw [hs 9 (by omega) (by omega)] at p1
        rw [hs _ (by omega) (by omega)] at p2
        exact (noon p p0 p1 p2).elim
      · rw [hs 0 (by omega) (by omega)]; exact hV.2.2
  · rw [(hT.2.2.2.2 i (by omega) q2).1, ← hlo] at q3
    rw [(hT.2.2.2.2 i (by omega) q2).2, ← hhi] at q4
    exact h3 (by omega) (by omega) (by omega)
  · rw [(hT.2.2.2.2 i (by omega) q2).2, ← hhi] at q4
    exact h2 (by omega) (by omega)
end
