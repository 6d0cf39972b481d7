section
variable {d : Nat} {K N : Nat → Nat} {I I' : Nat → Nat → Int} {P P' : Nat → Nat → Option Nat} {z : Nat} {Q : am_V → am_T} {X : Nat → am_T} {W W' V W0 L0 : Int → Int} {S : Int → Int → Int} {c : Int} {T : Int → Int} {n : Int} {s s2 dr : Nat} {m m0 : Int} {L : Int → Int} {π π0 : Int → Nat}
theorem v_G.pts (hG : v_G W) (h : ∀ i : Int, 0 ≤ i → i < 200 → ¬ i = 9 → ¬ i = 10 → W' i = W i) (n9 : 0 ≤ W' 9 ∧ W' 9 ≤ 300)
    (pt : ∀ p, 0 ≤ p → p < W' 9 → (10 ≤ W' (200 + p) ∧ W' (200 + p) ≤ 400) ∧ (0 ≤ W' (500 + p) ∧ W' (500 + p) ≤ 5000) ∧ (-1 ≤ W' (1100 + p) ∧ W' (1100 + p) ≤ 999) ∧ (W' (1400 + p) = 0 ∨ W' (1400 + p) = 1) ∧ (W' (1700 + p) = 0 ∨ W' (1700 + p) = 1) ∧ (W' (2600 + p) = 0 ∨ W' (2600 + p) = 5 ∨ W' (2600 + p) = 6) ∧ (0 ≤ W' (800 + p) ∧ W' (800 + p) ≤ 15))
    (od : ∀ p q, 0 ≤ p → p < q → q < W' 9 → W' (800 + p) = 0 → W' (800 + q) = 0 → W' (500 + q) ≤ W' (500 + p) - W' (200 + p)) : v_G W' := by
  obtain ⟨e, he, hr⟩ := hG.rl
  have g7 := hG.l7
  have g8 := hG.r8
  have f := fun i a b c d => h i a b c d
  refine v_G.mk ?_ ?_ ?_ ?_ ?_ ?_ ?_ ?_ ?_ n9 (fun l a b => ?_) (fun l a b => ?_) (fun k a b => ?_) ⟨e, he, (v_r_cg (T := v_T W) (T' := v_T W') (fun i a b => h _ (by omega) (by omega) (by omega) (by omega)) 50 0 e (by omega) he hr).1⟩ pt od
  · rw [h 0 (by omega) (by omega) (by omega) (by omega)]; exact hG.d0
  · rw [h 1 (by omega) (by omega) (by omega) (by omega)]; exact hG.s1
  · rw [h 2 (by omega) (by omega) (by omega) (by omega)]; exact hG.s2
  · rw [h 3 (by omega) (by omega) (by omega) (by omega)]; exact hG.s3
  · rw [h 4 (by omega) (by omega) (by omega) (by omega)]; exact hG.s4
  · rw [h 5 (by omega) (by omega) (by omega) (by omega)]; exact hG.s5
  · rw [h 6 (by omega) (by omega) (by omega) (by omega)]; exact hG.s6
  · rw [h 7 (by omega) (by omega) (by omega) (by omega)]; exact g7
  · rw [h 8 (by omega) (by omega) (by omega) (by omega)]; exact g8
  · rw [h 7 (by omega) (by omega) (by omega) (by omega)] at b
    rw [h _ (by omega) (by omega) (by omega) (by omega), h _ (by omega) (by omega) (by omega) (by omega), h _ (by omega) (by omega) (by omega) (by omega), h _ (by omega) (by omega) (by omega) (by omega)]
    exact hG.ln l a b
  · rw [h 7 (by omega) (by omega) (by omega) (by omega)] at a
    rw [h _ (by omega) (by omega) (by omega) (by omega), h _ (by omega) (by omega) (by omega) (by omega)]
    exact hG.l0 l a b
  · rw [h 8 (by omega) (by omega) (by omega) (by omega)] at b
    rw [h 7 (by omega) (by omega) (by omega) (by omega), h _ (by omega) (by omega) (by omega) (by omega), h _ (by omega) (by omega) (by omega) (by omega)]
    exact hG.rt k a b
theorem v_ent_o {x i : Int} (h0 : ¬ i = 9) (h : ∀ c : Int, v_col c ∨ c = 2900 → ¬ i = c + W 9) (hl : ¬ v_la W = -1 → ¬ i = 1700 + v_la W) : v_ent W x i = W i := by
  have a := v_new_o (W := W) (x := x) h0 (fun c hc => h c (by unfold v_col; omega))
  unfold v_ent
  split
  · rename_i q
    rw [v_un (hl q.1), v_un (h 1700 (by unfold v_col; omega))]; exact a
  · exact a
theorem v_ent_9 {x : Int} (h0 : 0 ≤ W 9) (hl : v_la W < W 9) (hl1 : -1 ≤ v_la W) : v_ent W x 9 = W 9 + 1 := by
  unfold v_ent
  split
  · rename_i q
    rw [v_un (by omega), v_un (by omega)]; exact v_new_9
  · exact v_new_9
theorem cx_enter (hd : 6 ≤ d) (h : GI K N I P z W S c T n) {x : Int} (h1 : ¬ (10 ≤ x ∧ x ≤ 400) → X 1 K N I P z)
    (h2 : 10 ≤ x ∧ x ≤ 400 → (¬ v_la W = -1 ∧ v_tl W (v_la W) < 0) ∨ v_ob W = 20 ∨ W 9 = 300 → X 2 K N I P z)
    (h3 : 10 ≤ x ∧ x ≤ 400 → ¬ ((¬ v_la W = -1 ∧ v_tl W (v_la W) < 0) ∨ v_ob W = 20 ∨ W 9 = 300) → ∀ I' P', GF I I' → GP P P' → GI K N I' P' z (v_ent W x) (v_svS S c W) (v_svc c) T n → Q (am_i (W 9)) K N I' P' z) : am_C d m_X7_enter [am_r 4, am_i x] K N I P z Q X := by
  obtain ⟨σ, dr, hA, hB, hC, ⟨⟨⟨m, L, π, hS, hR⟩, hV, hRC⟩, d4, d5⟩⟩ := id h; obtain ⟨⟨a0, a1, a2, a3, a4, a5, a6⟩, ⟨b0, b1, b2, b3, b4, b5, b6, b7, b8, b9⟩, -⟩ := id hA; have hG := hV.1; have k20 := hS.k.1; have hm2 := hS.m2; have tm := hS.ob
  have g9 := hG.n9
  have ob := hS.b.ob (by omega)
  have la := hS.b.la (by omega)
  have e7 : I 20 7 = W 9 := hS.c.2.2.2.2.2.1
  refine wf_X7_enter hd ⟨fun q => h1 (by omega), fun q => ⟨fun q2 => ⟨a0, 20, a1, k20, cs_free (by omega) hS hG ?_⟩, fun q2 => h1 (by omega)⟩⟩
  have h2 := h2 (by omega)
  have h3 := h3 (by omega)
  have hfree : (0 : Int) ≤ (if m = 0 then 1000000 else v_tl W (L (m - 1))) ↔ ¬ (¬ v_la W = -1 ∧ v_tl W (v_la W) < 0) := by
    by_cases e : m = 0
    · rw [if_pos e, la, if_pos e]
      exact ⟨fun _ q => q.1 rfl, fun _ => by omega⟩
    · have o := hS.b.on (j := m - 1) (by omega) (by omega)
      rw [if_neg e, la, if_neg e]
      exact ⟨fun r q => absurd q.2 (by omega), fun r => by
        rcases (show 0 ≤ v_tl W (L (m - 1)) ∨ v_tl W (L (m - 1)) < 0 by omega) with t | t
        · exact t
        · exact (r ⟨by omega, t⟩).elim⟩
  simp only [am_iv]
  refine ⟨fun r => ⟨a0, 20, a1, k20, fun r2 => ?_, fun r2 => ⟨fun r3 => ?_, fun r3 => ?_⟩⟩, fun r => ?_⟩
  · exact h2 (Or.inr (Or.inl (by show v_ob W = 20; omega)))
  · have r2' : m < 20 := by omega
    have r3' : W 9 < 300 := by omega
    have hcond : ¬ ((¬ v_la W = -1 ∧ v_tl W (v_la W) < 0) ∨ v_ob W = 20 ∨ W 9 = 300) := by
      intro q
      rcases q with q | q | q
      · exact hfree.mp r q
      · omega
      · omega
    have h3 := h3 hcond
    refine cx_save2 (by omega) h ?_
    intro I2 P2 f1 f2 h fx
    have hS2 : ST K N I2 P2 20 W m L π := hS.tr (fun a x y => (fx.1 a (by omega)).1) (fun a k x y _ => by rw [(fx.1 a (by omega)).2])
    clear hS hA hB hC hR d4 d5 a0 a1 a2 a3 a4 a5 a6 b0 b1 b2 b3 b4 b5 b6 b7 b8 b9 tm e7 hRC hV σ dr
    obtain ⟨σ, dr, hA, hB, hC, ⟨⟨_, hV, hRC⟩, d4, d5⟩⟩ := id h
    have hh : m = 0 ∨ 0 ≤ v_tl W (L (m - 1)) := by
      by_cases e : m = 0
      · exact Or.inl e
      · rw [if_neg e] at r; exact Or.inr r
    refine ⟨hA.1.1, 20, hA.1.2.1, k20, cs_begin (by omega) hS2 hG (hB 20 sN.now).2.2.1 r2' r3' hh ?_⟩
    intro I3 f3 f4 f5
    have lb := v_prev_bd (v_on W) (W 9).toNat
    have lon := v_prev_on (v_on W) (W 9).toNat
    have lno := v_prev_no (v_on W) (W 9).toNat
    have llt : v_la W < W 9 := by show v_prev (v_on W) (W 9).toNat < W 9; omega
    have lge : -1 ≤ v_la W := lb.1
    have v9 : v_ent W x 9 = W 9 + 1 := v_ent_9 (by omega) llt lge
    have np := v_new_p (W := W) (x := x) (by omega) (by omega)
    have vp : ∀ c2 : Int, v_col c2 → ¬ c2 = 1700 → v_ent W x (c2 + W 9) = v_new W x (c2 + W 9) := by
      intro c2 hc hc2
      unfold v_ent
      split
      · rename_i q
        rw [v_un (by unfold v_col at hc; omega), v_un (by omega)]
      · rfl
    have vm : v_ent W x (1700 + W 9) = 0 ∨ v_ent W x (1700 + W 9) = 1 := by
      unfold v_ent
      split
      · right
        rw [v_un (by omega), v_us]
      · left; exact np.2.2.2.2.2.1
    have vo : ∀ p c2 : Int, 0 ≤ p → p < W 9 → v_col c2 → ¬ c2 = 1700 → v_ent W x (c2 + p) = W (c2 + p) := fun p c2 p0 p1 hc hc2 => v_ent_o (by unfold v_col at hc; omega) (fun c3 hc3 => by unfold v_col at hc hc3; omega) (fun q e => by unfold v_col at hc; omega)
    have vo17 : ∀ p : Int, 0 ≤ p → p < W 9 → (v_ent W x (1700 + p) = W (1700 + p) ∨ (v_ent W x (1700 + p) = 1 ∧ W (800 + p) = 0)) := by
      intro p p0 p1
      by_cases e : ¬ v_la W = -1 ∧ p = v_la W
      · unfold v_ent
        split
        · right
          refine ⟨by rw [e.2, v_us], ?_⟩
          rw [e.2]; exact of_decide_eq_true (lon e.1)
        · left
          exact v_new_o (by omega) (fun c3 hc3 => by omega)
      · left
        exact v_ent_o (by omega) (fun c3 hc3 => by unfold v_col at hc3; omega) (fun q e2 => e ⟨q, by omega⟩)
    have vlow : ∀ i : Int, 0 ≤ i → i < 200 → ¬ i = 9 → v_ent W x i = W i := fun i i0 i1 i2 => v_ent_o i2 (fun c3 hc3 => by unfold v_col at hc3; omega) (fun q e2 => by omega)
    -- tails on the belt are not behind the entry
    have tl0 : ∀ p, 0 ≤ p → p < W 9 → W (800 + p) = 0 → 0 ≤ W (500 + p) - W (200 + p) := by
      intro p p0 p1 p2
      have hle : p ≤ v_la W := by
        rcases (show p ≤ v_la W ∨ v_la W < p by omega) with q | q
        · exact q
        · have := lno p q (by omega)
          simp [v_on, p2] at this
      have hl : ¬ v_la W = -1 := by omega
      have ol : W (800 + v_la W) = 0 := of_decide_eq_true (lon hl)
      have tl : ¬ v_tl W (v_la W) < 0 := fun q => hcond (Or.inl ⟨hl, q⟩)
      simp only [v_tl] at tl
      have lt := llt
      rcases (show p = v_la W ∨ p < v_la W by omega) with q | q
      · rw [q]; omega
      · have := hG.od p (v_la W) p0 q lt p2 ol
        have := hG.pt (v_la W) (by omega) lt
        omega
    refine h3 I3 P2 (f1.tr (fun a ha => f3 a (by omega))) f2 (h.now (fun a ha hb => f3 a (by omega)) (fun _ _ => rfl) ⟨_, _, _, f5⟩ f4 (fun i i0 i1 => vlow _ (by omega) (by omega) (by omega)) ⟨?_, ?_, ?_⟩ ?_ ?_)
    · refine hG.pts (fun i i0 i1 i2 i3 => vlow i i0 i1 i2) (by rw [v9]; omega) (fun p p0 p1 => ?_) (fun p q p0 p1 p2 p3 p4 => ?_)
      · rw [v9] at p1
        by_cases e : p = W 9
        · subst e
          rw [vp 200 (by unfold v_col; omega) (by omega), vp 500 (by unfold v_col; omega) (by omega), vp 1100 (by unfold v_col; omega) (by omega), vp 1400 (by unfold v_col; omega) (by omega), vp 2600 (by unfold v_col; omega) (by omega), vp 800 (by unfold v_col; omega) (by omega), np.1, np.2.1, np.2.2.1, np.2.2.2.1, np.2.2.2.2.1, np.2.2.2.2.2.2.2.2.1]
          refine ⟨by omega, by omega, by omega, Or.inl rfl, vm, Or.inl rfl, by omega⟩
        · have gp := hG.pt p p0 (by omega)
          have := vo17 p p0 (by omega)
          rw [vo p 200 p0 (by omega) (by unfold v_col; omega) (by omega), vo p 500 p0 (by omega) (by unfold v_col; omega) (by omega), vo p 1100 p0 (by omega) (by unfold v_col; omega) (by omega), vo p 1400 p0 (by omega) (by unfold v_col; omega) (by omega), vo p 2600 p0 (by omega) (by unfold v_col; omega) (by omega), vo p 800 p0 (by omega) (by unfold v_col; omega) (by omega)]
          refine ⟨gp.1, gp.2.1, gp.2.2.1, gp.2.2.2.1, ?_, gp.2.2.2.2.2⟩
          rcases this with t | t
          · rw [t]; exact gp.2.2.2.2.1
          · exact Or.inr t.1
      · rw [v9] at p2
        rw [vo p 800 p0 (by omega) (by unfold v_col; omega) (by omega)] at p3
        rw [vo p 500 p0 (by omega) (by unfold v_col; omega) (by omega), vo p 200 p0 (by omega) (by unfold v_col; omega) (by omega)]
        by_cases e : q = W 9
        · subst e
          rw [vp 500 (by unfold v_col; omega) (by omega), np.2.1]
          exact tl0 p p0 (by omega) p3
        · rw [vo q 800 (by omega) (by omega) (by unfold v_col; omega) (by omega)] at p4
          rw [vo q 500 (by omega) (by omega) (by unfold v_col; omega) (by omega)]
          exact hG.od p q p0 p1 (by omega) p3 p4
    · intro p p0 p1 p2
      have g5 := hG.s5
      rw [v9] at p1
      rw [vlow 5 (by omega) (by omega) (by omega)]
      by_cases e : p = W 9
      · subst e
        rw [vp 500 (by unfold v_col; omega) (by omega), np.2.1]; omega
      · rw [vo p 800 p0 (by omega) (by unfold v_col; omega) (by omega)] at p2
        rw [vo p 500 p0 (by omega) (by unfold v_col; omega) (by omega)]
        exact hV.2.1 p p0 (by omega) p2
    · rw [vlow 0 (by omega) (by omega) (by omega)]; exact hV.2.2
    · intro p p0 p1 p2
      refine ⟨by rw [v9]; omega, fun c2 hc => ?_⟩
      by_cases e : c2 = 1700
      · subst e
        rcases vo17 p p0 p1 with t | t
        · exact t
        · exact (p2 t.2).elim
      · exact vo p c2 p0 p1 hc e
    · intro p k p0 p1 p2 k0 k1
      rw [v9] at p1
      have ne : ¬ p = W 9 := by
        rintro rfl
        rw [vp 800 (by unfold v_col; omega) (by omega), np.2.2.1] at p2
        exact p2 rfl
      have off : ¬ W (800 + p) = 0 := by
        rw [← vo p 800 p0 (by omega) (by unfold v_col; omega) (by omega)]; exact p2
      rw [f3 7 (by omega), hRC p k p0 (by omega) off k0 k1]
      refine (v_pp_sub (fun c2 hc => ?_) off).symm
      by_cases e : c2 = 1700
      · subst e
        rcases vo17 p p0 (by omega) with t | t
        · exact t
        · exact (off t.2).elim
      · exact vo p c2 p0 (by omega) hc e
  · exact h2 (Or.inr (Or.inr (by omega)))
  · refine h2 (Or.inl ?_)
    rcases Decidable.em (¬ v_la W = -1 ∧ v_tl W (v_la W) < 0) with t | t
    · exact t
    · exact (r (hfree.mpr t)).elim
end
