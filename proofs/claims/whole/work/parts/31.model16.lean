section
variable {d : Nat} {K N : Nat → Nat} {I I1 : Nat → Nat → Int} {P : Nat → Nat → Option Nat} {z : Nat} {Q : am_V → am_T} {W : Int → Int} {S : Int → Int → Int} {c : Int} {T : Int → Int} {n : Int}
theorem v_it_off {W : Int → Int} (hG : v_G W) (hF : v_F W) (k : Nat) {p : Int} (p0 : 0 ≤ p) (p1 : p < W 9) : v_on (v_it k W) p = true → v_on W p = true := fun h => decide_eq_true (v_it_on hG hF p0 p1 k (of_decide_eq_true h)).1
theorem sp_nextLeaving (hd : 8 ≤ d) (hm : MS K N P) (hA : MA I W S c T n) (hG : v_G W) (hF : v_F W) (h0 : W 0 ≤ 50000) (h1 : v_ob W = 0 → OM K N I P z Q 0 (am_i (-1)) W S c T n) (h2 : ¬ v_ob W = 0 → ∀ k : Nat, (∀ j : Nat, j < k → v_ob (v_it j W) = v_ob W) → ¬ v_ob (v_it k W) = v_ob W → OM K N I P z Q 0 (am_i k) W S c T n) : am_C d m_X8_nextLeaving [am_r 284] K N I P z Q am_nx := by
  have hFF := hF
  clear hF
  refine wf_X8_nextLeaving (by omega) ⟨hm.1, ?_⟩
  rintro I2 rfl; replace hA := hA.th (x := 0); have hF : FM I (am_u2 I 284 7 0) := FM.rf.put (by omega); have ht : am_u2 I 284 7 0 284 7 = 0 := am_u2_s; have hW := hA.w; generalize am_u2 I 284 7 0 = I1 at *
  have g9 := hG.n9
  have g0 := hG.d0
  refine sp_onBelt (by omega) hm hW (n := (W 9).toNat) (by omega) (by omega) ?_
  simp only [am_iv]
  refine ⟨fun q => ⟨hm.1, sp_beginTrial hm hA ?_⟩, fun q => h1 q I1 hF hA ht⟩
  intro I2 hF2 hA2 ht3 ht2
  have eob : ∀ k : Nat, v_ob (v_it k W) = v_cnt (v_on (v_it k W)) (W 9).toNat := by
    intro k
    show v_cnt (v_on (v_it k W)) ((v_it k W) 9).toNat = _
    rw [(v_it_G hG hFF k).2.2.1.n9]
  obtain ⟨p, p0, p1, p2⟩ := v_cnt_ex _ q
  have hend : ∀ k : Nat, (5000 : Int) ≤ k → ¬ v_cnt (v_on (v_it k W)) (W 9).toNat = v_cnt (v_on W) (W 9).toNat := by
    intro k hk e
    obtain ⟨i1, i2, i3, i4⟩ := v_it_G hG hFF k
    have a0 := (v_cnt_le (f := v_on W) (g := v_on (v_it k W)) (W 9).toNat (fun p a b => v_it_off hG hFF k a (by omega))).2 e p p0 p1 p2
    have a1 := v_it_on hG hFF p0 (by omega) k (of_decide_eq_true a0)
    have a2 := i2 p p0 (by rw [i3.n9]; omega) (of_decide_eq_true a0)
    have a3 := i1.s5
    have a4 := hG.pt p p0 (by omega)
    omega
  have key : ∀ (m k : Nat) (I' : Nat → Nat → Int), k + m = 5000 → (∀ j : Nat, j < k → v_ob (v_it j W) = v_ob W) → FM I I' → MA I' (v_it k W) S c T n → I' 284 7 = 0 → (∀ i : Int, 0 ≤ i → i < 3200 → I' 287 i.toNat = W i) → L_X8_nextLeaving_22 d 284 (v_cnt (v_on W) (W 9).toNat) k K N I' P z Q := by
    intro m
    induction m with
    | zero =>
      intro k I' hk hpre hF hA ht ht3
      obtain ⟨i1, i2, i3, i4⟩ := v_it_G hG hFF k
      refine wf_X8_nextLeaving_22 (by omega) ⟨hm.1, sp_onBelt (by omega) hm hA.w (n := (W 9).toNat) (by rw [i3.n9]; omega) (by omega) ?_⟩
      simp only [am_iv]
      refine ⟨fun r => ⟨hm.1, sp_endTrial hm hA ht3 ?_⟩, fun r => (hend k (by omega) r).elim⟩
      intro I3 hF3 hA3 ht4
      exact h2 q k hpre (by rw [eob]; exact r) _ (hF.tr hF3) hA3 (ht4.trans ht)
    | succ m ih =>
      intro k I' hk hpre hF hA ht ht3
      obtain ⟨i1, i2, i3, i4⟩ := v_it_G hG hFF k
      refine wf_X8_nextLeaving_22 (by omega) ⟨hm.1, sp_onBelt (by omega) hm hA.w (n := (W 9).toNat) (by rw [i3.n9]; omega) (by omega) ?_⟩
      simp only [am_iv]
      refine ⟨fun r => ⟨hm.1, sp_endTrial hm hA ht3 ?_⟩, fun r => ⟨hm.1, ?_⟩⟩
      · intro I3 hF3 hA3 ht4
        exact h2 q k hpre (by rw [eob]; exact r) _ (hF.tr hF3) hA3 (ht4.trans ht)
      · refine sp_go (by omega) hm hA.w i1 i2 (by omega) ?_
        intro I3 hI3 hW3
        rw [am_wE (by omega) (by omega)]
        refine ih (k + 1) I3 (by omega) ?_ (hF.tr hI3.FM) (hA.fr hI3 hW3) ((hI3 284 7 (by omega) (by omega)).trans ht) (fun i a b => (hI3 287 _ (by omega) (by omega)).trans (ht3 i a b))
        intro j hj
        rcases (show j < k ∨ j = k by omega) with e | e
        · exact hpre j e
        · subst e; rw [eob]; exact r
  exact key 5000 0 I2 (by omega) (fun j hj => absurd hj (by omega)) (hF.tr hF2) hA2 (ht2.trans ht) ht3
theorem sp_laneFor (hd : 6 ≤ d) (hm : MS K N P) (hA : MA I W S c T n) (hG : v_G W) {x y : Int} (h1 : ¬ ((0 ≤ x ∧ x ≤ 999) ∧ (10 ≤ y ∧ y ≤ 400)) → OM K N I P z Q 1 (am_i 0) W S c T n) (h2 : (0 ≤ x ∧ x ≤ 999) ∧ (10 ≤ y ∧ y ≤ 400) → OM K N I P z Q 0 (am_i (v_lby W x y)) W S c T n) : am_C d m_X8_laneFor [am_r 284, am_i x, am_i y] K N I P z Q am_nx := by
  refine wf_X8_laneFor (by omega) ⟨hm.1, ?_⟩
  rintro I2 rfl; replace hA := hA.th (x := 0); have hF : FM I (am_u2 I 284 7 0) := FM.rf.put (by omega); have ht : am_u2 I 284 7 0 284 7 = 0 := am_u2_s; have hW := hA.w; generalize am_u2 I 284 7 0 = I1 at *
  refine sp_isCode (by omega) ?_
  simp only [am_iv, ite_z]
  refine ⟨fun q => ⟨hm.1, sp_no hm hF hA (h1 (fun r => q r.1))⟩, fun q => ?_⟩
  simp only [Decidable.not_not] at q
  refine sp_in ?_
  simp only [am_iv, ite_z]
  refine ⟨fun q2 => ⟨hm.1, sp_no hm hF hA (h1 (fun r => q2 r.2))⟩, fun q2 => ?_⟩
  simp only [Decidable.not_not] at q2
  refine ⟨hm.1, sp_laneBy (by omega) hm hW hG q.1 q.2 ?_⟩
  intro I2 hI2 hW2
  simp only [am_iv]
  exact h2 ⟨q, q2⟩ _ (hF.tr hI2.FM) (hA.fr hI2 hW2) ((hI2 284 7 (by omega) (by omega)).trans ht)
end
