section
variable {K N : Nat → Nat} {P : Nat → Nat → Option Nat} {z : Nat} {T U : Int → Int} {n : Int} {dr : Nat}
theorem ct_rule (hr : RO K N P dr) (hn : rN dr) : ∀ (k d : Nat) (I : Nat → Nat → Int) (p cnt qs : Int) (Q : am_V → am_T), 2 * k + 6 ≤ d → k ≤ 6 → TX K N I P T n → I 8 2 = p → 0 ≤ p → p ≤ n → I dr 4 = cnt → I dr 5 = qs → 0 ≤ cnt → cnt ≤ p → 0 ≤ qs → qs ≤ p →
    ((v_tr (v_sg T n) k p).1 = true → ∀ (I' : Nat → Nat → Int) (cnt' : Int), DF dr I I' → I' 8 2 = (v_tr (v_sg T n) k p).2.1 → I' dr 4 = cnt' → cnt < cnt' → cnt' ≤ (v_tr (v_sg T n) k p).2.1 → I' dr 5 = qs + (v_tr (v_sg T n) k p).2.2 → (∀ j : Int, 0 ≤ j → j < cnt → I' (dr + 1) j.toNat = I (dr + 1) j.toNat ∧ I' (dr + 2) j.toNat = I (dr + 2) j.toNat ∧ I' (dr + 3) j.toNat = I (dr + 3) j.toNat ∧ I' (dr + 4) j.toNat = I (dr + 4) j.toNat) → (∀ U : Int → Int, (∀ i, 0 ≤ i → i < n → U i = T i) → RN I' dr U (k + 1) cnt p cnt' (v_tr (v_sg T n) k p).2.1) → Q (am_i 1) K N I' P z) →
    ((v_tr (v_sg T n) k p).1 = false → ∀ I', DF dr I I' → I' 8 2 = (v_tr (v_sg T n) k p).2.1 → Q (am_i 0) K N I' P z) → am_C d m_X5_takesRule [am_r 8, am_r dr, am_i (6 - (k : Int))] K N I P z Q am_nx := by
  intro k
  have hg : ∀ i, n ≤ i → v_sg T n i = -1 := fun i h => v_sg_out h
  have d8 : ¬ (dr ≤ 8 ∧ 8 < dr + 5) := by unfold rN at hn; omega
  -- a leaf
  have leaf : ∀ (k d : Nat) (I : Nat → Nat → Int) (p cnt qs a : Int) (Q : am_V → am_T), 6 ≤ d → TX K N I P T n → I 8 2 = p → 0 ≤ p → p ≤ n → I dr 4 = cnt → I dr 5 = qs → 0 ≤ cnt → cnt ≤ p → ((v_sg T n p = 120 ∧ a = -1) ∨ ((48 ≤ v_sg T n p ∧ v_sg T n p ≤ 53) ∧ a = v_sg T n p - 48)) →
      (∀ (I' : Nat → Nat → Int) (cnt' : Int), DF dr I I' → I' 8 2 = p + 1 → I' dr 4 = cnt' → cnt < cnt' → cnt' ≤ p + 1 → I' dr 5 = qs + 0 → (∀ j : Int, 0 ≤ j → j < cnt → I' (dr + 1) j.toNat = I (dr + 1) j.toNat ∧ I' (dr + 2) j.toNat = I (dr + 2) j.toNat ∧ I' (dr + 3) j.toNat = I (dr + 3) j.toNat ∧ I' (dr + 4) j.toNat = I (dr + 4) j.toNat) → (∀ U : Int → Int, (∀ i, 0 ≤ i → i < n → U i = T i) → RN I' dr U (k + 1) cnt p cnt' (p + 1)) → Q (am_i 1) K N I' P z) →
      am_C (d - 1) m_X4_addLeaf [am_r dr, am_i a] K N I P z (fun _ K8 N9 I10 P11 z12 => K8 8 = 5 ∧ ∀ I15, I15 = am_u2 I10 8 2 (am_wr (I10 8 2 + 1)) → Q (am_i 1) K8 N9 I15 P11 z12) am_nx := by
    intro k d I p cnt qs a Q hd hx hp p0 p1 h4 h5 c0 c1 hl hq
    have hnn := hx.2.2.2.2.2.1
    have hlt : p < n := by
      rcases (show p < n ∨ n ≤ p by omega) with r | r
      · exact r
      · have := hg p r; omega
    refine wf_X4_addLeaf (by omega) ⟨hr.1, cu_node hr h4 c0 (by omega) (by omega) (by omega) ?_⟩
    intro I3 g0 g1 g2 g3 g4
    simp only [am_iv]
    refine ⟨hx.1, ?_⟩
    rintro I15 rfl
    have e8 : I3 8 2 = p := by rw [g0 8 d8]; exact hp
    rw [e8, am_wE (by omega) (by omega)]
    refine hq _ (cnt + 1) ((DF.nd hn g0).tr (DF.at hn)) am_u2_s (by rw [am_u2_o (by omega)]; exact g1) (by omega) (by omega) (by rw [am_u2_o (by omega), g2]; omega) (fun j j0 j1 => ?_) (fun U hU => ?_)
    · rw [am_u2_o (by omega), am_u2_o (by omega), am_u2_o (by omega), am_u2_o (by omega)]
      exact g3 j j0 j1
    · have up : U p = v_sg T n p := by rw [hU p p0 hlt, v_sg_in p0 hlt]
      refine ⟨⟨c0, ?_⟩, Or.inl ⟨?_, rfl, rfl, ?_⟩⟩
      · rw [am_u2_o (by omega), g1]; omega
      · rw [am_u2_o (by omega)]; exact g4.1
      · rw [am_u2_o (by omega), g4.2.1, up]
        rcases hl with q | q
        · exact Or.inl q
        · exact Or.inr q
  induction k with
  | zero =>
    intro d I p cnt qs Q hd hk hx hp p0 p1 h4 h5 c0 c1 q0 q1 hok hno
    unfold v_tr at hok hno
    refine wf_X5_takesRule (by omega) ⟨hx.1, ct_next hx hp p0 ?_⟩
    have no : ¬ v_lf (v_sg T n) p → Q (am_i 0) K N I P z := fun q => by
      rw [if_neg q] at hno
      exact hno rfl I DF.rf hp
    refine ⟨fun e => ⟨fun q => (q e).elim, fun _ => ⟨hr.1, ?_⟩⟩, fun e => ⟨fun e2 => ⟨fun _ => no (by simp only [v_lf]; omega), fun q => absurd q (by omega)⟩, fun e2 => ⟨fun e3 => ⟨fun _ => no (by simp only [v_lf]; omega), fun q => absurd q (by omega)⟩, fun e3 => ⟨fun _ => ⟨hr.1, ?_⟩, fun q => (e q).elim⟩⟩⟩⟩
    · rw [if_pos (Or.inl e)] at hok
      exact leaf 0 d I p cnt qs (-1) Q (by omega) hx hp p0 p1 h4 h5 c0 c1 (Or.inl ⟨e, rfl⟩) (hok rfl)
    · rw [am_wE (by omega) (by omega)]
      rw [if_pos (Or.inr (by omega))] at hok
      exact leaf 0 d I p cnt qs _ Q (by omega) hx hp p0 p1 h4 h5 c0 c1 (Or.inr ⟨by omega, rfl⟩) (hok rfl)
  | succ k ih =>
    intro d I p cnt qs Q hd hk hx hp p0 p1 h4 h5 c0 c1 q0 q1 hok hno
    have hnn := hx.2.2.2.2.2.1
    have bt := v_tr_bd hg k
    have bc := v_tc_bd hg (p := p + 1)
    unfold v_tr at hok hno
    refine wf_X5_takesRule (by omega) ⟨hx.1, ct_next hx hp p0 ?_⟩
    have choice : ¬ v_lf (v_sg T n) p → am_C (d - 1) m_X5_takesChoice [am_r 8, am_r dr, am_i (6 - ((k + 1 : Nat) : Int))] K N I P z (fun v K31 N32 I33 P34 z35 => am_iv v fun x37 => ((x37 = 0 → Q (am_i 0) K31 N32 I33 P34 z35) ∧ (¬ (x37 = 0) → Q (am_i 1) K31 N32 I33 P34 z35))) am_nx := by
      intro nl
      rw [if_neg nl] at hok hno
      have y1 : ∀ I', Q (am_i 1) K N I' P z → am_iv (am_i 1) fun x37 => ((x37 = 0 → Q (am_i 0) K N I' P z) ∧ (¬ (x37 = 0) → Q (am_i 1) K N I' P z)) := fun I' h => ⟨fun q => absurd q (by decide), fun _ => h⟩
      have y0 : ∀ I', Q (am_i 0) K N I' P z → am_iv (am_i 0) fun x37 => ((x37 = 0 → Q (am_i 0) K N I' P z) ∧ (¬ (x37 = 0) → Q (am_i 1) K N I' P z)) := fun I' h => ⟨fun _ => h, fun q => absurd rfl q⟩
      refine wf_X5_takesChoice (by omega) ⟨hx.1, ct_sign (by omega) hx hp p0 p1 (fun e => ⟨fun _ => ⟨hx.1, ?_⟩, fun q => absurd q (by decide)⟩) (fun e => ⟨fun q => absurd rfl q, fun _ => ?_⟩)⟩
      · have hlt : p < n := by
          rcases (show p < n ∨ n ≤ p by omega) with r | r
          · exact r
          · have := hg p r; omega
        rw [if_pos e] at hok hno
        have bc := bc (by omega)
        refine ct_cond (by omega) hx.at hr hn am_u2_s (by omega) (by omega) (by rw [am_u2_o (by omega)]; exact h4) (by rw [am_u2_o (by omega)]; exact h5) c0 (by omega) q0 (by omega) ?_ ?_
        · intro t1 I3 f1 f2 f3 f4 f5 f6
          rw [if_pos t1] at hok hno
          have bc3 := bc.2.2 t1
          have bt1 := bt (v_tc (v_sg T n) (p + 1)).2 bc.2.1
          have hx3 : TX K N I3 P T n := hx.at.df hn f1
          refine ⟨fun q => absurd q (by omega), fun _ => ⟨hx.1, ?_⟩⟩
          rw [am_wE (by omega) (by omega), show 6 - ((k + 1 : Nat) : Int) + 1 = 6 - k by omega]
          refine ih (d - 1 - 1) I3 _ (cnt + 1) (qs + 1) _ (by omega) (by omega) hx3 f2 (by omega) bc.2.1 f3 f4 (by omega) (by omega) (by omega) (by omega) ?_ ?_
          · intro t2 I4 cnt1 g1 g2 g3 g4 g5 g6 g7 g8
            rw [if_pos t2] at hok hno
            refine ⟨fun _ => ⟨hr.1, wf_X4_otherwise ⟨fun q => absurd q (by omega), fun _ => ⟨hr.1, fun q => absurd g3 (by omega), fun _ => ⟨dr + 4, hr.2.2.2.2.1, hr.2.2.2.2.2.2.2.2.2.2.2.1, by rw [hr.2.2.2.2.2.2.2.2.2.2.2.2]; omega, ?_⟩⟩⟩⟩, fun q => absurd q (by decide)⟩
            rintro I5 rfl
            rw [g3]
            have hx4 : TX K N I4 P T n := hx3.df hn g1
            have f5' : DF dr I4 (am_u2 I4 (dr + 4) cnt.toNat cnt1) := ⟨fun y a b => am_u2_ne (by omega), fun k a => am_u2_o (by omega)⟩
            have hx5 := hx4.df hn f5'
            refine ⟨hx.1, ?_⟩
            refine ih (d - 1 - 1) _ _ cnt1 _ _ (by omega) (by omega) hx5 ((am_u2_o (by omega)).trans g2) (by omega) bt1.2.1 ((am_u2_o (by omega)).trans g3) ((am_u2_o (by omega)).trans g6) (by omega) g5 (by omega) (by omega) ?_ ?_
            · intro t3 I6 cnt2 k1 k2 k3 k4 k5 k6 k7 k8
              refine ⟨by decide, y1 I6 (hok t3 I6 cnt2 ((((DF.at hn).tr f1).tr g1).tr (f5'.tr k1)) k2 k3 (by omega) k5 (by rw [k6]; simp only; omega) (fun j j0 j1 => ?_) (fun U hU => ?_))⟩
              · obtain ⟨r1, r2, r3, r4⟩ := k7 j j0 (by omega)
                obtain ⟨s1, s2, s3, s4⟩ := g7 j j0 (by omega)
                obtain ⟨u1, u2, u3, u4⟩ := f5 j j0 j1
                rw [am_u2_o (by omega)] at r1 r2 r3 r4 u1 u2 u3 u4
                exact ⟨(r1.trans s1).trans u1, (r2.trans s2).trans u2, (r3.trans s3).trans u3, (r4.trans s4).trans u4⟩
              · have up : ∀ i, p ≤ i → i < n → U i = v_sg T n i := fun i a b => by rw [hU i (by omega) b, v_sg_in (by omega) b]
                obtain ⟨w1, w2, w3, w4, w5, w6⟩ := v_tc_ok (U := U) t1 (fun i a b => up i (by omega) (by omega))
                have hp1 : p + 1 < n := by omega
                obtain ⟨r1, r2, r3, r4⟩ := k7 cnt c0 (by omega)
                obtain ⟨s1, s2, s3, s4⟩ := g7 cnt c0 (by omega)
                rw [am_u2_o (by omega)] at r1 r2 r3
                rw [am_u2_s] at r4
                have e2 : p + 2 = p + 1 + 1 := by omega
                refine ⟨⟨c0, by omega⟩, Or.inr ⟨by rw [up p (by omega) hlt]; exact e, w2, ?_, ?_, fun q => ?_, cnt1, (v_tr (v_sg T n) k (v_tc (v_sg T n) (p + 1)).2).2.1, ?_, r4, g4, k8 U hU⟩⟩
                · rw [r1, s1, f6.1, up (p + 1) (by omega) hp1]
                · rw [r2, s2, f6.2.1, e2, w5]
                · rw [up (p + 1) (by omega) hp1] at q
                  rw [r3, s3, f6.2.2 q, e2, w6 q]
                · rw [w3]
                  refine (g8 U hU).ext (I' := I6) (by omega) _ _ _ _ _ (fun j j0 j1 => ?_)
                  obtain ⟨v1, v2, v3, v4⟩ := k7 j (by omega) j1
                  rw [am_u2_o (by omega)] at v1 v2 v3 v4
                  exact ⟨v1, v2, v3, v4⟩
            · intro t3 I6 k1 k2
              exact ⟨by decide, y0 I6 (hno t3 I6 ((((DF.at hn).tr f1).tr g1).tr (f5'.tr k1)) k2)⟩
          · intro t2 I4 g1 g2
            rw [if_neg (by rw [t2]; decide)] at hno
            exact ⟨fun q => absurd rfl q, fun _ => y0 I4 (hno rfl I4 (((DF.at hn).tr f1).tr g1) g2)⟩
        · intro t1 I3 f1 f2
          rw [if_neg (by rw [t1]; decide)] at hno
          exact ⟨fun _ => y0 I3 (hno rfl I3 ((DF.at hn).tr f1) f2), fun q => absurd rfl q⟩
      · rw [if_neg e] at hno
        exact y0 I (hno rfl I DF.rf hp)
    refine ⟨fun e => ⟨fun q => (q e).elim, fun _ => ⟨hr.1, ?_⟩⟩, fun e => ⟨fun e2 => ⟨fun q => absurd q (by omega), fun _ => ⟨hx.1, choice (by simp only [v_lf]; omega)⟩⟩, fun e2 => ⟨fun e3 => ⟨fun q => absurd q (by omega), fun _ => ⟨hx.1, choice (by simp only [v_lf]; omega)⟩⟩, fun e3 => ⟨fun _ => ⟨hr.1, ?_⟩, fun q => (e q).elim⟩⟩⟩⟩
    · rw [if_pos (Or.inl e)] at hok
      exact leaf (k + 1) d I p cnt qs (-1) Q (by omega) hx hp p0 p1 h4 h5 c0 c1 (Or.inl ⟨e, rfl⟩) (hok rfl)
    · rw [am_wE (by omega) (by omega)]
      rw [if_pos (Or.inr (by omega))] at hok
      exact leaf (k + 1) d I p cnt qs _ Q (by omega) hx hp p0 p1 h4 h5 c0 c1 (Or.inr ⟨by omega, rfl⟩) (hok rfl)
theorem ct_parse {d : Nat} {I : Nat → Nat → Int} {Q : am_V → am_T} (hd : 19 ≤ d) (hr : RO K N P dr) (hn : rN dr) (hx : TX K N I P T n)
    (hok : v_err (v_sg T n) n = -1 → ∀ (I' : Nat → Nat → Int) (cnt' : Int), DF dr I I' → I' dr 4 = cnt' → cnt' ≤ 80 → I' dr 5 = (v_tr (v_sg T n) 6 0).2.2 → (∀ U : Int → Int, (∀ i, 0 ≤ i → i < n → U i = T i) → RN I' dr U 7 0 0 cnt' n) → Q (am_i (-1)) K N I' P z)
    (hno : ¬ v_err (v_sg T n) n = -1 → ∀ I', DF dr I I' → Q (am_i (v_err (v_sg T n) n)) K N I' P z) : am_C d m_X5_parseInto [am_r 8, am_r dr] K N I P z Q am_nx := by
  have hnn := hx.2.2.2.2.2.1
  have hg : ∀ i, n ≤ i → v_sg T n i = -1 := fun i h => v_sg_out h
  have d8 : ¬ (dr ≤ 8 ∧ 8 < dr + 5) := by unfold rN at hn; omega
  have b := v_tr_bd hg 6 0 hnn.1
  refine wf_X5_parseInto (by omega) ⟨hx.1, ?_⟩
  rintro I2 rfl
  refine ⟨hr.1, wf_X4_restart ⟨hr.1, ?_⟩⟩
  rintro I3 rfl I4 rfl
  have f0 : DF dr I (am_u2 (am_u2 (am_u2 I 8 2 0) dr 4 0) dr 5 0) := ⟨fun y a b => by rw [am_u2_ne (by omega), am_u2_ne (by omega), am_u2_ne b], fun k a => by rw [am_u2_o (by omega), am_u2_o (by omega), am_u2_o (by omega)]⟩
  have hx2 := hx.df hn f0
  have e8 : am_u2 (am_u2 (am_u2 I 8 2 0) dr 4 0) dr 5 0 8 2 = 0 := by rw [am_u2_o (by omega), am_u2_o (by omega), am_u2_s]
  unfold v_err at hok hno
  have e1 : ∀ I', DF dr I I' → I' 8 1 = n := fun I' f => by rw [f.2 1 (by omega)]; exact hx.2.2.2.2.1
  refine ⟨hx.1, ?_⟩
  have z6 : (0 : Int) = 6 - ((6 : Nat) : Int) := by omega
  rw [z6]
  refine ct_rule hr hn 6 (d - 1) _ 0 0 0 _ (by omega) (by omega) hx2 e8 (by omega) hnn.1 ((am_u2_o (by omega)).trans am_u2_s) am_u2_s (by omega) (by omega) (by omega) (by omega) ?_ ?_
  · intro t I5 cnt' g1 g2 g3 g4 g5 g6 g7 g8
    have f1 := f0.tr g1
    refine ⟨fun q => absurd q (by decide), fun _ => ⟨hx.1, ?_⟩⟩
    rw [g2, e1 I5 f1]
    refine ⟨fun q => ?_, fun q => ?_⟩
    · have hc : ¬ ((v_tr (v_sg T n) 6 0).1 = true ∧ (v_tr (v_sg T n) 6 0).2.1 = n) := fun r => q r.2
      rw [if_neg hc] at hno
      exact hno (by omega) I5 f1
    · rw [if_pos ⟨t, q⟩] at hok
      refine hok rfl I5 cnt' f1 g3 (by omega) (by rw [g6]; omega) (fun U hU => ?_)
      have := g8 U hU
      rw [q] at this
      exact this
  · intro t I5 g1 g2
    have hc : ¬ ((v_tr (v_sg T n) 6 0).1 = true ∧ (v_tr (v_sg T n) 6 0).2.1 = n) := fun r => by rw [r.1] at t; cases t
    rw [if_neg hc] at hno
    refine ⟨fun _ => ⟨hx.1, ?_⟩, fun q => absurd rfl q⟩
    rw [g2]
    exact hno (by omega) I5 (f0.tr g1)
end
