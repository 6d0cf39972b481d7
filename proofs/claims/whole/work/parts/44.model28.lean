def v_sh (W : Int → Int) : UInt64 := if W 9 - v_ob W = 0 then FP.dconst1 else FP.ddiv (FP.i2d (Int32.ofInt (v_fts W 10 15))) (FP.i2d (Int32.ofInt (W 9 - v_ob W)))
/-- W with a new rule -/
def v_ld (W T : Int → Int) (n : Int) : Int → Int := fun i => if i = 11 then n else if 106 ≤ i ∧ i < 106 + n then T (i - 106) else W i
section
variable {d : Nat} {K N : Nat → Nat} {I I1 : Nat → Nat → Int} {P : Nat → Nat → Option Nat} {z : Nat} {Q : am_V → am_T} {W : Int → Int} {S : Int → Int → Int} {c : Int} {T : Int → Int} {n : Int}
theorem sp_saveM (hm : MS K N P) (hA : MA I W S c T n) (h : ∀ I', FM I I' → MA I' W (v_svS S c W) (v_svc c) T n → (∀ k : Nat, ¬ k = 5 → I' 284 k = I 284 k) → Q am_nl K N I' P z) : am_C d m_X8_save [am_r 284] K N I P z Q am_nx := by
  have key2 : ∀ (m : Nat) (j c2 : Int) (S2 : Int → Int → Int) (I' : Nat → Nat → Int), 0 ≤ j → j + m = 3200 → 0 ≤ c2 → c2 ≤ 5 → FM I I' → MA I' W S2 c2 T n → (∀ k : Nat, ¬ k = 5 → I' 284 k = I 284 k) → (∀ i : Int, 0 ≤ i → i < j → I' 286 (c2 * 3200 + i).toNat = W i) → (∀ I', FM I I' → MA I' W (fun j => if j = c2 then W else S2 j) (c2 + 1) T n → (∀ k : Nat, ¬ k = 5 → I' 284 k = I 284 k) → Q am_nl K N I' P z) → L_X8_save_52 d 284 j K N I' P z Q := by
    intro m
    induction m with
    | zero =>
      intro j c2 S2 I' j0 j1 c0 c1 hF hA ht hp h
      refine wf_X8_save_52 ?_
      obtain ⟨k0, p0, p1, p2, p3, p4, k1, n1, k2, n2, k3, n3, k4, n4, k5, n5⟩ := id hm
      obtain ⟨hW, a1, a2, a3, a4, a5, a6⟩ := hA
      obtain ⟨w0, w1, w2, w3, w4, w5, w6, w7, w8, w9, w10, w11⟩ := hW.lits; have hw := hW.all
      simp (disch := omega) only [k0, p0, p1, p2, p3, p4, k1, n1, k2, n2, k3, n3, k4, n4, k5, n5, true_and, and_true, Option.some.injEq, exists_eq_left', am_wE, and_dr, imp_dr, imp_df, true_imp_iff, false_imp_iff, not_true_eq_false, not_false_eq_true, hw, w0, w1, w2, w3, w4, w5, w6, w7, w8, w9, w10, w11 , forall_eq, a1]
      refine h _ (hF.put (by omega)) ⟨fun i a b => (am_u2_o (by omega)).trans (hW i a b), by rw [am_u2_s], (am_u2_o (by omega)).trans a2, ?_, fun k a b => (am_u2_o (by omega)).trans (a4 k a b), by omega, a6⟩ (fun k hk => (am_u2_o (by omega)).trans (ht k hk))
      intro i k a b e f
      rw [am_u2_o (by omega)]
      simp only
      split
      · rename_i q; subst q; exact hp k e (by omega)
      · exact a3 i k a (by omega) e f
    | succ m ih =>
      intro j c2 S2 I' j0 j1 c0 c1 hF hA ht hp h
      refine wf_X8_save_52 ?_
      obtain ⟨k0, p0, p1, p2, p3, p4, k1, n1, k2, n2, k3, n3, k4, n4, k5, n5⟩ := id hm
      obtain ⟨hW, a1, a2, a3, a4, a5, a6⟩ := hA
      obtain ⟨w0, w1, w2, w3, w4, w5, w6, w7, w8, w9, w10, w11⟩ := hW.lits; have hw := hW.all
      have b1 := hw j (by omega) (by omega)
      simp (disch := omega) only [k0, p0, p1, p2, p3, p4, k1, n1, k2, n2, k3, n3, k4, n4, k5, n5, true_and, and_true, Option.some.injEq, exists_eq_left', am_wE, and_dr, imp_dr, imp_df, true_imp_iff, false_imp_iff, not_true_eq_false, not_false_eq_true, hw, w0, w1, w2, w3, w4, w5, w6, w7, w8, w9, w10, w11 , forall_eq, a1]
      refine ih (j + 1) c2 S2 _ (by omega) (by omega) c0 c1 (hF.put (by omega)) ⟨fun i a b => (am_u2_o (by omega)).trans (hW i a b), (am_u2_o (by omega)).trans a1, (am_u2_o (by omega)).trans a2, ?_, fun k a b => (am_u2_o (by omega)).trans (a4 k a b), a5, a6⟩ (fun k hk => (am_u2_o (by omega)).trans (ht k hk)) ?_ h
      · intro i k a b e f
        rw [am_u2_o (by omega)]
        exact a3 i k a b e f
      · intro i a b
        by_cases q : i = j
        · subst q; rw [am_u2_s]
        · rw [am_u2_o (by omega)]; exact hp i a (by omega)
  have key1 : ∀ (m : Nat) (j : Int) (I' : Nat → Nat → Int), 0 ≤ j → j + m = 16000 → FM I I' → MW I' W → I' 284 5 = 6 → I' 284 6 = n → (∀ i : Int, 0 ≤ i → i < j → I' 286 i.toNat = I 286 (i + 3200).toNat) → (∀ i : Int, j ≤ i → i < 19200 → I' 286 i.toNat = I 286 i.toNat) → (∀ k : Int, 0 ≤ k → k < 80 → I' 288 k.toNat = T k) → (∀ k : Nat, ¬ k = 5 → I' 284 k = I 284 k) → c = 6 → L_X8_save_11 d 284 j K N I' P z Q := by
    intro m
    induction m with
    | zero =>
      intro j I' j0 j1 hF hW e5 e6 hp hq hT ht hc
      refine wf_X8_save_11 ?_
      obtain ⟨k0, p0, p1, p2, p3, p4, k1, n1, k2, n2, k3, n3, k4, n4, k5, n5⟩ := id hm
      obtain ⟨w0, w1, w2, w3, w4, w5, w6, w7, w8, w9, w10, w11⟩ := hW.lits; have hw := hW.all
      simp (disch := omega) only [k0, p0, p1, p2, p3, p4, k1, n1, k2, n2, k3, n3, k4, n4, k5, n5, true_and, and_true, Option.some.injEq, exists_eq_left', am_wE, and_dr, imp_dr, imp_df, true_imp_iff, false_imp_iff, not_true_eq_false, not_false_eq_true, hw, w0, w1, w2, w3, w4, w5, w6, w7, w8, w9, w10, w11 , forall_eq, e5]
      obtain ⟨_, a1, a2, a3, a4, a5, a6⟩ := hA
      refine key2 3200 0 5 (fun j => S (j + 1)) _ (by omega) (by omega) (by omega) (by omega) (hF.put (by omega)) ⟨fun i a b => (am_u2_o (by omega)).trans (hW i a b), by rw [am_u2_s]; rfl, (am_u2_o (by omega)).trans e6, ?_, fun k a b => (am_u2_o (by omega)).trans (hT k a b), by omega, a6⟩ (fun k hk => (am_u2_o (by omega)).trans (ht k hk)) (fun i a b => absurd b (by omega)) ?_
      · intro i k a b e f
        rw [am_u2_o (by omega), hp _ (by omega) (by omega)]
        have := a3 (i + 1) k (by omega) (by omega) e f
        refine Eq.trans ?_ this
        congr 1
        omega
      · intro I2 f1 f2 f3
        refine h I2 f1 ?_ f3
        have e1 : v_svS S c W = fun j => if j = 5 then W else S (j + 1) := by
          funext j
          unfold v_svS
          rw [if_pos hc]
        have e2 : v_svc c = 5 + 1 := by unfold v_svc; rw [if_pos hc]; rfl
        rw [e1, e2]
        exact f2
    | succ m ih =>
      intro j I' j0 j1 hF hW e5 e6 hp hq hT ht hc
      refine wf_X8_save_11 ?_
      obtain ⟨k0, p0, p1, p2, p3, p4, k1, n1, k2, n2, k3, n3, k4, n4, k5, n5⟩ := id hm
      obtain ⟨w0, w1, w2, w3, w4, w5, w6, w7, w8, w9, w10, w11⟩ := hW.lits; have hw := hW.all
      simp (disch := omega) only [k0, p0, p1, p2, p3, p4, k1, n1, k2, n2, k3, n3, k4, n4, k5, n5, true_and, and_true, Option.some.injEq, exists_eq_left', am_wE, and_dr, imp_dr, imp_df, true_imp_iff, false_imp_iff, not_true_eq_false, not_false_eq_true, hw, w0, w1, w2, w3, w4, w5, w6, w7, w8, w9, w10, w11 , forall_eq, e5]
      refine ih (j + 1) _ (by omega) (by omega) (hF.put (by omega)) (fun i a b => (am_u2_o (by omega)).trans (hW i a b)) ((am_u2_o (by omega)).trans e5) ((am_u2_o (by omega)).trans e6) ?_ ?_ (fun k a b => (am_u2_o (by omega)).trans (hT k a b)) (fun k hk => (am_u2_o (by omega)).trans (ht k hk)) hc
      · intro i a b
        by_cases q : i = j
        · subst q; rw [am_u2_s]; exact hq _ (by omega) (by omega)
        · rw [am_u2_o (by omega)]; exact hp i a (by omega)
      · intro i a b
        rw [am_u2_o (by omega)]; exact hq i (by omega) b
  have hA2 := hA
  obtain ⟨hW, a1, a2, a3, a4, a5, a6⟩ := hA
  refine wf_X8_save ⟨hm.1, fun q => ?_, fun q => ?_⟩
  · rw [a1] at q
    refine key2 3200 0 c S I (by omega) (by omega) (by omega) (by omega) FM.rf hA2 (fun _ _ => rfl) (fun i a b => absurd b (by omega)) ?_
    intro I2 f1 f2 f3
    refine h I2 f1 ?_ f3
    have e1 : v_svS S c W = fun j => if j = c then W else S j := by
      funext j
      unfold v_svS
      rw [if_neg q]
    have e2 : v_svc c = c + 1 := by unfold v_svc; rw [if_neg q]
    rw [e1, e2]
    exact f2
  · rw [a1] at q
    exact key1 16000 0 I (by omega) (by omega) FM.rf hW (a1.trans q) a2 (fun i a b => absurd b (by omega)) (fun _ _ _ => rfl) a4 (fun _ _ => rfl) q
theorem sp_share (hd : 3 ≤ d) (hm : MS K N P) (hA : MA I W S c T n) (hG : v_G W) (h : OM K N I P z Q 0 (am_d (v_sh W)) W S c T n) : am_C d m_X8_share [am_r 284] K N I P z Q am_nx := by
  refine wf_X8_share (by omega) ⟨hm.1, ?_⟩
  rintro I2 rfl; replace hA := hA.th (x := 0); have hF : FM I (am_u2 I 284 7 0) := FM.rf.put (by omega); have ht : am_u2 I 284 7 0 284 7 = 0 := am_u2_s; have hW := hA.w; generalize am_u2 I 284 7 0 = I1 at *
  have g9 := hG.n9
  have bo := v_cnt_bd (v_on W) (W 9).toNat
  have bf := v_cnt_bd (fun p => decide (10 ≤ W (800 + p) ∧ W (800 + p) ≤ 15)) (W 9).toNat
  unfold v_sh at h
  simp only [v_ob, v_fts] at h
  obtain ⟨k0, p0, p1, p2, p3, p4, k1, n1, k2, n2, k3, n3, k4, n4, k5, n5⟩ := id hm
  refine ⟨285, p0, k1, by omega, ?_⟩
  have w9 : I1 285 9 = W 9 := hW.lit 9 (by decide)
  refine sp_onBelt (by omega) hm hW (n := (W 9).toNat) (by omega) (by omega) ?_
  simp only [am_iv]
  rw [w9, am_wE (by omega) (by omega)]
  refine ⟨fun q => ⟨k0, sp_fates (by omega) hm hW hG.n9 ?_⟩, fun q => ?_⟩
  · rw [if_neg q] at h
    simp only [am_iv, v_fts]
    exact ⟨v_ddn (by omega) (by omega) (by omega) (by omega), h _ hF hA ht⟩
  · rw [if_pos q] at h
    exact h _ hF hA ht
theorem sp_errorPosition (hd : 6 ≤ d) (hm : MS K N P) (hA : MA I W S c T n) (h : OM K N I P z Q 0 (am_i (v_err (v_sg T n) n)) W S c T n) : am_C d m_X8_errorPosition [am_r 284] K N I P z Q am_nx := by
  refine wf_X8_errorPosition (by omega) ⟨hm.1, ?_⟩
  rintro I2 rfl; replace hA := hA.th (x := 0); have hF : FM I (am_u2 I 284 7 0) := FM.rf.put (by omega); have ht : am_u2 I 284 7 0 284 7 = 0 := am_u2_s; have hW := hA.w; generalize am_u2 I 284 7 0 = I1 at *
  refine sp_error (by omega) hm hA ?_
  intro I2 f1 f2
  simp only [am_iv]
  exact h _ (hF.tr f1.FM) (hA.fe f1) ((f1 284 7 (by omega) (by omega)).trans ht)
theorem sp_load (hd : 6 ≤ d) (hm : MS K N P) (hA : MA I W S c T n) (h1 : ¬ v_err (v_sg T n) n = -1 → OM K N I P z Q 1 (am_i 0) W S c T n) (h2 : v_err (v_sg T n) n = -1 → OM K N I P z Q 0 (am_i (v_tr (v_sg T n) 6 0).2.2) (v_ld W T n) (v_svS S c W) (v_svc c) T 0) : am_C d m_X8_load [am_r 284] K N I P z Q am_nx := by
  refine wf_X8_load (by omega) ⟨hm.1, ?_⟩
  rintro I2 rfl; replace hA := hA.th (x := 0); have hF : FM I (am_u2 I 284 7 0) := FM.rf.put (by omega); have ht : am_u2 I 284 7 0 284 7 = 0 := am_u2_s; have hW := hA.w; generalize am_u2 I 284 7 0 = I1 at *
  have an := hA.2.2.2.2.2.2
  refine sp_error (by omega) hm hA ?_
  intro I2 f1 f2
  simp only [am_iv]
  refine ⟨fun q => ⟨hm.1, sp_saveM hm (hA.fe f1) ?_⟩, fun q => ⟨hm.1, sp_no hm (hF.tr f1.FM) (hA.fe f1) (h1 q)⟩⟩
  intro I3 g1 g2 g3
  have h2 := h2 q
  have f2 := f2 q
  have ht3 : I3 284 7 = 0 := (g3 7 (by decide)).trans ((f1 284 7 (by omega) (by omega)).trans ht)
  have hm3 : I3 284 13 = (v_tr (v_sg T n) 6 0).2.2 := (g3 13 (by decide)).trans f2
  have hF3 := (hF.tr f1.FM).tr g1
  have key : ∀ (m : Nat) (j : Int) (I' : Nat → Nat → Int), 0 ≤ j → j + m = n → FM I I' → MA I' (fun i => if 106 ≤ i ∧ i < 106 + j then T (i - 106) else W i) (v_svS S c W) (v_svc c) T n → I' 284 7 = 0 → I' 284 13 = (v_tr (v_sg T n) 6 0).2.2 → L_X8_load_25 d 284 j K N I' P z Q := by
    intro m
    induction m with
    | zero =>
      intro j I' j0 j1 hF hA ht hm4
      have e6 : I' 284 6 = n := hA.2.2.1
      refine wf_X8_load_25 ?_
      obtain ⟨k0, p0, p1, p2, p3, p4, k1, n1, k2, n2, k3, n3, k4, n4, k5, n5⟩ := id hm
      simp (disch := omega) only [k0, p0, p1, p2, p3, p4, k1, n1, k2, n2, k3, n3, k4, n4, k5, n5, true_and, and_true, Option.some.injEq, exists_eq_left', am_wE, and_dr, imp_dr, imp_df, true_imp_iff, false_imp_iff, not_true_eq_false, not_false_eq_true, forall_eq, e6, am_u2_o, hm4]
      have hjn : j = n := by omega
      subst hjn
      obtain ⟨hW, a1, a2, a3, a4, a5, a6⟩ := hA
      refine h2 _ ((hF.put (by omega)).put (by omega)) ⟨?_, (am_u2_o (by omega)).trans ((am_u2_o (by omega)).trans a1), am_u2_s, ?_, fun k a b => (am_u2_o (by omega)).trans ((am_u2_o (by omega)).trans (a4 k a b)), a5, by omega⟩ ((am_u2_o (by omega)).trans ((am_u2_o (by omega)).trans ht))
      · intro i i0 i1
        rw [am_u2_o (by omega)]
        have := (hW.put (i := 11) (x := j) (by omega)) i i0 i1
        refine this.trans ?_
        unfold v_u v_ld
        by_cases c1 : i = 11
        · rw [if_pos c1]
        · rw [if_neg c1]
      · intro i k a b e f
        rw [am_u2_o (by omega), am_u2_o (by omega)]
        exact a3 i k a b e f
    | succ m ih =>
      intro j I' j0 j1 hF hA ht hm4
      have e6 : I' 284 6 = n := hA.2.2.1
      have e8 := hA.2.2.2.2.1 j j0 (by omega)
      refine wf_X8_load_25 ?_
      obtain ⟨k0, p0, p1, p2, p3, p4, k1, n1, k2, n2, k3, n3, k4, n4, k5, n5⟩ := id hm
      simp (disch := omega) only [k0, p0, p1, p2, p3, p4, k1, n1, k2, n2, k3, n3, k4, n4, k5, n5, true_and, and_true, Option.some.injEq, exists_eq_left', am_wE, and_dr, imp_dr, imp_df, true_imp_iff, false_imp_iff, not_true_eq_false, not_false_eq_true, forall_eq, e6, e8]
      refine ih (j + 1) _ (by omega) (by omega) (hF.put (by omega)) ((hA.put (by omega)).cg ?_) ((am_u2_o (by omega)).trans ht) ((am_u2_o (by omega)).trans hm4)
      intro i _ _
      unfold v_u
      by_cases c1 : i = 106 + j
      · rw [if_pos c1, if_pos (by omega), show i - 106 = j by omega]
      · rw [if_neg c1]
        simp only
        by_cases c2 : 106 ≤ i ∧ i < 106 + j
        · rw [if_pos c2, if_pos (by omega)]
        · rw [if_neg c2, if_neg (by omega)]
  refine key n.toNat 0 I3 (by omega) (by omega) hF3 (g2.cg (fun i _ _ => (if_neg (by omega)).symm)) ht3 hm3
end
