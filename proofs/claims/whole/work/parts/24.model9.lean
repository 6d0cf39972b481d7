/-! the reference's whole state: W the row w, S the saved rows, c their number, T the text, n its length -/
def MA (I : Nat → Nat → Int) (W : Int → Int) (S : Int → Int → Int) (c : Int) (T : Int → Int) (n : Int) : Prop := MW I W ∧ I 284 5 = c ∧ I 284 6 = n ∧ (∀ j i : Int, 0 ≤ j → j < c → 0 ≤ i → i < 3200 → I 286 (j * 3200 + i).toNat = S j i) ∧ (∀ k : Int, 0 ≤ k → k < 80 → I 288 k.toNat = T k) ∧ (0 ≤ c ∧ c ≤ 6) ∧ (0 ≤ n ∧ n ≤ 80)
def FM (I I' : Nat → Nat → Int) : Prop := ∀ a, (a < 284 ∨ 289 < a) → I' a = I a
theorem FM.rf {I : Nat → Nat → Int} : FM I I := fun _ _ => rfl
theorem FM.tr {I I1 I2 : Nat → Nat → Int} (h : FM I I1) (h2 : FM I1 I2) : FM I I2 := fun a h3 => (h2 a h3).trans (h a h3)
theorem FR.FM {I I' : Nat → Nat → Int} (h : FR I I') : FM I I' := fun a h1 => funext fun j => h a j (by omega) (by omega)
theorem FM.put {I I' : Nat → Nat → Int} (h : FM I I') {a k : Nat} {x : Int} (ha : 284 ≤ a ∧ a ≤ 289) : FM I (am_u2 I' a k x) := fun b hb => by rw [am_u2_ne (by omega), h b hb]
section
variable {I I' : Nat → Nat → Int} {W W' : Int → Int} {S : Int → Int → Int} {c : Int} {T : Int → Int} {n : Int}
theorem MA.w (h : MA I W S c T n) : MW I W := h.1
theorem MA.fr (h : MA I W S c T n) (hf : FR I I') (hW : MW I' W') : MA I' W' S c T n := by
  obtain ⟨h1, h2, h3, h4, h5, h6⟩ := h
  refine ⟨hW, (hf 284 5 (by omega) (by omega)).trans h2, (hf 284 6 (by omega) (by omega)).trans h3, fun j i a b e f => (hf 286 _ (by omega) (by omega)).trans (h4 j i a b e f), fun k a b => (hf 288 _ (by omega) (by omega)).trans (h5 k a b), h6⟩
theorem MA.th (h : MA I W S c T n) {x : Int} : MA (am_u2 I 284 7 x) W S c T n := by
  obtain ⟨h1, h2, h3, h4, h5, h6⟩ := h
  refine ⟨fun i a b => (am_u2_o (by omega)).trans (h1 i a b), (am_u2_o (by omega)).trans h2, (am_u2_o (by omega)).trans h3, fun j i a b e f => (am_u2_o (by omega)).trans (h4 j i a b e f), fun k a b => (am_u2_o (by omega)).trans (h5 k a b), h6⟩
theorem MA.cg (h : MA I W S c T n) (e : ∀ i : Int, 0 ≤ i → i < 3200 → W i = W' i) : MA I W' S c T n := ⟨h.1.cg e, h.2⟩
end
def v_svS (S : Int → Int → Int) (c : Int) (W : Int → Int) : Int → Int → Int := fun j => if c = 6 then (if j = 5 then W else S (j + 1)) else (if j = c then W else S j)
def v_svc (c : Int) : Int := if c = 6 then 6 else c + 1
section
variable {d : Nat} {K N : Nat → Nat} {I : Nat → Nat → Int} {P : Nat → Nat → Option Nat} {z : Nat} {Q : am_V → am_T} {W : Int → Int} {S : Int → Int → Int} {c : Int} {T : Int → Int} {n : Int}
theorem sp_save (hm : MS K N P) (hA : MA I W S c T n) (h : ∀ I', FM I I' → MA I' W (v_svS S c W) (v_svc c) T n → I' 284 7 = I 284 7 → Q am_nl K N I' P z) : am_C d m_X8_save [am_r 284] K N I P z Q am_nx := by
  have key2 : ∀ (m : Nat) (j c2 : Int) (S2 : Int → Int → Int) (I' : Nat → Nat → Int), 0 ≤ j → j + m = 3200 → 0 ≤ c2 → c2 ≤ 5 → FM I I' → MA I' W S2 c2 T n → I' 284 7 = I 284 7 → (∀ i : Int, 0 ≤ i → i < j → I' 286 (c2 * 3200 + i).toNat = W i) → (∀ I', FM I I' → MA I' W (fun j => if j = c2 then W else S2 j) (c2 + 1) T n → I' 284 7 = I 284 7 → Q am_nl K N I' P z) → L_X8_save_52 d 284 j K N I' P z Q := by
    intro m
    induction m with
    | zero =>
      intro j c2 S2 I' j0 j1 c0 c1 hF hA ht hp h
      refine wf_X8_save_52 ?_
      obtain ⟨k0, p0, p1, p2, p3, p4, k1, n1, k2, n2, k3, n3, k4, n4, k5, n5⟩ := id hm
      obtain ⟨hW, a1, a2, a3, a4, a5, a6⟩ := hA
      obtain ⟨w0, w1, w2, w3, w4, w5, w6, w7, w8, w9, w10, w11⟩ := hW.lits; have hw := hW.all
      simp (disch := omega) only [k0, p0, p1, p2, p3, p4, k1, n1, k2, n2, k3, n3, k4, n4, k5, n5, true_and, and_true, Option.some.injEq, exists_eq_left', am_wE, and_dr, imp_dr, imp_df, true_imp_iff, false_imp_iff, not_true_eq_false, not_false_eq_true, hw, w0, w1, w2, w3, w4, w5, w6, w7, w8, w9, w10, w11 , forall_eq, a1]
      refine h _ (hF.put (by omega)) ⟨fun i a b => (am_u2_o (by omega)).trans (hW i a b), by rw [am_u2_s], (am_u2_o (by omega)).trans a2, ?_, fun k a b => (am_u2_o (by omega)).trans (a4 k a b), by omega, a6⟩ ((am_u2_o (by omega)).trans ht)
      intro i k a b e f
      rw [am_u2_o (by omega)]
      simp only
      split
      · rename_i q; subst q; exact hp k e (by omega)
      · exact a3 i k a (by omega) e f
    | succ m ih =>
      intro j c2 S2 I' j0 j1 c0 c1 hF hA ht hp h
      refine wf_X8_save_52 ?_
      obtain ⟨k0, p0, p1, p2, p3, p4, k1, n1, k2, n2, k3, n3, k4, n4, k5, n5⟩ := id hm
      obtain ⟨hW, a1, a2, a3, a4, a5, a6⟩ := hA
      obtain ⟨w0, w1, w2, w3, w4, w5, w6, w7, w8, w9, w10, w11⟩ := hW.lits; have hw := hW.all
      have b1 := hw j (by omega) (by omega)
      simp (disch := omega) only [k0, p0, p1, p2, p3, p4, k1, n1, k2, n2, k3, n3, k4, n4, k5, n5, true_and, and_true, Option.some.injEq, exists_eq_left', am_wE, and_dr, imp_dr, imp_df, true_imp_iff, false_imp_iff, not_true_eq_false, not_false_eq_true, hw, w0, w1, w2, w3, w4, w5, w6, w7, w8, w9, w10, w11 , forall_eq, a1]
      refine ih (j + 1) c2 S2 _ (by omega) (by omega) c0 c1 (hF.put (by omega)) ⟨fun i a b => (am_u2_o (by omega)).trans (hW i a b), (am_u2_o (by omega)).trans a1, (am_u2_o (by omega)).trans a2, ?_, fun k a b => (am_u2_o (by omega)).trans (a4 k a b), a5, a6⟩ ((am_u2_o (by omega)).trans ht) ?_ h
      · intro i k a b e f
        rw [am_u2_o (by omega)]
        exact a3 i k a b e f
      · intro i a b
        by_cases q : i = j
        · subst q; rw [am_u2_s]
        · rw [am_u2_o (by omega)]; exact hp i a (by omega)
  have key1 : ∀ (m : Nat) (j : Int) (I' : Nat → Nat → Int), 0 ≤ j → j + m = 16000 → FM I I' → MW I' W → I' 284 5 = 6 → I' 284 6 = n → (∀ i : Int, 0 ≤ i → i < j → I' 286 i.toNat = I 286 (i + 3200).toNat) → (∀ i : Int, j ≤ i → i < 19200 → I' 286 i.toNat = I 286 i.toNat) → (∀ k : Int, 0 ≤ k → k < 80 → I' 288 k.toNat = T k) → I' 284 7 = I 284 7 → c = 6 → L_X8_save_11 d 284 j K N I' P z Q := by
    intro m
    induction m with
    | zero =>
      intro j I' j0 j1 hF hW e5 e6 hp hq hT ht hc
      refine wf_X8_save_11 ?_
      obtain ⟨k0, p0, p1, p2, p3, p4, k1, n1, k2, n2, k3, n3, k4, n4, k5, n5⟩ := id hm
      obtain ⟨w0, w1, w2, w3, w4, w5, w6, w7, w8, w9, w10, w11⟩ := hW.lits; have hw := hW.all
      simp (disch := omega) only [k0, p0, p1, p2, p3, p4, k1, n1, k2, n2, k3, n3, k4, n4, k5, n5, true_and, and_true, Option.some.injEq, exists_eq_left', am_wE, and_dr, imp_dr, imp_df, true_imp_iff, false_imp_iff, not_true_eq_false, not_false_eq_true, hw, w0, w1, w2, w3, w4, w5, w6, w7, w8, w9, w10, w11 , forall_eq, e5]
      obtain ⟨_, a1, a2, a3, a4, a5, a6⟩ := hA
      refine key2 3200 0 5 (fun j => S (j + 1)) _ (by omega) (by omega) (by omega) (by omega) (hF.put (by omega)) ⟨fun i a b => (am_u2_o (by omega)).trans (hW i a b), by rw [am_u2_s]; rfl, (am_u2_o (by omega)).trans e6, ?_, fun k a b => (am_u2_o (by omega)).trans (hT k a b), by omega, a6⟩ ((am_u2_o (by omega)).trans ht) (fun i a b => absurd b (by omega)) ?_
      · intro i k a b e f
        rw [am_u2_o (by omega), hp _ (by omega) (by omega)]
        have := a3 (i + 1) k (by omega) (by omega) e f
        refine Eq.trans ?_ this
        congr 1
        omega
      · intro I2 f1 f2 f3
        refine h I2 f1 ?_ f3
        have e1 : v_svS S c W = fun j => if j = 5 then W else S (j + 1) := by
          funext j
          unfold v_svS
          rw [if_pos hc]
        have e2 : v_svc c = 5 + 1 := by unfold v_svc; rw [if_pos hc]; rfl
        rw [e1, e2]
        exact f2
    | succ m ih =>
      intro j I' j0 j1 hF hW e5 e6 hp hq hT ht hc
      refine wf_X8_save_11 ?_
      obtain ⟨k0, p0, p1, p2, p3, p4, k1, n1, k2, n2, k3, n3, k4, n4, k5, n5⟩ := id hm
      obtain ⟨w0, w1, w2, w3, w4, w5, w6, w7, w8, w9, w10, w11⟩ := hW.lits; have hw := hW.all
      simp (disch := omega) only [k0, p0, p1, p2, p3, p4, k1, n1, k2, n2, k3, n3, k4, n4, k5, n5, true_and, and_true, Option.some.injEq, exists_eq_left', am_wE, and_dr, imp_dr, imp_df, true_imp_iff, false_imp_iff, not_true_eq_false, not_false_eq_true, hw, w0, w1, w2, w3, w4, w5, w6, w7, w8, w9, w10, w11 , forall_eq, e5]
      refine ih (j + 1) _ (by omega) (by omega) (hF.put (by omega)) (fun i a b => (am_u2_o (by omega)).trans (hW i a b)) ((am_u2_o (by omega)).trans e5) ((am_u2_o (by omega)).trans e6) ?_ ?_ (fun k a b => (am_u2_o (by omega)).trans (hT k a b)) ((am_u2_o (by omega)).trans ht) hc
      · intro i a b
        by_cases q : i = j
        · subst q; rw [am_u2_s]; exact hq _ (by omega) (by omega)
        · rw [am_u2_o (by omega)]; exact hp i a (by omega)
      · intro i a b
        rw [am_u2_o (by omega)]; exact hq i (by omega) b
  have hA2 := hA
  obtain ⟨hW, a1, a2, a3, a4, a5, a6⟩ := hA
  refine wf_X8_save ⟨hm.1, fun q => ?_, fun q => ?_⟩
  · rw [a1] at q
    refine key2 3200 0 c S I (by omega) (by omega) (by omega) (by omega) FM.rf hA2 rfl (fun i a b => absurd b (by omega)) ?_
    intro I2 f1 f2 f3
    refine h I2 f1 ?_ f3
    have e1 : v_svS S c W = fun j => if j = c then W else S j := by
      funext j
      unfold v_svS
      rw [if_neg q]
    have e2 : v_svc c = c + 1 := by unfold v_svc; rw [if_neg q]
    rw [e1, e2]
    exact f2
  · rw [a1] at q
    exact key1 16000 0 I (by omega) (by omega) FM.rf hW (a1.trans q) a2 (fun i a b => absurd b (by omega)) (fun _ _ _ => rfl) a4 rfl q
theorem sp_beginTrial (hm : MS K N P) (hA : MA I W S c T n) (h : ∀ I', FM I I' → MA I' W S c T n → (∀ i : Int, 0 ≤ i → i < 3200 → I' 287 i.toNat = W i) → I' 284 7 = I 284 7 → Q am_nl K N I' P z) : am_C d m_X8_beginTrial [am_r 284] K N I P z Q am_nx := by
  have key : ∀ (m : Nat) (j : Int) (I' : Nat → Nat → Int), 0 ≤ j → j + m = 3200 → FM I I' → MA I' W S c T n → I' 284 7 = I 284 7 → (∀ i : Int, 0 ≤ i → i < j → I' 287 i.toNat = W i) → L_X8_beginTrial_2 d 284 j K N I' P z Q := by
    intro m
    induction m with
    | zero =>
      intro j I' j0 j1 hF hA ht hp
      refine wf_X8_beginTrial_2 ?_
      simp (disch := omega) only [and_dr, imp_dr, imp_df, and_true, true_and]
      exact h I' hF hA (fun i a b => hp i a (by omega)) ht
    | succ m ih =>
      intro j I' j0 j1 hF hA ht hp
      refine wf_X8_beginTrial_2 ?_
      obtain ⟨k0, p0, p1, p2, p3, p4, k1, n1, k2, n2, k3, n3, k4, n4, k5, n5⟩ := id hm
      obtain ⟨hW, a1, a2, a3, a4, a5, a6⟩ := hA
      obtain ⟨w0, w1, w2, w3, w4, w5, w6, w7, w8, w9, w10, w11⟩ := hW.lits; have hw := hW.all
      simp (disch := omega) only [k0, p0, p1, p2, p3, p4, k1, n1, k2, n2, k3, n3, k4, n4, k5, n5, true_and, and_true, Option.some.injEq, exists_eq_left', am_wE, and_dr, imp_dr, imp_df, true_imp_iff, false_imp_iff, not_true_eq_false, not_false_eq_true, hw, w0, w1, w2, w3, w4, w5, w6, w7, w8, w9, w10, w11 , forall_eq, a1]
      refine ih (j + 1) _ (by omega) (by omega) (hF.put (by omega)) ⟨fun i a b => (am_u2_o (by omega)).trans (hW i a b), (am_u2_o (by omega)).trans a1, (am_u2_o (by omega)).trans a2, ?_, fun k a b => (am_u2_o (by omega)).trans (a4 k a b), a5, a6⟩ ((am_u2_o (by omega)).trans ht) ?_
      · intro i k a b e f
        rw [am_u2_o (by omega)]
        exact a3 i k a b e f
      · intro i a b
        by_cases q : i = j
        · subst q; rw [am_u2_s]
        · rw [am_u2_o (by omega)]; exact hp i a (by omega)
  exact wf_X8_beginTrial (key 3200 0 I (by omega) (by omega) FM.rf hA rfl (fun i a b => absurd b (by omega)))
theorem sp_endTrial {V : Int → Int} (hm : MS K N P) (hA : MA I V S c T n) (hp : ∀ i : Int, 0 ≤ i → i < 3200 → I 287 i.toNat = W i) (h : ∀ I', FM I I' → MA I' W S c T n → I' 284 7 = I 284 7 → Q am_nl K N I' P z) : am_C d m_X8_endTrial [am_r 284] K N I P z Q am_nx := by
  have key : ∀ (m : Nat) (j : Int) (I' : Nat → Nat → Int), 0 ≤ j → j + m = 3200 → FM I I' → MA I' (fun i => if i < j then W i else V i) S c T n → I' 284 7 = I 284 7 → (∀ i : Int, 0 ≤ i → i < 3200 → I' 287 i.toNat = W i) → L_X8_endTrial_2 d 284 j K N I' P z Q := by
    intro m
    induction m with
    | zero =>
      intro j I' j0 j1 hF hA ht hp
      refine wf_X8_endTrial_2 ?_
      simp (disch := omega) only [and_dr, imp_dr, imp_df, and_true, true_and]
      exact h I' hF (hA.cg (fun i a b => if_pos (by omega))) ht
    | succ m ih =>
      intro j I' j0 j1 hF hA ht hp
      refine wf_X8_endTrial_2 ?_
      obtain ⟨k0, p0, p1, p2, p3, p4, k1, n1, k2, n2, k3, n3, k4, n4, k5, n5⟩ := id hm
      obtain ⟨hW, a1, a2, a3, a4, a5, a6⟩ := hA
      simp (disch := omega) only [k0, p0, p1, p2, p3, p4, k1, n1, k2, n2, k3, n3, k4, n4, k5, n5, true_and, and_true, Option.some.injEq, exists_eq_left', am_wE, and_dr, imp_dr, imp_df, true_imp_iff, false_imp_iff, not_true_eq_false, not_false_eq_true, forall_eq, hp]
      refine ih (j + 1) _ (by omega) (by omega) (hF.put (by omega)) ⟨?_, (am_u2_o (by omega)).trans a1, (am_u2_o (by omega)).trans a2, ?_, fun k a b => (am_u2_o (by omega)).trans (a4 k a b), a5, a6⟩ ((am_u2_o (by omega)).trans ht) (fun i a b => (am_u2_o (by omega)).trans (hp i a b))
      · refine (hW.put j0).cg (fun i a b => ?_)
        unfold v_u
        by_cases q : i = j
        · rw [if_pos q, if_pos (by omega), q]
        · rw [if_neg q]
          simp only
          by_cases q2 : i < j
          · rw [if_pos q2, if_pos (by omega)]
          · rw [if_neg q2, if_neg (by omega)]
      · intro i k a b e f
        rw [am_u2_o (by omega)]
        exact a3 i k a b e f
  exact wf_X8_endTrial (key 3200 0 I (by omega) (by omega) FM.rf (hA.cg (fun i a b => (if_neg (by omega)).symm)) rfl hp)
end
