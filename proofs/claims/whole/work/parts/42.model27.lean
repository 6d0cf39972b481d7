section
variable {d : Nat} {K N : Nat → Nat} {I I1 : Nat → Nat → Int} {P : Nat → Nat → Option Nat} {z : Nat} {Q : am_V → am_T} {W : Int → Int} {S : Int → Int → Int} {c : Int} {T : Int → Int} {n : Int}
theorem v_sg_in {p : Int} (h0 : 0 ≤ p) (h1 : p < n) : v_sg T n p = T p := if_pos ⟨h0, h1⟩
theorem v_sg_out {p : Int} (h1 : n ≤ p) : v_sg T n p = -1 := if_neg (by omega)
/-- the machine stands at p; what follows -/
theorem sp_es (hd : 1 ≤ d) (hm : MS K N P) (hA : MA I W S c T n) {p : Int} (p0 : 0 ≤ p) (p1 : p ≤ n) {a : Int} (ha : I 284 9 = a)
    (h1 : p = n → ¬ a = 5 → Q (am_i n) K N I P z) (h2 : p = n → a = 5 → Q (am_i (-1)) K N I P z)
    (h3 : p < n → ∀ Q' : am_V → am_T, (∀ I', L_X8_error_17 d 284 (p + 1) K N I' P z Q → Q' (am_i 1) K N I' P z) → (∀ I', Q (am_i p) K N I' P z → Q' (am_i 0) K N I' P z) → am_C (d - 1) m_X8_takes [am_r 284, am_i (T p)] K N I P z Q' am_nx) : L_X8_error_17 d 284 p K N I P z Q := by
  obtain ⟨hW, a1, a2, a3, a4, a5, a6⟩ := hA
  refine wf_X8_error_17 hd ⟨hm.1, fun q => ?_, fun q => ?_⟩
  · rw [a2] at q ⊢
    exact ⟨fun r => h1 (by omega) (by omega), fun r => h2 (by omega) (by omega)⟩
  · rw [a2] at q
    have e4 := a4 p p0 (by omega)
    obtain ⟨k0, p0, p1, p2, p3, p4, k1, n1, k2, n2, k3, n3, k4, n4, k5, n5⟩ := id hm
    refine ⟨288, p3, k4, by omega, ?_⟩
    rw [e4, am_wE (by omega) (by omega)]
    refine h3 (by omega) _ ?_ ?_
    · intro I' h
      exact ⟨fun _ => h, fun q => absurd q (by decide)⟩
    · intro I' h
      exact ⟨fun q => absurd rfl q, fun _ => h⟩
theorem sp_num (hd : 4 ≤ d) (hm : MS K N P) (hA : MA I W S c T n) : ∀ (k : Nat) {g v x p a o m : Int} {H : Int → Int} {I' : Nat → Nat → Int}, g + k = 3 → 0 ≤ g → 0 ≤ p → p ≤ n → FE I I' → PM I' a o m H → 2 ≤ a ∧ a ≤ 4 → I' 284 11 = g → I' 284 12 = v → (x = if g = 0 then -1 else v) → (¬ g = 0 → 0 ≤ v ∧ v ≤ 999 ∧ (g = 1 → v ≤ 9) ∧ (g = 2 → v ≤ 99)) →
    (¬ (v_tn (v_sg T n) k x p).1 = -1 → v_sg T n (v_tn (v_sg T n) k x p).2 = (if a = 3 then 44 else 59) → ¬ (a = 3 ∧ (v_tn (v_sg T n) k x p).1 = 0) → ∀ I'', FE I I'' → PM I'' (if a = 3 then 4 else 0) o m H → I'' 284 11 = 0 → L_X8_error_17 d 284 ((v_tn (v_sg T n) k x p).2 + 1) K N I'' P z Q) →
    (¬ (¬ (v_tn (v_sg T n) k x p).1 = -1 ∧ v_sg T n (v_tn (v_sg T n) k x p).2 = (if a = 3 then 44 else 59) ∧ ¬ (a = 3 ∧ (v_tn (v_sg T n) k x p).1 = 0)) → ∀ I'', FE I I'' → Q (am_i (v_tn (v_sg T n) k x p).2) K N I'' P z) → L_X8_error_17 d 284 p K N I' P z Q := by
  intro k
  induction k with
  | zero =>
    intro g v x p a o m H I' hg g0 p0 p1 hF hp ha e11 e12 hx hb hok hno
    have hb := hb (by omega)
    rw [if_neg (by omega)] at hx
    simp only [v_tn] at hok hno
    refine sp_es (by omega) hm (hA.fe hF) p0 p1 hp.1 (fun e _ => ?_) (fun _ e => absurd e (by omega)) (fun hlt Q' y1 y0 => ?_)
    · subst e
      refine hno (fun q => ?_) I' hF
      have := q.2.1
      rw [v_sg_out (Int.le_refl _)] at this
      split at this <;> omega
    · rw [v_sg_in p0 hlt] at hok hno
      refine sp_takesN (by omega) hm ha hp e11 e12 (by omega) (fun _ => ⟨hb.1, hb.2.1⟩) (fun _ q => absurd q (by omega)) (fun q _ I2 f2 => y0 I2 (hno ?_ I2 (hF.tr f2))) ?_ ?_
      · intro r
        have := r.2.1
        split at this <;> omega
      · intro q1 q2 q3 q4 I2 f2 f3 f4
        refine y1 I2 (hok (by omega) q3 (by rw [hx]; exact q4) I2 (hF.tr f2) f3 f4)
      · intro q1 q2
        refine y0 I' (hno (fun r => q2 ⟨by omega, r.2.1, by rw [hx] at r; exact r.2.2⟩) I' hF)
  | succ k ih =>
    intro g v x p a o m H I' hg g0 p0 p1 hF hp ha e11 e12 hx hb hok hno
    rw [v_tn] at hok hno
    refine sp_es (by omega) hm (hA.fe hF) p0 p1 hp.1 (fun e _ => ?_) (fun _ e => absurd e (by omega)) (fun hlt Q' y1 y0 => ?_)
    · subst e
      rw [v_sg_out (Int.le_refl _), if_neg (by omega)] at hno
      refine hno (fun q => ?_) I' hF
      have := q.2.1
      simp only [v_sg_out (Int.le_refl _)] at this
      split at this <;> omega
    · rw [v_sg_in p0 hlt] at hok hno
      refine sp_takesN (by omega) hm ha hp e11 e12 (by omega) (fun q => ⟨(hb q).1, (hb q).2.1⟩) ?_ (fun _ q => absurd q (by omega)) ?_ ?_
      · intro q1 q2 I2 f2 f3 f4 f5
        rw [if_pos q1] at hok hno
        have eg : (if x = -1 then (0 : Int) else 10 * x) = if g = 0 then 0 else 10 * v := by
          by_cases r : g = 0
          · rw [if_pos r] at hx ⊢; rw [if_pos hx]
          · rw [if_neg r] at hx ⊢
            have := hb r
            rw [if_neg (by omega), hx]
        rw [eg] at hok hno
        refine y1 I2 (ih (g := g + 1) (v := (if g = 0 then 0 else 10 * v) + T p - 48) (by omega) (by omega) (by omega) (by omega) (hF.tr f2) f3 ha f4 f5 ?_ ?_ hok hno)
        · rw [if_neg (show ¬ g + 1 = 0 by omega)]
        · intro _
          by_cases r : g = 0
          · rw [if_pos r]; omega
          · rw [if_neg r]
            have := hb r
            omega
      · intro q1 q2 q3 q4 I2 f2 f3 f4
        have hbb := hb q2
        rw [if_neg q2] at hx
        rw [if_neg q1] at hok
        refine y1 I2 (hok (by rw [hx]; omega) (by rw [v_sg_in p0 hlt]; exact q3) (by rw [hx]; exact q4) I2 (hF.tr f2) f3 f4)
      · intro q1 q2
        rw [if_neg q1] at hno
        refine y0 I' (hno (fun r => ?_) I' hF)
        rw [v_sg_in p0 hlt] at r
        by_cases r2 : g = 0
        · rw [if_pos r2] at hx; exact r.1 hx
        · rw [if_neg r2] at hx
          rw [hx] at r
          exact q2 ⟨r2, r.2.1, r.2.2⟩
theorem sp_tc (hd : 4 ≤ d) (hm : MS K N P) (hA : MA I W S c T n) {p o m : Int} {H : Int → Int} {I' : Nat → Nat → Int} (p0 : 0 ≤ p) (p1 : p ≤ n) (hF : FE I I') (hp : PM I' 1 o m H) (hok : (v_tc (v_sg T n) p).1 = true → ∀ I'', FE I I'' → PM I'' 0 o m H → L_X8_error_17 d 284 (v_tc (v_sg T n) p).2 K N I'' P z Q) (hno : (v_tc (v_sg T n) p).1 = false → ∀ I'', FE I I'' → Q (am_i (v_tc (v_sg T n) p).2) K N I'' P z) : L_X8_error_17 d 284 p K N I' P z Q := by
  have hg : ∀ i, n ≤ i → v_sg T n i = -1 := fun i h => v_sg_out h
  unfold v_tc at hok hno
  refine sp_es (by omega) hm (hA.fe hF) p0 p1 hp.1 (fun e _ => ?_) (fun _ e => absurd e (by omega)) (fun hlt Q' y1 y0 => ?_)
  · subst e
    rw [v_sg_out (Int.le_refl _), if_neg (by omega), if_neg (by omega)] at hno
    exact hno rfl I' hF
  · rw [v_sg_in p0 hlt] at hok hno
    have b1 := v_t3_bd hg (p := p + 1) (by omega)
    refine sp_takes1 (by omega) hm hp ?_ ?_ ?_
    · intro hx I2 f2 f3 f4
      rw [if_pos hx] at hok hno
      refine y1 I2 (sp_num hd hm hA 3 (by omega) (by omega) (by omega) (by omega) (hF.tr f2) f3 (by omega) f4 rfl (if_pos rfl).symm (fun q => absurd rfl q) ?_ ?_)
      · intro r1 r2 r3 I3 g3 g4 g5
        rw [if_pos rfl] at r2 g4
        have r3 : ¬ (v_t3 (v_sg T n) (p + 1)).1 = 0 := fun q => r3 ⟨rfl, q⟩
        rw [if_neg (fun q => by rcases q with q | q; (have : ¬ (v_t3 (v_sg T n) (p + 1)).1 = -1 := r1); omega; exact q r2)] at hok hno
        have hlt2 : (v_t3 (v_sg T n) (p + 1)).2 < n := by
          rcases (show (v_t3 (v_sg T n) (p + 1)).2 < n ∨ n ≤ (v_t3 (v_sg T n) (p + 1)).2 by omega) with q | q
          · exact q
          · have := hg _ q
            rw [this] at r2; omega
        refine sp_num hd hm hA 3 (by omega) (by omega) (by show 0 ≤ (v_t3 (v_sg T n) (p + 1)).2 + 1; omega) (by show (v_t3 (v_sg T n) (p + 1)).2 + 1 ≤ n; omega) g3 g4 (by omega) g5 rfl (if_pos rfl).symm (fun q => absurd rfl q) ?_ ?_
        · intro s1 s2 s3 I4 j3 j4 j5
          rw [if_neg (by decide)] at s2 j4
          rw [if_neg (fun q => by rcases q with q | q; exact s1 q; exact q s2)] at hok
          exact hok rfl I4 j3 j4
        · intro s I4 j3
          have hc : (v_t3 (v_sg T n) ((v_t3 (v_sg T n) (p + 1)).2 + 1)).1 = -1 ∨ ¬ v_sg T n (v_t3 (v_sg T n) ((v_t3 (v_sg T n) (p + 1)).2 + 1)).2 = 59 := by
            by_cases q : (v_t3 (v_sg T n) ((v_t3 (v_sg T n) (p + 1)).2 + 1)).1 = -1
            · exact Or.inl q
            · refine Or.inr (fun q2 => s ⟨q, ?_, fun q3 => absurd q3.1 (by decide)⟩)
              rw [if_neg (by decide)]; exact q2
          rw [if_pos hc] at hno
          exact hno rfl I4 j3
      · intro s I3 g3
        have hc : (v_t3 (v_sg T n) (p + 1)).1 ≤ 0 ∨ ¬ v_sg T n (v_t3 (v_sg T n) (p + 1)).2 = 44 := by
          by_cases q : (v_t3 (v_sg T n) (p + 1)).1 ≤ 0
          · exact Or.inl q
          · refine Or.inr (fun q2 => s ⟨?_, ?_, fun q3 => ?_⟩)
            · show ¬ (v_t3 (v_sg T n) (p + 1)).1 = -1
              omega
            · rw [if_pos rfl]; exact q2
            · have : (v_t3 (v_sg T n) (p + 1)).1 = 0 := q3.2
              omega
        rw [if_pos hc] at hno
        exact hno rfl I3 g3
    · intro hx I2 f2 f3 f4
      rw [if_neg (by omega), if_pos hx] at hok hno
      refine y1 I2 (sp_num hd hm hA 3 (by omega) (by omega) (by omega) (by omega) (hF.tr f2) f3 (by omega) f4 rfl (if_pos rfl).symm (fun q => absurd rfl q) ?_ ?_)
      · intro s1 s2 s3 I4 j3 j4 j5
        rw [if_neg (by decide)] at s2 j4
        rw [if_neg (fun q => by rcases q with q | q; exact s1 q; exact q s2)] at hok
        exact hok rfl I4 j3 j4
      · intro s I4 j3
        have hc : (v_t3 (v_sg T n) (p + 1)).1 = -1 ∨ ¬ v_sg T n (v_t3 (v_sg T n) (p + 1)).2 = 59 := by
          by_cases q : (v_t3 (v_sg T n) (p + 1)).1 = -1
          · exact Or.inl q
          · refine Or.inr (fun q2 => s ⟨q, ?_, fun q3 => absurd q3.1 (by decide)⟩)
            rw [if_neg (by decide)]; exact q2
        rw [if_pos hc] at hno
        exact hno rfl I4 j3
    · intro hx hx2 I2 f2
      rw [if_neg hx, if_neg hx2] at hno
      exact y0 I2 (hno rfl I2 (hF.tr f2))
theorem PM.cg {I : Nat → Nat → Int} {a o m a' o' m' : Int} {H H' : Int → Int} (h : PM I a o m H) (ea : a = a') (eo : o = o') (em : m = m') (e : ∀ k : Int, 0 ≤ k → k < o → H k = H' k) : PM I a' o' m' H' := by
  subst ea eo em
  exact ⟨h.1, h.2.1, h.2.2.1, fun k x y => (h.2.2.2 k x y).trans (e k x y)⟩
theorem sp_tr (hd : 5 ≤ d) (hm : MS K N P) (hA : MA I W S c T n) : ∀ (k : Nat) (o : Nat) {p m : Int} {H : Int → Int} {I' : Nat → Nat → Int}, o + k = 6 → 0 ≤ p → p ≤ n → 0 ≤ m → m ≤ p → FE I I' → PM I' 0 o m H → (∀ j : Int, 0 ≤ j → j < o → 0 ≤ H j ∧ H j ≤ 1) →
    ((v_tr (v_sg T n) k p).1 = true → ∀ I'', FE I I'' → PM I'' (v_er o H).1 (v_er o H).2.1 (m + (v_tr (v_sg T n) k p).2.2) (v_er o H).2.2 → L_X8_error_17 d 284 (v_tr (v_sg T n) k p).2.1 K N I'' P z Q) →
    ((v_tr (v_sg T n) k p).1 = false → ∀ I'', FE I I'' → Q (am_i (v_tr (v_sg T n) k p).2.1) K N I'' P z) → L_X8_error_17 d 284 p K N I' P z Q := by
  have hg : ∀ i, n ≤ i → v_sg T n i = -1 := fun i h => v_sg_out h
  have an := hA.2.2.2.2.2.2
  intro k
  induction k with
  | zero =>
    intro o p m H I' ho p0 p1 m0 m1 hF hp hH hok hno
    unfold v_tr at hok hno
    refine sp_es (by omega) hm (hA.fe hF) p0 p1 hp.1 (fun e _ => ?_) (fun _ e => absurd e (by omega)) (fun hlt Q' y1 y0 => ?_)
    · subst e
      rw [if_neg (by simp only [v_lf]; rw [v_sg_out (Int.le_refl _)]; omega)] at hno
      exact hno rfl I' hF
    · simp only [v_lf] at hok hno
      rw [v_sg_in p0 hlt] at hok hno
      refine sp_takes0 (by omega) hm (by omega) hp hH (by omega) ?_ (fun _ q => absurd q (by omega)) ?_
      · intro hx I2 f2 f3
        rw [if_pos hx] at hok
        exact y1 I2 (hok rfl I2 (hF.tr f2) (f3.cg rfl rfl (by simp only; omega) (fun _ _ _ => rfl)))
      · intro hx _
        rw [if_neg hx] at hno
        exact y0 I' (hno rfl I' hF)
  | succ k ih =>
    intro o p m H I' ho p0 p1 m0 m1 hF hp hH hok hno
    have bt := v_tr_bd hg
    have bc := v_tc_bd hg (p := p + 1)
    unfold v_tr at hok hno
    refine sp_es (by omega) hm (hA.fe hF) p0 p1 hp.1 (fun e _ => ?_) (fun _ e => absurd e (by omega)) (fun hlt Q' y1 y0 => ?_)
    · subst e
      rw [if_neg (by simp only [v_lf]; rw [v_sg_out (Int.le_refl _)]; omega), if_neg (by rw [v_sg_out (Int.le_refl _)]; omega)] at hno
      exact hno rfl I' hF
    · simp only [v_lf] at hok hno
      rw [v_sg_in p0 hlt] at hok hno
      refine sp_takes0 (by omega) hm (by omega) hp hH (by omega) ?_ ?_ ?_
      · intro hx I2 f2 f3
        rw [if_pos hx] at hok
        exact y1 I2 (hok rfl I2 (hF.tr f2) (f3.cg rfl rfl (by simp only; omega) (fun _ _ _ => rfl)))
      · intro hx _ I2 f2 f3
        rw [if_neg (by omega), if_pos hx] at hok hno
        refine y1 I2 (sp_tc (by omega) hm hA (by omega) (by omega) (hF.tr f2) f3 ?_ ?_)
        · intro c1 I3 f4 f5
          rw [if_pos c1] at hok hno
          have bc := bc (by omega)
          have bc3 := bc.2.2 c1
          have b1 := bt k (v_tc (v_sg T n) (p + 1)).2 bc.2.1
          refine ih (o + 1) (by omega) (by omega) bc.2.1 (by omega) (by omega) f4 f5 ?_ ?_ ?_
          · intro j j0 j1
            unfold v_u
            split
            · omega
            · exact hH j j0 (by omega)
          · intro c2 I4 f6 f7
            rw [if_pos c2] at hok hno
            have e1 : v_er (o + 1) (v_u H o 0) = (0, ((o + 1 : Nat) : Int), v_u (v_u H o 0) o (v_u H o 0 o + 1)) := by
              rw [v_er, if_neg (by rw [v_us]; omega)]
            rw [e1] at f7
            refine ih (o + 1) (H := v_u (v_u H o 0) o (v_u H o 0 o + 1)) (by omega) (by omega) b1.2.1 (by omega) (by omega) f6 f7 ?_ ?_ ?_
            · intro j j0 j1
              unfold v_u
              split
              · rw [if_pos rfl]; omega
              · exact hH j j0 (by omega)
            · intro c3 I5 f8 f9
              refine hok c3 I5 f8 ?_
              rw [v_er, if_pos (by rw [v_us, v_us]; rfl)] at f9
              obtain ⟨g1, g2, g3, g4⟩ := v_er_cg o (v_u (v_u (v_u H o 0) o (v_u H o 0 o + 1)) o 2) H (fun k a b => by unfold v_u; rw [if_neg (by omega), if_neg (by omega), if_neg (by omega)])
              exact f9.cg g1 g2 (by simp only; omega) g4
            · intro c3 I5 f8
              exact hno c3 I5 f8
          · intro c2 I4 f6
            rw [if_neg (by rw [c2]; decide)] at hno
            exact hno rfl I4 f6
        · intro c1 I3 f4
          rw [if_neg (by rw [c1]; decide)] at hno
          exact hno rfl I3 f4
      · intro hx hx2
        rw [if_neg hx, if_neg (by omega)] at hno
        exact y0 I' (hno rfl I' hF)
theorem sp_error (hd : 5 ≤ d) (hm : MS K N P) (hA : MA I W S c T n) (h : ∀ I', FE I I' → (v_err (v_sg T n) n = -1 → I' 284 13 = (v_tr (v_sg T n) 6 0).2.2) → Q (am_i (v_err (v_sg T n) n)) K N I' P z) : am_C d m_X8_error [am_r 284] K N I P z Q am_nx := by
  refine wf_X8_error ⟨hm.1, ?_⟩
  rintro I2 rfl I3 rfl I4 rfl
  have an := hA.2.2.2.2.2.2
  have hg : ∀ i, n ≤ i → v_sg T n i = -1 := fun i h => v_sg_out h
  have b := v_tr_bd hg 6 0 an.1
  unfold v_err at h
  refine sp_tr (I := I) hd hm hA 6 0 (m := 0) (H := fun _ => 0) (by omega) (by omega) an.1 (by omega) (by omega) (((FE.rf.p4 (by omega)).p4 (by omega)).p4 (by omega)) ⟨(am_u2_o (by omega)).trans ((am_u2_o (by omega)).trans am_u2_s), (am_u2_o (by omega)).trans am_u2_s, am_u2_s, fun k a b => absurd b (by omega)⟩ (fun k a b => absurd b (by omega)) ?_ ?_
  · intro c1 I5 f1 f2
    obtain ⟨g1, g2, g3, g4⟩ := f2
    by_cases c2 : (v_tr (v_sg T n) 6 0).2.1 = n
    · rw [if_pos ⟨c1, c2⟩] at h
      have hA2 := hA.fe f1
      refine sp_es (by omega) hm hA2 (by omega) (by omega) g1 (fun _ q => absurd rfl q) (fun _ _ => h I5 f1 (fun _ => by rw [g3]; omega)) (fun q => absurd c2 (by omega))
    · rw [if_neg (fun q => c2 q.2)] at h
      refine sp_es (by omega) hm (hA.fe f1) (by omega) (by omega) g1 (fun q => (c2 q).elim) (fun q => (c2 q).elim) (fun q Q' y1 y0 => ?_)
      refine wf_X8_takes (by omega) ⟨hm.1, fun _ => ⟨fun _ => ⟨fun _ => y0 I5 (h I5 f1 (fun q => absurd q (by omega))), fun r => absurd g1 (by simp only [v_er]; omega)⟩, fun r => absurd g1 (by simp only [v_er]; omega)⟩, fun r => absurd g1 (by simp only [v_er]; omega)⟩
  · intro c1 I5 f1
    rw [if_neg (fun q => by rw [q.1] at c1; cases c1)] at h
    exact h I5 f1 (fun q => absurd q (by omega))
end
