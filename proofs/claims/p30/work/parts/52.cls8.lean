theorem v_s3_skip {W : Int → Int} {c b : Int} (c0 : 0 ≤ c) (cb : c ≤ b) (h : ∀ q, c ≤ q → q < b → W (800 + q) = 0 → ¬ W 5 ≤ W (500 + q)) : v_s3 W b = v_s3 W c := by
  funext i
  unfold v_s3
  by_cases q : 800 ≤ i ∧ i < 800 + c ∧ W i = 0 ∧ W 5 ≤ W (i - 300)
  · rw [if_pos q, if_pos ⟨q.1, by omega, q.2.2⟩]
  · rw [if_neg q]
    by_cases q2 : 800 ≤ i ∧ i < 800 + b ∧ W i = 0 ∧ W 5 ≤ W (i - 300)
    · have e := h (i - 800) (by omega) (by omega) (by rw [show 800 + (i - 800) = i by omega]; exact q2.2.2.1)
      rw [show 500 + (i - 800) = i - 300 by omega] at e
      exact (e q2.2.2.2).elim
    · rw [if_neg q2]
theorem v_s3_one {W : Int → Int} {p : Int} (p0 : 0 ≤ p) (h1 : W (800 + p) = 0) (h2 : W 5 ≤ W (500 + p)) : v_s3 W (p + 1) = v_u (v_s3 W p) (800 + p) (v_reason W p) := by
  funext i
  unfold v_u v_s3
  by_cases q : i = 800 + p
  · subst q
    rw [if_pos rfl, show 800 + p - 300 = 500 + p by omega, show 800 + p - 800 = p by omega, if_pos ⟨by omega, by omega, h1, h2⟩]
  · rw [if_neg q]
    by_cases q2 : 800 ≤ i ∧ i < 800 + p ∧ W i = 0 ∧ W 5 ≤ W (i - 300)
    · rw [if_pos q2, if_pos ⟨q2.1, by omega, q2.2.2⟩]
    · rw [if_neg q2, if_neg (fun q3 => q2 ⟨q3.1, by omega, q3.2.2⟩)]
theorem v_s3_same {W : Int → Int} {n : Int} (hn : n ≤ 300) : v_same W (v_s3 W n) := fun i a b c e => v_s3_o hn (by omega)
theorem v_s3_reason {W : Int → Int} {n p : Int} (hn : n ≤ 300) (p0 : 0 ≤ p) : v_reason (v_s3 W n) p = v_reason W p := by
  unfold v_reason
  rw [v_s3_o (i := 1100 + p) hn (by omega), v_s3_o (i := 1400 + p) hn (by omega), v_s3_o (i := 1700 + p) hn (by omega), v_s3_o (i := 2600 + p) hn (by omega)]
section
variable {d : Nat} {K N : Nat → Nat} {I I' : Nat → Nat → Int} {P P' : Nat → Nat → Option Nat} {z : Nat} {Q : am_V → am_T} {W W' W0 L0 : Int → Int} {s : Nat} {m m0 : Int} {L : Int → Int} {π π0 : Int → Nat}
theorem cs_lose (hd : 2 ≤ d) (hM : SM K N I P s W m L π m0 W0 L0 π0) (hG : v_G W) (h : ∀ I' P' m' L' π', SF s I I' → (∀ a, ¬ a = s + 6 → P' a = P a) → SM K N I' P' s (v_s3 W (W 9)) m' L' π' m0 W0 L0 π0 → Q am_nl K N I' P' z) : am_C d m_X6_loseParts [am_r s] K N I P z Q am_nx := by
  have g9 := hG.n9
  have key : ∀ (t : Nat) (c : Int) (I' : Nat → Nat → Int) (P' : Nat → Nat → Option Nat) (m' : Int) (L' : Int → Int) (π' : Int → Nat), 0 ≤ c → c ≤ W 9 → (t : Int) = m' → SF s I I' → (∀ a, ¬ a = s + 6 → P' a = P a) → SM K N I' P' s (v_s3 W c) m' L' π' m0 W0 L0 π0 → (∀ k, 0 ≤ k → k < m' → c ≤ L' k) → L_X6_loseParts_5 d s t K N I' P' z Q := by
    intro t
    induction t with
    | zero =>
      intro c I' P' m' L' π' c0 c1 ht hF hP hM hb
      refine wf_X6_loseParts_5 (by omega) ⟨fun _ => ?_, fun q => absurd q (by omega)⟩
      refine h I' P' m' L' π' hF hP ?_
      rw [v_s3_skip (W := W) c0 c1 ?_]
      · exact hM
      · intro q a b e
        have e8 : v_s3 W c (800 + q) = 0 := by rw [v_s3_8 (by omega), if_neg (by omega)]; exact e
        obtain ⟨k, k0, k1, k2⟩ := hM.1.b.ex (p := q) (by omega) (by rw [v_s3_o (by omega) (by omega)]; exact b) e8
        omega
    | succ t ih =>
      intro c I' P' m' L' π' c0 c1 ht hF hP hM hb
      have hS := hM.1
      obtain ⟨s0, s1, s2, s3, s4, s5, s6, s7, s8, s9, s10, s11, s12, s13⟩ := id hS.k; obtain ⟨t0, t1, t2, t3, t4, t5, t6⟩ := id hS.p; have tm := hS.ob; have hm2 := hS.m2
      have hV := v_s3_G hG c1
      have o := hS.b.on (j := 0) (by omega) (by omega)
      rw [v_s3_o (i := 9) (by omega) (by omega)] at o
      have b0 := hb 0 (by omega) (by omega)
      have eon : W (800 + L' 0) = 0 := by
        have := o.2.2
        rw [v_s3_8 o.1, if_neg (by omega)] at this
        exact this
      have e2 := (hS.t 0 (by omega) (by omega)).2.2.1
      rw [v_s3_o (i := 500 + L' 0) (by omega) (by omega)] at e2
      have e5 := hS.c.st4
      rw [v_s3_o (i := 5) (by omega) (by omega)] at e5
      have pl : P' (s + 6) 0 = some (π' 0) := hS.i.pl (j := 0) (by omega) (by omega)
      have kp := hS.kp (j := 0) (by omega) (by omega)
      refine wf_X6_loseParts_5 (by omega) ⟨fun q => absurd q (by omega), fun _ => ⟨s0, s + 6, t3, s10, by omega, π' 0, pl, kp, s + 1, t0, s1, by omega, fun q => ?_, fun q => ⟨by omega, π' 0, pl, kp, ?_⟩⟩⟩
      · rw [e2, e5] at q
        refine h I' P' m' L' π' hF hP ?_
        rw [v_s3_skip (W := W) c0 c1 ?_]
        · exact hM
        · intro r a b e
          have e8 : v_s3 W c (800 + r) = 0 := by rw [v_s3_8 (by omega), if_neg (by omega)]; exact e
          obtain ⟨k, k0, k1, k2⟩ := hS.b.ex (p := r) (by omega) (by rw [v_s3_o (by omega) (by omega)]; exact b) e8
          rcases (show k = 0 ∨ 0 < k by omega) with r2 | r2
          · subst r2; rw [← k2]; omega
          · have lt := hS.b.lt (i := 0) (by omega) r2 k1
            rw [k2] at lt
            have := hG.od (L' 0) r o.1 lt b eon e
            have := hG.pt (L' 0) o.1 o.2.1
            omega
      · rw [e2, e5] at q
        refine cp_reason kp (hS.t 0 (by omega) (by omega)) hV o.1 (by rw [v_s3_o (by omega) (by omega)]; exact o.2.1) ?_
        rw [v_s3_reason (by omega) o.1]
        have br := v_reason_bd hG o.1 o.2.1
        refine ⟨s0, ?_⟩
        rw [am_wE (by omega) (by omega), show ((t + 1 : Nat) : Int) + -1 = t by omega]
        refine cs_leave hS.k t3 hS.i tm (by omega) (by omega) hm2.2 ?_
        intro P2 hP2 hI2
        have e9 : v_s3 W c 9 = W 9 := v_s3_o (by omega) (by omega)
        have ew : v_s3 W (L' 0 + 1) = v_u (v_s3 W c) (800 + L' 0) (v_reason W (L' 0)) := by
          rw [v_s3_one o.1 eon (by omega), v_s3_skip (W := W) c0 b0 ?_]
          intro r a b e
          have e8 : v_s3 W c (800 + r) = 0 := by rw [v_s3_8 (by omega), if_neg (by omega)]; exact e
          obtain ⟨k, k0, k1, k2⟩ := hS.b.ex (p := r) (by omega) (by rw [e9]; omega) e8
          rcases (show k = 0 ∨ 0 < k by omega) with r2 | r2
          · subst r2; omega
          · have lt := hS.b.lt (i := 0) (by omega) r2 k1
            omega
        have hl := hM.lv (by rw [e9]; omega) (i := 0) (f := v_reason W (L' 0)) (by omega) (by omega) (by omega) hP2 hI2 ?_
        · rw [← ew] at hl
          have bi := hS.i.bd (j := 0) (by omega) (by omega)
          refine ih (L' 0 + 1) _ P2 _ _ _ (by omega) (by omega) (by omega) ((hF.put (by omega)).put (by omega)) (fun a ha => (hP2 a ha).trans (hP a ha)) hl (fun k a b => ?_)
          rw [v_rot_b (by omega) b]
          have := hS.b.lt (i := 0) (j := k + 1) (by omega) (by omega) (by omega)
          omega
        · intro p a b
          rw [e9] at b
          rw [← ew, hG.lo_cg (v_s3_same (by omega)) a (by omega), hG.lo_cg (v_s3_same (by omega)) a (by omega)]
  have hm := hM.1.m2
  have tm := hM.1.ob
  refine wf_X6_loseParts ⟨hM.1.k.1, ?_⟩
  rw [tm, show m = ((m.toNat : Nat) : Int) by omega]
  refine key m.toNat 0 I P m L π (by omega) (by omega) (by omega) SF.rf (fun _ _ => rfl) ?_ (fun k a b => (hM.1.b.on a b).1)
  have e : v_s3 W 0 = W := by
    funext i
    unfold v_s3
    rw [if_neg (by omega)]
  rw [e]
  exact hM
end
/-! a stretch in which nothing happens -/
def v_SV (W : Int → Int) : Prop := ∀ p, 0 ≤ p → p < W 9 → W (800 + p) = 0 → ¬ v_lo W p = -1 → v_win W p (v_lo W p) → ¬ (v_clr W p ∧ W (34 + v_lo W p) < W (28 + v_lo W p)) ∧ W (2600 + p) = (if v_clr W p then 6 else 5)
theorem v_s1_add {W : Int → Int} {a b n : Int} (hn : n ≤ 300) : v_s1 (v_s1 W a n) b n = v_s1 W (a + b) n := by
  funext i
  unfold v_s1
  by_cases c : i = 0
  · rw [if_pos c, if_pos c, if_pos rfl]; omega
  · rw [if_neg c, if_neg c, if_neg c]
    by_cases c2 : 500 ≤ i ∧ i < 500 + n
    · rw [if_neg (show ¬ i + 300 = 0 by omega), if_neg (show ¬ (500 ≤ i + 300 ∧ i + 300 < 500 + n ∧ W (i + 300 + 300) = 0) by omega)]
      by_cases c3 : W (i + 300) = 0
      · rw [if_pos ⟨c2.1, c2.2, c3⟩, if_pos ⟨c2.1, c2.2, c3⟩, if_pos ⟨c2.1, c2.2, c3⟩]; omega
      · rw [if_neg (fun q => c3 q.2.2), if_neg (fun q => c3 q.2.2), if_neg (fun q => c3 q.2.2)]
    · rw [if_neg (fun q => c2 ⟨q.1, q.2.1⟩), if_neg (fun q => c2 ⟨q.1, q.2.1⟩), if_neg (fun q => c2 ⟨q.1, q.2.1⟩)]
theorem v_prev_cg {f g : Int → Bool} : ∀ n : Nat, (∀ p : Int, 0 ≤ p → p < n → f p = g p) → v_prev f n = v_prev g n
  | 0, _ => rfl
  | n + 1, h => by
    rw [v_prev, v_prev, v_prev_cg n (fun p a b => h p a (by omega)), h n (by omega) (by omega)]
theorem v_next_cg {f g : Int → Bool} : ∀ (m : Nat) (q : Int), (∀ p : Int, q ≤ p → p < q + m → f p = g p) → v_next f m q = v_next g m q
  | 0, _, _ => rfl
  | m + 1, q, h => by
    rw [v_next, v_next, v_next_cg m (q + 1) (fun p a b => h p (by omega) (by omega)), h q (by omega) (by omega)]
/-- gaps stay when all fronts on the belt move by k -/
theorem v_clr_cg {W W' : Int → Int} (k : Int) (h4 : W' 4 = W 4) (h9 : W' 9 = W 9) (h8 : ∀ p, 0 ≤ p → p < W 9 → W' (800 + p) = W (800 + p)) (h2 : ∀ p, 0 ≤ p → p < W 9 → W' (200 + p) = W (200 + p)) (h5 : ∀ p, 0 ≤ p → p < W 9 → W (800 + p) = 0 → W' (500 + p) = W (500 + p) + k) {p : Int} (p0 : 0 ≤ p) (p1 : p < W 9) (pn : W (800 + p) = 0) : v_clr W' p ↔ v_clr W p := by
  have e : ∀ q : Int, 0 ≤ q → q < W 9 → v_on W' q = v_on W q := fun q a b => by simp only [v_on, h8 q a b]
  have ea : v_ah W' p.toNat = v_ah W p.toNat := v_prev_cg _ (fun q a b => e q a (by omega))
  have eb : v_be W' p = v_be W p := by
    show v_next (v_on W') (W' 9 - p - 1).toNat (p + 1) = v_next (v_on W) (W 9 - p - 1).toNat (p + 1)
    rw [h9]
    exact v_next_cg _ _ (fun q a b => e q (by omega) (by omega))
  have ba := v_prev_bd (v_on W) p.toNat
  have bb := v_next_bd (v_on W) (W 9 - p - 1).toNat (p + 1)
  have oa := v_prev_on (v_on W) p.toNat
  have ob := v_next_on (v_on W) (W 9 - p - 1).toNat (p + 1)
  unfold v_clr
  rw [ea, eb, h9, h4]
  simp only [v_ah, v_be, v_tl] at *
  generalize v_prev (v_on W) p.toNat = a at *
  generalize v_next (v_on W) (W 9 - p - 1).toNat (p + 1) = b at *
  have e5p := h5 p p0 p1 pn
  have e2p := h2 p p0 p1
  have ia : (a = -1 ∨ W 4 ≤ W' (500 + a) - W' (200 + a) - W' (500 + p)) ↔ (a = -1 ∨ W 4 ≤ W (500 + a) - W (200 + a) - W (500 + p)) := by
    by_cases q : a = -1
    · exact ⟨fun _ => Or.inl q, fun _ => Or.inl q⟩
    · have := h5 a (by omega) (by omega) (of_decide_eq_true (oa q))
      have := h2 a (by omega) (by omega)
      omega
  have ib : (b = W 9 ∨ W 4 ≤ W' (500 + p) - W' (200 + p) - W' (500 + b)) ↔ (b = W 9 ∨ W 4 ≤ W (500 + p) - W (200 + p) - W (500 + b)) := by
    by_cases q : b = W 9
    · exact ⟨fun _ => Or.inl q, fun _ => Or.inl q⟩
    · have := h5 b (by omega) (by omega) (of_decide_eq_true (ob (by omega)))
      omega
  rw [ia, ib]
