theorem v_s3_z {W : Int → Int} : v_s3 W 0 = W := by
  funext i
  unfold v_s3
  rw [if_neg (by omega)]
theorem v_s2_mono {V : Int → Int} (hV : v_G V) {q : Int} (q0 : 0 ≤ q) (q1 : q < 300) {a : Nat} : ∀ k : Nat, ((a + k : Nat) : Int) ≤ V 9 → (v_s2 V (a + k)) (800 + q) = 0 → (v_s2 V a) (800 + q) = 0
  | 0, _, h => h
  | k + 1, hn, h => by
    have g9 := hV.n9
    have hG := (v_s2_G hV (a + k) (by omega)).1
    exact v_s2_mono hV q0 q1 k (by omega) ((v_try_on hG (p := ((a + k : Nat) : Int)) (by omega) (by omega) q0 q1).1 h)
theorem v_ite_iff {a b : Prop} [Decidable a] [Decidable b] (h : a ↔ b) {x y : Int} : (if a then x else y) = (if b then x else y) := by
  by_cases q : a
  · rw [if_pos q, if_pos (h.mp q)]
  · rw [if_neg q, if_neg (fun r => q (h.mpr r))]
/-- what a row of tries in which nobody leaves does -/
theorem v_s2_SV {V : Int → Int} (hV : v_G V) (hon : ∀ p : Int, 0 ≤ p → p < V 9 → V (800 + p) = 0 → (v_s2 V (V 9).toNat) (800 + p) = 0) : ∀ n : Nat, (n : Int) ≤ V 9 → (∀ i : Int, ¬ (2600 ≤ i ∧ i < 2900) → v_s2 V n i = V i) ∧ (∀ p : Int, 0 ≤ p → p < n → V (800 + p) = 0 → ¬ v_lo V p = -1 → v_win V p (v_lo V p) → ¬ (v_clr V p ∧ V (34 + v_lo V p) < V (28 + v_lo V p)) ∧ v_s2 V n (2600 + p) = (if v_clr V p then 6 else 5))
  | 0, _ => ⟨fun _ _ => rfl, fun p a b => absurd b (by omega)⟩
  | n + 1, hn => by
    have g9 := hV.n9
    have g7 := hV.l7
    obtain ⟨h1, h2⟩ := v_s2_SV hV hon n (by omega)
    have hG := (v_s2_G hV n (by omega)).1
    have sm : v_same V (v_s2 V n) := fun i a b c e => h1 i (by omega)
    have lo : ∀ p : Int, 0 ≤ p → p < V 9 → v_lo (v_s2 V n) p = v_lo V p := fun p a b => hV.lo_cg sm a (by omega)
    have hclr : ∀ p : Int, 0 ≤ p → p < V 9 → V (800 + p) = 0 → (v_clr (v_s2 V n) p ↔ v_clr V p) := fun p a b c => v_clr_cg 0 (h1 4 (by omega)) (h1 9 (by omega)) (fun q x y => h1 _ (by omega)) (fun q x y => h1 _ (by omega)) (fun q x y _ => by rw [h1 _ (by omega)]; omega) a b c
    have bl := hV.lo (p := n)
    have key : v_s2 V (n + 1) = v_s2 V n ∧ ¬ (V (800 + (n : Int)) = 0 ∧ ¬ v_lo V n = -1 ∧ v_win V n (v_lo V n)) ∨ (V (800 + (n : Int)) = 0 ∧ ¬ (v_clr V n ∧ V (34 + v_lo V n) < V (28 + v_lo V n)) ∧ v_s2 V (n + 1) = v_u (v_s2 V n) (2600 + n) (if v_clr V n then 6 else 5)) := by
      have hw : v_win (v_s2 V n) n (v_lo V n) ↔ v_win V n (v_lo V n) := by
        rcases bl with q | q
        · simp only [v_win, v_md]
          rw [h1 (16 + v_lo V n) (by omega), h1 (22 + v_lo V n) (by omega), h1 (500 + (n : Int)) (by omega), h1 (200 + (n : Int)) (by omega)]
        · simp only [v_win, v_md]
          rw [h1 (16 + v_lo V n) (by omega), h1 (22 + v_lo V n) (by omega), h1 (500 + (n : Int)) (by omega), h1 (200 + (n : Int)) (by omega)]
      have e : v_s2 V (n + 1) = v_try (v_s2 V n) n := rfl
      unfold v_try at e
      rw [lo n (by omega) (by omega), h1 (800 + (n : Int)) (by omega)] at e
      by_cases c : V (800 + (n : Int)) = 0 ∧ ¬ v_lo V n = -1 ∧ v_win (v_s2 V n) n (v_lo V n)
      · rw [if_pos c] at e
        right
        unfold v_att at e
        by_cases c2 : v_clr (v_s2 V n) n ∧ (v_s2 V n) (34 + v_lo V n) < (v_s2 V n) (28 + v_lo V n)
        · rw [if_pos c2] at e
          have o := hon n (by omega) (by omega) c.1
          have o2 := v_s2_mono hV (q := n) (by omega) (by omega) (a := n + 1) ((V 9).toNat - (n + 1)) (by omega) (by rw [show n + 1 + ((V 9).toNat - (n + 1)) = (V 9).toNat by omega]; exact o)
          rw [e, v_un (by omega), v_un (by omega), v_us] at o2
          omega
        · rw [if_neg c2, v_ite_iff (hclr n (by omega) (by omega) c.1)] at e
          refine ⟨c.1, fun q => c2 ⟨(hclr n (by omega) (by omega) c.1).mpr q.1, ?_⟩, e⟩
          rw [h1 _ (by omega), h1 _ (by omega)]
          exact q.2
      · rw [if_neg c] at e
        left
        exact ⟨e, fun q => c ⟨q.1, q.2.1, hw.mpr q.2.2⟩⟩
    rcases key with ⟨k1, k2⟩ | ⟨k1, k2, k3⟩
    · refine ⟨fun i hi => by rw [k1]; exact h1 i hi, fun p a b c e f => ?_⟩
      rcases (show p < n ∨ p = n by omega) with q | q
      · rw [k1]; exact h2 p a q c e f
      · subst q; exact (k2 ⟨c, e, f⟩).elim
    · refine ⟨fun i hi => by rw [k3, v_un (by omega)]; exact h1 i hi, fun p a b c e f => ?_⟩
      rcases (show p < n ∨ p = n by omega) with q | q
      · rw [k3, v_un (by omega)]; exact h2 p a q c e f
      · subst q; rw [k3, v_us]; exact ⟨k2, rfl⟩
theorem v_go_SV {W : Int → Int} (hG : v_G W) (hF : v_F W) (hq : v_ob (v_go W) = v_ob W) : v_SV (v_go W) := by
  have g9 := hG.n9
  have h1 := v_s1_G hG (k := 1) (by omega) (fun p a b c => by have := hF p a b c; omega)
  have s1 := v_s1_same (W := W) (k := 1) (n := W 9) (by omega)
  have e19 : (v_s1 W 1 (W 9)) 9 = W 9 := s1.n9
  obtain ⟨G1, G2, G3, G4⟩ := v_go_G hG hF
  obtain ⟨h2, s2⟩ := v_s2_G h1 (W 9).toNat (by rw [e19]; omega)
  have stay : ∀ p : Int, 0 ≤ p → p < W 9 → W (800 + p) = 0 → (v_go W) (800 + p) = 0 := by
    intro p a b c
    have hc : v_cnt (v_on (v_go W)) (W 9).toNat = v_cnt (v_on W) (W 9).toNat := by
      have : v_cnt (v_on (v_go W)) ((v_go W) 9).toNat = v_cnt (v_on W) (W 9).toNat := hq
      rw [G3.n9] at this
      exact this
    exact of_decide_eq_true ((v_cnt_le (f := v_on W) (g := v_on (v_go W)) (W 9).toNat (fun q x y z => decide_eq_true ((v_go_on hG hF x (by omega)).1 (of_decide_eq_true z)).1)).2 hc p a (by omega) (decide_eq_true c))
  have stay2 : ∀ p : Int, 0 ≤ p → p < W 9 → W (800 + p) = 0 → (v_s2 (v_s1 W 1 (W 9)) (W 9).toNat) (800 + p) = 0 ∧ ¬ (v_s2 (v_s1 W 1 (W 9)) (W 9).toNat) 5 ≤ (v_s2 (v_s1 W 1 (W 9)) (W 9).toNat) (500 + p) := by
    intro p a b c
    have o := stay p a b c
    unfold v_go at o
    rw [v_s3_8 a] at o
    have r := v_reason_bd h2 a (by rw [s2.n9, e19]; exact b)
    split at o
    · omega
    · rename_i q
      exact ⟨o, fun r => q ⟨b, o, r⟩⟩
  have e8 : ∀ p : Int, 0 ≤ p → (v_s1 W 1 (W 9)) (800 + p) = W (800 + p) := fun p a => v_s1_8 a (by omega)
  obtain ⟨k1, k2⟩ := v_s2_SV h1 (fun p a b c => by rw [e19] at b; rw [e8 p a] at c; rw [e19]; exact (stay2 p a b c).1) (W 9).toNat (by rw [e19]; omega)
  have eV : v_go W = v_s2 (v_s1 W 1 (W 9)) (W 9).toNat := by
    unfold v_go
    rw [v_s3_skip (c := 0) (by omega) g9.1 ?_, v_s3_z]
    intro q a b c
    rw [k1 _ (by omega), e8 q a] at c
    exact (stay2 q a b c).2
  rw [eV]
  generalize v_s2 (v_s1 W 1 (W 9)) (W 9).toNat = V at *
  generalize hV1 : v_s1 W 1 (W 9) = V1 at *
  have sm : v_same V1 V := fun i a b c e => k1 i (by omega)
  intro p a b c e f
  rw [k1 9 (by omega), e19] at b
  have elo : v_lo V p = v_lo V1 p := h1.lo_cg sm a (by omega)
  rw [elo] at e f ⊢
  have bl := h1.lo (p := p)
  have g7 := h1.l7
  rw [k1 (800 + p) (by omega)] at c
  have hclr : v_clr V p ↔ v_clr V1 p := v_clr_cg 0 (k1 4 (by omega)) (k1 9 (by omega)) (fun q x y => k1 _ (by omega)) (fun q x y => k1 _ (by omega)) (fun q x y _ => by rw [k1 _ (by omega)]; omega) a (by omega) c
  have hw : v_win V1 p (v_lo V1 p) := by
    simp only [v_win, v_md] at f ⊢
    rw [k1 (16 + v_lo V1 p) (by omega), k1 (22 + v_lo V1 p) (by omega), k1 (500 + p) (by omega), k1 (200 + p) (by omega)] at f
    exact f
  obtain ⟨j1, j2⟩ := k2 p a (by omega) c e hw
  rw [j2]
  refine ⟨fun q => j1 ⟨hclr.mp q.1, ?_⟩, v_ite_iff hclr.symm⟩
  have := q.2
  rw [k1 _ (by omega), k1 _ (by omega)] at this
  exact this
/-- x more millimeters are quiet for the part p -/
def v_QP (W : Int → Int) (x p : Int) : Prop := W (500 + p) + x ≤ W 5 - 1 ∧ (¬ v_lo W p = -1 → 0 ≤ W (16 + v_lo W p) - 1 - v_md W p → x ≤ W (16 + v_lo W p) - 1 - v_md W p)
theorem v_quiet {W : Int → Int} (hG : v_G W) (hF : v_F W) (hV : v_SV W) {q : Nat} (hq : ∀ p, 0 ≤ p → p < W 9 → W (800 + p) = 0 → v_QP W q p) : ∀ k : Nat, k ≤ q → v_it k W = v_s1 W k (W 9)
  | 0, _ => by
    funext i
    unfold v_s1
    show W i = _
    by_cases c : i = 0
    · subst c; rw [if_pos rfl]; omega
    · rw [if_neg c]
      split
      · omega
      · rfl
  | k + 1, hk => by
    have g9 := hG.n9
    have g7 := hG.l7
    have ih := v_quiet hG hF hV hq k (by omega)
    show v_go (v_it k W) = _
    rw [ih]
    unfold v_go
    have e9 : (v_s1 W k (W 9)) 9 = W 9 := (v_s1_same (by omega)).n9
    rw [e9, v_s1_add (by omega), show (k : Int) + 1 = ((k + 1 : Nat) : Int) by omega]
    generalize hx : ((k + 1 : Nat) : Int) = x
    have hxq : x ≤ q := by omega
    have hx0 : 0 ≤ x := by omega
    have sm := v_s1_same (W := W) (k := x) (n := W 9) (by omega)
    have o : ∀ i : Int, ¬ i = 0 → ¬ (500 ≤ i ∧ i < 800) → v_s1 W x (W 9) i = W i := fun i a b => v_s1_o (by omega) a b
    have e5 : ∀ p : Int, 0 ≤ p → p < W 9 → W (800 + p) = 0 → v_s1 W x (W 9) (500 + p) = W (500 + p) + x := fun p a b c => by rw [v_s1_5 a, if_pos ⟨b, c⟩]
    have tr : ∀ p : Int, 0 ≤ p → p < W 9 → v_try (v_s1 W x (W 9)) p = v_s1 W x (W 9) := by
      intro p p0 p1
      have elo : v_lo (v_s1 W x (W 9)) p = v_lo W p := hG.lo_cg sm p0 (by omega)
      have bl := hG.lo (p := p)
      unfold v_try
      rw [elo]
      split
      · rename_i c
        obtain ⟨c1, c2, c3⟩ := c
        rw [o _ (by omega) (by omega)] at c1
        have hq2 := hq p p0 p1 c1
        simp only [v_win, v_md] at c3
        rw [o (16 + v_lo W p) (by omega) (by omega), o (22 + v_lo W p) (by omega) (by omega), o (200 + p) (by omega) (by omega), e5 p p0 p1 c1] at c3
        have hw : v_win W p (v_lo W p) := by
          have q2 := hq2.2 c2
          simp only [v_win, v_md] at q2 ⊢
          omega
        obtain ⟨j1, j2⟩ := hV p p0 p1 c1 c2 hw
        have hclr : v_clr (v_s1 W x (W 9)) p ↔ v_clr W p := v_clr_cg x (o 4 (by omega) (by omega)) (o 9 (by omega) (by omega)) (fun q a b => o _ (by omega) (by omega)) (fun q a b => o _ (by omega) (by omega)) e5 p0 p1 c1
        unfold v_att
        rw [if_neg (fun q => j1 ⟨hclr.mp q.1, by have := q.2; rw [o _ (by omega) (by omega), o _ (by omega) (by omega)] at this; exact this⟩), v_ite_iff hclr, ← j2, ← o (2600 + p) (by omega) (by omega)]
        exact v_u_id
      · rfl
    have s2 : ∀ n : Nat, (n : Int) ≤ W 9 → v_s2 (v_s1 W x (W 9)) n = v_s1 W x (W 9) := by
      intro n
      induction n with
      | zero => intro _; rfl
      | succ n ihn =>
        intro hn
        show v_try (v_s2 (v_s1 W x (W 9)) n) n = _
        rw [ihn (by omega)]
        exact tr n (by omega) (by omega)
    rw [s2 _ (by omega), v_s3_skip (c := 0) (by omega) g9.1 ?_, v_s3_z]
    intro r a b c
    rw [o _ (by omega) (by omega)] at c
    have := (hq r a b c).1
    rw [o 5 (by omega) (by omega), e5 r a b c]
    omega
