/-! the counts that the law looks at -/
section
variable {W : Int → Int}
theorem fts_no {a b : Int} (h : b < a) : v_fts W a b = 0 := by
  have key : ∀ n : Nat, v_cnt (fun p => decide (a ≤ W (800 + p) ∧ W (800 + p) ≤ b)) n = 0 := by
    intro n
    induction n with
    | zero => rfl
    | succ n ih =>
      rw [v_cnt, ih, if_neg (by simp only [decide_eq_true_eq]; omega)]
      rfl
  exact key _
theorem fts_up {a b : Int} (h : a ≤ b + 1) : v_fts W a (b + 1) = v_fts W a b + v_fts W (b + 1) (b + 1) := by
  have key : ∀ n : Nat, v_cnt (fun p => decide (a ≤ W (800 + p) ∧ W (800 + p) ≤ b + 1)) n = v_cnt (fun p => decide (a ≤ W (800 + p) ∧ W (800 + p) ≤ b)) n + v_cnt (fun p => decide (b + 1 ≤ W (800 + p) ∧ W (800 + p) ≤ b + 1)) n := by
    intro n
    induction n with
    | zero => rfl
    | succ n ih =>
      rw [v_cnt, v_cnt, v_cnt, ih]
      simp only [decide_eq_true_eq]
      by_cases q1 : a ≤ W (800 + (n : Int)) ∧ W (800 + (n : Int)) ≤ b
      · rw [if_pos (by omega), if_pos q1, if_neg (by omega)]; omega
      · by_cases q2 : b + 1 ≤ W (800 + (n : Int)) ∧ W (800 + (n : Int)) ≤ b + 1
        · rw [if_pos (by omega), if_neg q1, if_pos q2]; omega
        · rw [if_neg (by omega), if_neg q1, if_neg q2]; omega
  exact key _
theorem fts_all (hG : v_G W) (hN : NI W) : v_ob W + v_fts W 10 15 + v_fts W 1 6 + v_fts W 9 9 = W 9 := by
  have g9 := hG.n9
  have key : ∀ n : Nat, (n : Int) ≤ W 9 → v_cnt (v_on W) n + v_cnt (fun p => decide (10 ≤ W (800 + p) ∧ W (800 + p) ≤ 15)) n + v_cnt (fun p => decide (1 ≤ W (800 + p) ∧ W (800 + p) ≤ 6)) n + v_cnt (fun p => decide (9 ≤ W (800 + p) ∧ W (800 + p) ≤ 9)) n = n := by
    intro n
    induction n with
    | zero => intro _; rfl
    | succ n ih =>
      intro hn
      have ih := ih (by omega)
      have b := (hG.pt n (by omega) (by omega)).2.2.2.2.2.2
      have c := hN.1 n (by omega) (by omega)
      rw [v_cnt, v_cnt, v_cnt, v_cnt]
      simp only [decide_eq_true_eq]
      by_cases q1 : W (800 + (n : Int)) = 0
      · rw [if_pos q1, if_neg (by omega), if_neg (by omega), if_neg (by omega)]; omega
      · by_cases q2 : 10 ≤ W (800 + (n : Int))
        · rw [if_neg q1, if_pos (by omega), if_neg (by omega), if_neg (by omega)]; omega
        · by_cases q3 : W (800 + (n : Int)) ≤ 6
          · rw [if_neg q1, if_neg (by omega), if_pos (by omega), if_neg (by omega)]; omega
          · rw [if_neg q1, if_neg (by omega), if_neg (by omega), if_pos (by omega)]; omega
  have := key (W 9).toNat (by omega)
  show v_cnt _ _ + v_cnt _ _ + v_cnt _ _ + v_cnt _ _ = _
  omega
theorem fts_lanes (hG : v_G W) (hN : NI W) : v_fts W 10 (9 + W 7) = v_fts W 10 15 := by
  have g7 := hG.l7
  have key : ∀ t : Nat, W 7 + t ≤ 6 → v_fts W 10 (9 + W 7 + t) = v_fts W 10 (9 + W 7) := by
    intro t
    induction t with
    | zero => intro _; congr 1; omega
    | succ t ih =>
      intro ht
      have e1 := fts_up (W := W) (a := 10) (b := 9 + W 7 + t) (by omega)
      have e2 := hN.2 (W 7 + t) (by omega) (by omega)
      rw [(hG.l0 (W 7 + t) (by omega) (by omega)).2] at e2
      rw [show 10 + (W 7 + (t : Int)) = 9 + W 7 + t + 1 by omega] at e2
      rw [show 9 + W 7 + ((t + 1 : Nat) : Int) = 9 + W 7 + t + 1 by omega, e1, e2, ih (by omega)]
      omega
  rw [← key (6 - W 7).toNat (by omega)]
  congr 1
  omega
theorem tot_1 {c n : Int} : v_tot W c n 1 = W 9 := by simp [v_tot]
theorem tot_2 {c n : Int} : v_tot W c n 2 = v_ob W := by simp [v_tot]
theorem tot_3 {c n : Int} : v_tot W c n 3 = v_fts W 10 15 := by simp [v_tot]
theorem tot_4 {c n : Int} : v_tot W c n 4 = v_fts W 1 6 := by simp [v_tot]
theorem tot_5 {c n : Int} : v_tot W c n 5 = v_fts W 9 9 := by simp [v_tot]
theorem tot_6 {c n : Int} : v_tot W c n 6 = W 7 := by simp [v_tot]
theorem pp_0 {x : Int} : v_pp W x 0 = W (200 + x) := by simp [v_pp]
theorem pp_1 {x : Int} : v_pp W x 1 = W (800 + x) := by simp [v_pp]
theorem pp_2 {x : Int} : v_pp W x 2 = W (500 + x) := by simp [v_pp]
end
/-- the first sorter while it is only asked -/
def ON (K N : Nat → Nat) (z : Nat) (W : Int → Int) (S : Int → Int → Int) (c : Int) (I0 : Nat → Nat → Int) (P0 : Nat → Nat → Option Nat) (I : Nat → Nat → Int) (P : Nat → Nat → Option Nat) : Prop := GI K N I P z W S c T0 0 ∧ GT N I ∧ GF I0 I ∧ GP P0 P
section
variable {d : Nat} {M : am_M} {vs : List am_V} {v : am_V} {K N : Nat → Nat} {I I0 : Nat → Nat → Int} {P P0 : Nat → Nat → Option Nat} {z : Nat} {Q : am_V → am_T} {W : Int → Int} {S : Int → Int → Int} {c : Int}
theorem on_call (h : ST1 d M vs W S c v W S c) (g : ON K N z W S c I0 P0 I P) (hq : ∀ I' P', ON K N z W S c I0 P0 I' P' → Q v K N I' P' z) : am_C d M (am_r 4 :: vs) K N I P z Q am_nx :=
  h K N I P z Q g.1 g.2.1 (fun I' P' f1 f2 h' => hq I' P' ⟨h', g.2.1.cg (fun _ _ => rfl) (fun a ha => f1 a (Or.inl ha)), g.2.2.1.tr f1, g.2.2.2.tr f2⟩)
theorem st_counted (hd : 25 ≤ d) (hV : VG W) (hN : NI W) : ST1 d m_L_isCounted [] W S c (am_i 1) W S c := by
  intro K N I0 P0 z Q hg ht hq
  have hG := hV.1
  have g9 := hG.n9
  have g7 := hG.l7
  have on0 : ON K N z W S c I0 P0 I0 P0 := ⟨hg, ht, GF.rf, GP.rf⟩
  have fin : ∀ I P, ON K N z W S c I0 P0 I P → Q (am_i 1) K N I P z := fun I P on => hq I P on.2.2.1 on.2.2.2 on.1
  have all := fts_all hG hN
  have lan := fts_lanes hG hN
  have b1 := fts_bd (W := W) (a := 10) (b := 15) g9.1
  have b2 := fts_bd (W := W) (a := 1) (b := 6) g9.1
  have b3 := fts_bd (W := W) (a := 9) (b := 9) g9.1
  have b4 : 0 ≤ v_ob W ∧ v_ob W ≤ ((W 9).toNat : Nat) := v_cnt_bd (v_on W) (W 9).toNat
  have k2 : ∀ (m j k n : Nat) (l2 l3 : Int) (I : Nat → Nat → Int) (P : Nat → Nat → Option Nat), j + m = (W 7).toNat → k ≤ 8 + 4 * j → n ≤ 48 + 24 * j → l2 = v_fts W 10 (9 + j) → l3 = j → ON K N z W S c I0 P0 I P → L_L_isCounted_28 d k n 4 (v_fts W 1 6) l2 l3 K N I P z Q := by
    intro m
    induction m with
    | zero =>
      intro j k n l2 l3 I P hj hk hn e2 e3 on
      have ej : (j : Int) = W 7 := by omega
      rw [ej] at e2
      refine wf_L_isCounted_28 (by omega) ⟨⟨by omega, by omega⟩, on_call (st_total (by omega) (by omega)) on ?_⟩
      intro I1 P1 on1
      simp only [am_iv, tot_6]
      refine ⟨fun _ => ⟨⟨by omega, by omega⟩, on_call (st_total (by omega) (by omega)) on1 ?_⟩, fun e => absurd (by omega) e⟩
      intro I2 P2 on2
      simp only [am_iv, tot_4]
      refine ⟨fun e => (e (by trivial)).elim, fun _ => ⟨⟨by omega, by omega⟩, on_call (st_total (by omega) (by omega)) on2 ?_⟩⟩
      intro I3 P3 on3
      simp only [am_iv, tot_3]
      refine ⟨fun e => (e (e2.trans lan)).elim, fun _ => ⟨⟨by omega, by omega⟩, on_call (st_total (by omega) (by omega)) on3 ?_⟩⟩
      intro I4 P4 on4
      simp only [am_iv, tot_1]
      refine ⟨⟨by omega, by omega⟩, on_call (st_total (by omega) (by omega)) on4 ?_⟩
      intro I5 P5 on5
      simp only [am_iv, tot_2]
      refine ⟨⟨by omega, by omega⟩, on_call (st_total (by omega) (by omega)) on5 ?_⟩
      intro I6 P6 on6
      simp only [am_iv, tot_3]
      refine ⟨⟨by omega, by omega⟩, on_call (st_total (by omega) (by omega)) on6 ?_⟩
      intro I7 P7 on7
      simp only [am_iv, tot_4]
      refine ⟨⟨by omega, by omega⟩, on_call (st_total (by omega) (by omega)) on7 ?_⟩
      intro I8 P8 on8
      simp only [am_iv, tot_5]
      have e : W 9 = am_wr (am_wr (am_wr (v_ob W + v_fts W 10 15) + v_fts W 1 6) + v_fts W 9 9) := by
        rw [am_wE (x := v_ob W + v_fts W 10 15) (by omega) (by omega), am_wE (x := v_ob W + v_fts W 10 15 + v_fts W 1 6) (by omega) (by omega), am_wE (by omega) (by omega)]
        omega
      exact ⟨fun q => (q e).elim, fun _ => ⟨⟨by omega, by omega⟩, fin _ _ on8⟩⟩
    | succ m ih =>
      intro j k n l2 l3 I P hj hk hn e2 e3 on
      have l := hG.ln j (by omega) (by omega)
      refine wf_L_isCounted_28 (by omega) ⟨⟨by omega, by omega⟩, on_call (st_total (by omega) (by omega)) on ?_⟩
      intro I1 P1 on1
      simp only [am_iv, tot_6]
      refine ⟨fun e => absurd e (by omega), fun _ => ⟨⟨by omega, by omega⟩, on_call (st_lane (by omega) ⟨by omega, by omega⟩ (by omega) (by omega)) on1 ?_⟩⟩
      intro I2 P2 on2
      simp only [am_iv]
      refine ⟨⟨by omega, by omega⟩, on_call (st_lane (by omega) ⟨by omega, by omega⟩ (by omega) (by omega)) on2 ?_⟩
      intro I3 P3 on3
      simp only [am_iv]
      refine ⟨⟨by omega, by omega⟩, on_call (st_lane (by omega) ⟨by omega, by omega⟩ (by omega) (by omega)) on3 ?_⟩
      intro I4 P4 on4
      simp only [am_iv]
      have w4 : W (16 + 6 * 4 + l3) = W (40 + j) := congrArg W (by omega)
      have w3 : W (16 + 6 * 3 + l3) = W (34 + j) := congrArg W (by omega)
      have w2 : W (16 + 6 * 2 + l3) = W (28 + j) := congrArg W (by omega)
      rw [w4, w3, w2]
      have u := fts_up (W := W) (a := 10) (b := 9 + j) (by omega)
      have s := hN.2 j (by omega) (by omega)
      rw [show 10 + (j : Int) = 9 + j + 1 by omega] at s
      have bb := fts_bd (W := W) (a := 10) (b := 9 + j) g9.1
      have bc := fts_bd (W := W) (a := 9 + j + 1) (b := 9 + j + 1) g9.1
      refine ⟨fun _ => ?_, fun e => absurd l.2.2.2.2 e⟩
      refine ih (j + 1) _ _ _ _ I4 P4 (by omega) (by omega) (by omega) ?_ ?_ on4
      · rw [e2, ← s, am_wE (by omega) (by omega), ← u]
        congr 1 <;> omega
      · rw [am_wE (by omega) (by omega)]; omega
  have k1 : ∀ (m j k n : Nat) (l1 l2 : Int) (I : Nat → Nat → Int) (P : Nat → Nat → Option Nat), j + m = 7 → 1 ≤ j → k ≤ j → n ≤ 6 * j → l1 = v_fts W 1 (j - 1) → l2 = j → ON K N z W S c I0 P0 I P → L_L_isCounted_4 d k n 4 l1 l2 K N I P z Q := by
    intro m
    induction m with
    | zero =>
      intro j k n l1 l2 I P hj h1 hk hn e1 e2 on
      obtain rfl : j = 7 := by omega
      refine wf_L_isCounted_4 (by omega) ⟨fun _ => ?_, fun e => absurd (by omega) e⟩
      rw [e1]
      exact k2 (W 7).toNat 0 _ _ _ _ I P (by omega) (by omega) (by omega) (fts_no (by omega)).symm rfl on
    | succ m ih =>
      intro j k n l1 l2 I P hj h1 hk hn e1 e2 on
      refine wf_L_isCounted_4 (by omega) ⟨fun e => absurd e (by omega), fun _ => ⟨⟨by omega, by omega⟩, on_call (st_lost (by omega) (by omega)) on ?_⟩⟩
      intro I1 P1 on1
      simp only [am_iv]
      have u := fts_up (W := W) (a := 1) (b := (j : Int) - 1) (by omega)
      rw [show (j : Int) - 1 + 1 = j by omega] at u
      have bb := fts_bd (W := W) (a := 1) (b := (j : Int) - 1) g9.1
      have bc := fts_bd (W := W) (a := (j : Int)) (b := (j : Int)) g9.1
      refine ih (j + 1) _ _ _ _ I1 P1 (by omega) (by omega) (by omega) (by omega) ?_ ?_ on1
      · rw [e1, e2, am_wE (by omega) (by omega), ← u]
        congr 1
        omega
      · rw [e2, am_wE (by omega) (by omega)]; omega
  exact wf_L_isCounted (k1 6 1 0 0 0 1 I0 P0 (by omega) (by omega) (by omega) (by omega) (fts_no (by omega)).symm rfl on0)
theorem st_apart (hd : 25 ≤ d) (hV : VG W) : ST1 d m_L_areApart [] W S c (am_i 1) W S c := by
  intro K N I0 P0 z Q hg ht hq
  have hG := hV.1
  have hF := hV.2.1
  have g9 := hG.n9
  have g5 := hG.s5
  have on0 : ON K N z W S c I0 P0 I0 P0 := ⟨hg, ht, GF.rf, GP.rf⟩
  have fin : ∀ I P, ON K N z W S c I0 P0 I P → Q (am_i 1) K N I P z := fun I P on => hq I P on.2.2.1 on.2.2.2 on.1
  have key : ∀ (m j k n : Nat) (l1 l2 : Int) (I : Nat → Nat → Int) (P : Nat → Nat → Option Nat), j + m = (W 9).toNat → k ≤ 9 * j → n ≤ 54 * j → l1 = (if v_ah W j = -1 then 99999 else v_tl W (v_ah W j)) → l2 = j → ON K N z W S c I0 P0 I P → L_L_areApart_5 d k n 4 l1 l2 K N I P z Q := by
    intro m
    induction m with
    | zero =>
      intro j k n l1 l2 I P hj hk hn e1 e2 on
      refine wf_L_areApart_5 (by omega) ⟨⟨by omega, by omega⟩, on_call (st_total (by omega) (by omega)) on ?_⟩
      intro I1 P1 on1
      simp only [am_iv, tot_1]
      exact ⟨fun _ => ⟨⟨by omega, by omega⟩, fin _ _ on1⟩, fun e => absurd (by omega) e⟩
    | succ m ih =>
      intro j k n l1 l2 I P hj hk hn e1 e2 on
      subst e2
      have up : am_wr ((j : Int) + 1) = ((j + 1 : Nat) : Int) := by rw [am_wE (by omega) (by omega)]; omega
      have pb := hG.pt j (by omega) (by omega)
      have vb := v_prev_bd (v_on W) j
      refine wf_L_areApart_5 (by omega) ⟨⟨by omega, by omega⟩, on_call (st_total (by omega) (by omega)) on ?_⟩
      intro I1 P1 on1
      simp only [am_iv, tot_1]
      refine ⟨fun e => absurd e (by omega), fun _ => ⟨⟨by omega, by omega⟩, on_call (st_part (by omega) ⟨by omega, by omega⟩ (by omega)) on1 ?_⟩⟩
      intro I2 P2 on2
      simp only [am_iv, pp_1]
      by_cases q : W (800 + (j : Int)) = 0
      · have nxt : v_ah W (j + 1) = j := by
          show v_prev (v_on W) (j + 1) = j
          rw [v_prev, if_pos (decide_eq_true q)]
        have fr := hF j (by omega) (by omega) q
        have w5 : W (1 + 4) = W 5 := congrArg W (by omega)
        have nx1 : am_wr (W (500 + (j : Int)) - W (200 + (j : Int))) = (if v_ah W (j + 1) = -1 then 99999 else v_tl W (v_ah W (j + 1))) := by
          rw [nxt, if_neg (by omega), am_wE (by omega) (by omega)]
        refine ⟨fun e => absurd q e, fun _ => ⟨⟨by omega, by omega⟩, on_call (st_gap (by omega) ⟨by omega, by omega⟩ q) on2 ?_⟩⟩
        intro I3 P3 on3
        simp only [am_iv, Int.toNat_natCast]
        by_cases q2 : v_ah W j = -1
        · rw [if_pos q2] at e1
          rw [if_pos q2]
          refine ⟨fun e => absurd e1 e, fun _ => ⟨fun e => (e rfl).elim, fun _ => ⟨⟨by omega, by omega⟩, on_call (st_part (by omega) ⟨by omega, by omega⟩ (by omega)) on3 ?_⟩⟩⟩
          intro I4 P4 on4
          simp only [am_iv, pp_2]
          refine ⟨fun e => absurd e (by omega), fun _ => ⟨⟨by omega, by omega⟩, on_call (st_part (by omega) ⟨by omega, by omega⟩ (by omega)) on4 ?_⟩⟩
          intro I5 P5 on5
          simp only [am_iv, pp_2]
          refine ⟨⟨by omega, by omega⟩, on_call (st_setting (by omega) (by omega)) on5 ?_⟩
          intro I6 P6 on6
          simp only [am_iv]
          rw [w5]
          refine ⟨fun _ => ⟨⟨by omega, by omega⟩, on_call (st_part (by omega) ⟨by omega, by omega⟩ (by omega)) on6 ?_⟩, fun e => absurd fr e⟩
          intro I7 P7 on7
          simp only [am_iv, pp_2]
          refine ⟨⟨by omega, by omega⟩, on_call (st_part (by omega) ⟨by omega, by omega⟩ (by omega)) on7 ?_⟩
          intro I8 P8 on8
          simp only [am_iv, pp_0]
          exact ih (j + 1) _ _ _ _ I8 P8 (by omega) (by omega) (by omega) nx1 up on8
        · rw [if_neg q2] at e1
          rw [if_neg q2]
          have vo := v_prev_on (v_on W) j q2
          have vo : W (800 + v_ah W j) = 0 := of_decide_eq_true vo
          have vb : -1 ≤ v_ah W j ∧ v_ah W j < j := vb
          have od := hG.od (v_ah W j) j (by omega) vb.2 (by omega) vo q
          have pb2 := hG.pt (v_ah W j) (by omega) (by omega)
          have e1 : l1 = W (500 + v_ah W j) - W (200 + v_ah W j) := e1
          refine ⟨fun _ => ⟨⟨by omega, by omega⟩, on_call (st_part (by omega) ⟨by omega, by omega⟩ (by omega)) on3 ?_⟩, fun e => absurd e (by omega)⟩
          intro I4 P4 on4
          simp only [am_iv, pp_2]
          have e3 : W (500 + v_ah W j) - W (200 + v_ah W j) - W (500 + (j : Int)) = am_wr (l1 - W (500 + (j : Int))) := by rw [e1, am_wE (by omega) (by omega)]
          refine ⟨fun e => absurd e3 e, fun _ => ⟨⟨by omega, by omega⟩, on_call (st_part (by omega) ⟨by omega, by omega⟩ (by omega)) on4 ?_⟩⟩
          intro I5 P5 on5
          simp only [am_iv, pp_2]
          refine ⟨fun e => absurd e (by omega), fun _ => ⟨⟨by omega, by omega⟩, on_call (st_part (by omega) ⟨by omega, by omega⟩ (by omega)) on5 ?_⟩⟩
          intro I6 P6 on6
          simp only [am_iv, pp_2]
          refine ⟨⟨by omega, by omega⟩, on_call (st_setting (by omega) (by omega)) on6 ?_⟩
          intro I7 P7 on7
          simp only [am_iv]
          rw [w5]
          refine ⟨fun _ => ⟨⟨by omega, by omega⟩, on_call (st_part (by omega) ⟨by omega, by omega⟩ (by omega)) on7 ?_⟩, fun e => absurd fr e⟩
          intro I8 P8 on8
          simp only [am_iv, pp_2]
          refine ⟨⟨by omega, by omega⟩, on_call (st_part (by omega) ⟨by omega, by omega⟩ (by omega)) on8 ?_⟩
          intro I9 P9 on9
          simp only [am_iv, pp_0]
          exact ih (j + 1) _ _ _ _ I9 P9 (by omega) (by omega) (by omega) nx1 up on9
      · have nxt : v_ah W (j + 1) = v_ah W j := by
          show v_prev (v_on W) (j + 1) = v_prev (v_on W) j
          rw [v_prev, if_neg (by simpa using q)]
        refine ⟨fun _ => ?_, fun e => absurd e q⟩
        refine ih (j + 1) _ _ _ _ I2 P2 (by omega) (by omega) (by omega) ?_ up on2
        rw [nxt]; exact e1
  exact wf_L_areApart (key (W 9).toNat 0 0 0 99999 0 I0 P0 (by omega) (by omega) (by omega) (by rw [if_pos (show v_ah W 0 = -1 from rfl)]) rfl on0)
end
