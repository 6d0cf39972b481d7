section
variable {d : Nat} {K N K1 N1 : Nat → Nat} {I I1 I2 : Nat → Nat → Int} {P P1 P' : Nat → Nat → Option Nat} {z z1 : Nat} {Q R : am_V → am_T} {W W' : Int → Int} {S S' : Int → Int → Int} {c c' : Int} {T T' : Int → Int} {n n' : Int}
theorem law_tail {k9 b : Int} {LL BB : Prop} (hL : LI K N I P z W S c T n) (hc : CO K N I P z K1 N1 I1 P1 z1 W' S' c' T' n') (hF : FM I1 I2) (ht : I2 284 7 = k9) (hb : k9 = 0 → I1 290 0 = b) (hn : LL) : ((I2 284 7 = k9 → ((¬ k9 = 0 → LL) ∧ (k9 = 0 → K1 290 = 14 ∧ (0 ≤ (0 : Int) ∧ (0 : Int) < N1 290) ∧ ((I2 290 0 = b → LL) ∧ (¬ (I2 290 0 = b) → BB))))) ∧ (¬ (I2 284 7 = k9) → BB)) := by
  have hz := hc.2.2.1
  refine ⟨fun _ => ⟨fun _ => hn, fun e => ⟨by rw [hc.1 _ (by omega)]; exact hL.2.2.2.2.1, by rw [hc.2.1 _ (by omega), hL.2.2.2.2.2]; omega, fun _ => hn, fun q => ?_⟩⟩, fun q => (q ht).elim⟩
  rw [hF 290 (by omega)] at q
  exact (q (hb e)).elim
set_option maxRecDepth 100000 in
set_option maxHeartbeats 4000000 in
theorem law_loop (hd : 26 ≤ d) (hQ : ∀ (K N : Nat → Nat) (I : Nat → Nat → Int) (P : Nat → Nat → Option Nat) (z : Nat), Q (am_i 1) K N I P z) : ∀ (r j k n9 : Nat) (l4 : Int) (K N : Nat → Nat) (I : Nat → Nat → Int) (P : Nat → Nat → Option Nat) (z : Nat) (W : Int → Int) (S : Int → Int → Int) (c : Int) (T : Int → Int) (n : Int), r + j = 513 → l4 = 4 * (j : Int) → k ≤ 287 + 5 * j → n9 ≤ 32460 + 326 * j → N 3 ≤ 2048 → LI K N I P z W S c T n → L_N_law_23 d k n9 3 4 284 290 l4 K N I P z Q := by
  intro r
  induction r with
  | zero =>
    intro j k n9 l4 K N I P z W S c T n hr hl hk hn hN hL
    refine wf_N_law_23 (by omega) ⟨by decide, by omega, fun _ => ⟨⟨by omega, by omega⟩, hQ _ _ _ _ _⟩, fun q => ?_⟩
    rw [am_wE (by omega) (by omega)] at q
    omega
  | succ r ih =>
    intro j k n9 l4 K N I P z W S c T n hr hl hk hn hN hL
    refine wf_N_law_23 (by omega) ⟨by decide, by omega, fun _ => ⟨⟨by omega, by omega⟩, hQ _ _ _ _ _⟩, fun q => ?_⟩
    rw [am_wE (by omega) (by omega)] at q
    have w1 : 0 ≤ am_wr (l4 + 1) ∧ am_wr (l4 + 1) < (N 3 : Int) := by rw [am_wE (by omega) (by omega)]; omega
    have w2 : 0 ≤ am_wr (l4 + 2) ∧ am_wr (l4 + 2) < (N 3 : Int) := by rw [am_wE (by omega) (by omega)]; omega
    have w3 : 0 ≤ am_wr (l4 + 3) ∧ am_wr (l4 + 3) < (N 3 : Int) := by rw [am_wE (by omega) (by omega)]; omega
    have w4 : am_wr (l4 + 4) = 4 * ((j + 1 : Nat) : Int) := by rw [am_wE (by omega) (by omega)]; omega
    have hz := hL.1.zz
    have n3 : ∀ {K1 N1 I1 P1 z1 W1 S1 c1 T1 n1}, CO K N I P z K1 N1 I1 P1 z1 W1 S1 c1 T1 n1 → N1 3 = N 3 := fun hc => hc.2.1 3 (by omega)
    have i3 : ∀ {K1 N1 I1 P1 z1 W1 S1 c1 T1 n1}, CO K N I P z K1 N1 I1 P1 z1 W1 S1 c1 T1 n1 → I1 3 = I 3 := fun hc => hc.2.2.2.1 3 (by omega)
    have nx : ∀ (k' n' : Nat) {K1 N1 I1 P1 z1 W1 S1 c1 T1 n1 I2}, k' ≤ k + 5 → n' ≤ n9 + 326 → CO K N I P z K1 N1 I1 P1 z1 W1 S1 c1 T1 n1 → FM I1 I2 → MA I2 W1 S1 c1 T1 n1 → L_N_law_23 d k' n' 3 4 284 290 (am_wr (l4 + 4)) K1 N1 I2 P1 z1 Q := by
      intro k' n' K1 N1 I1 P1 z1 W1 S1 c1 T1 n1 I2 e1 e2 hc hF hA
      exact ih (j + 1) k' n' _ K1 N1 I2 P1 z1 W1 S1 c1 T1 n1 (by omega) w4 (by omega) (by omega) (by rw [n3 hc]; exact hN) (hL.next hc hF hA)
    refine ⟨by omega, fun _ => ?_, fun _ => ?_, fun _ => ?_, fun _ => ?_, fun _ => ?_, fun _ => ?_, fun _ => ?_, fun _ => ?_, fun _ => ?_, fun _ => ?_, fun _ => ?_, fun _ => ?_, fun _ => ?_, fun _ => ?_, fun _ => ?_, fun _ => ?_, fun _ => ?_, fun _ => ?_, fun _ => ?_, fun _ => ?_, fun _ => ?_, fun _ => ?_, fun _ => ?_, fun _ => ?_, fun _ => ?_, fun _ => ?_, fun _ => ?_, fun _ => ?_⟩
    · refine ⟨w1, w2, ⟨by omega, by omega⟩, lw_set (by omega) hL ?_⟩
      intro K1 N1 I1 P1 z1 k9 b W1 S1 c1 T1 n1 hc hb hq
      refine ⟨by rw [n3 hc]; exact w1, by rw [n3 hc]; exact w2, ⟨by omega, by omega⟩, (hc.ms hL.2.1).1, ?_⟩
      rw [i3 hc]
      refine hq _ ?_
      intro I2 hF hA2 ht
      refine ⟨⟨by omega, by omega⟩, (hc.ms hL.2.1).1, sp_thrown (hc.ms hL.2.1) ?_⟩
      exact law_tail hL hc hF ht hb (nx (k + 1) (n9 + 6) (by omega) (by omega) hc hF hA2)
    · refine ⟨w1, w2, w3, ⟨by omega, by omega⟩, lw_addLane (by omega) hL ?_⟩
      intro K1 N1 I1 P1 z1 k9 b W1 S1 c1 T1 n1 hc hb hq
      refine ⟨by rw [n3 hc]; exact w1, by rw [n3 hc]; exact w2, by rw [n3 hc]; exact w3, ⟨by omega, by omega⟩, (hc.ms hL.2.1).1, ?_⟩
      rw [i3 hc]
      refine hq _ ?_
      intro I2 hF hA2 ht
      refine ⟨⟨by omega, by omega⟩, (hc.ms hL.2.1).1, sp_thrown (hc.ms hL.2.1) ?_⟩
      exact law_tail hL hc hF ht hb (nx (k + 1) (n9 + 6) (by omega) (by omega) hc hF hA2)
    · refine ⟨w1, ⟨by omega, by omega⟩, lw_emptyLane (by omega) hL ?_⟩
      intro K1 N1 I1 P1 z1 k9 b W1 S1 c1 T1 n1 hc hb hq
      refine ⟨by rw [n3 hc]; exact w1, ⟨by omega, by omega⟩, (hc.ms hL.2.1).1, ?_⟩
      rw [i3 hc]
      refine hq _ ?_
      intro I2 hF hA2 ht
      refine ⟨⟨by omega, by omega⟩, (hc.ms hL.2.1).1, sp_thrown (hc.ms hL.2.1) ?_⟩
      exact law_tail hL hc hF ht hb (nx (k + 1) (n9 + 6) (by omega) (by omega) hc hF hA2)
    · refine ⟨w1, w2, ⟨by omega, by omega⟩, lw_route (by omega) hL ?_⟩
      intro K1 N1 I1 P1 z1 k9 b W1 S1 c1 T1 n1 hc hb hq
      refine ⟨by rw [n3 hc]; exact w1, by rw [n3 hc]; exact w2, ⟨by omega, by omega⟩, (hc.ms hL.2.1).1, ?_⟩
      rw [i3 hc]
      refine hq _ ?_
      intro I2 hF hA2 ht
      refine ⟨⟨by omega, by omega⟩, (hc.ms hL.2.1).1, sp_thrown (hc.ms hL.2.1) ?_⟩
      exact law_tail hL hc hF ht hb (nx (k + 1) (n9 + 6) (by omega) (by omega) hc hF hA2)
    · refine ⟨w1, ⟨by omega, by omega⟩, lw_removeRoute (by omega) hL ?_⟩
      intro K1 N1 I1 P1 z1 k9 b W1 S1 c1 T1 n1 hc hb hq
      refine ⟨by rw [n3 hc]; exact w1, ⟨by omega, by omega⟩, (hc.ms hL.2.1).1, ?_⟩
      rw [i3 hc]
      refine hq _ ?_
      intro I2 hF hA2 ht
      refine ⟨⟨by omega, by omega⟩, (hc.ms hL.2.1).1, sp_thrown (hc.ms hL.2.1) ?_⟩
      exact law_tail hL hc hF ht hb (nx (k + 1) (n9 + 6) (by omega) (by omega) hc hF hA2)
    · refine ⟨w1, ⟨by omega, by omega⟩, lw_enter (by omega) hL ?_⟩
      intro K1 N1 I1 P1 z1 k9 b W1 S1 c1 T1 n1 hc hb hq
      refine ⟨by rw [n3 hc]; exact w1, ⟨by omega, by omega⟩, (hc.ms hL.2.1).1, ?_⟩
      rw [i3 hc]
      refine hq _ ?_
      intro I2 hF hA2 ht
      refine ⟨⟨by omega, by omega⟩, (hc.ms hL.2.1).1, sp_thrown (hc.ms hL.2.1) ?_⟩
      exact law_tail hL hc hF ht hb (nx (k + 1) (n9 + 6) (by omega) (by omega) hc hF hA2)
    · refine ⟨w1, ⟨by omega, by omega⟩, lw_read (by omega) hL ?_⟩
      intro K1 N1 I1 P1 z1 k9 b W1 S1 c1 T1 n1 hc hb hq
      refine ⟨by rw [n3 hc]; exact w1, ⟨by omega, by omega⟩, (hc.ms hL.2.1).1, ?_⟩
      rw [i3 hc]
      refine hq _ ?_
      intro I2 hF hA2 ht
      refine ⟨⟨by omega, by omega⟩, (hc.ms hL.2.1).1, sp_thrown (hc.ms hL.2.1) ?_⟩
      exact law_tail hL hc hF ht hb (nx (k + 1) (n9 + 6) (by omega) (by omega) hc hF hA2)
    · refine ⟨w1, ⟨by omega, by omega⟩, lw_move (by omega) hL ?_⟩
      intro K1 N1 I1 P1 z1 k9 b W1 S1 c1 T1 n1 hc hb hq
      refine ⟨by rw [n3 hc]; exact w1, ⟨by omega, by omega⟩, (hc.ms hL.2.1).1, ?_⟩
      rw [i3 hc]
      refine hq _ ?_
      intro I2 hF hA2 ht
      refine ⟨⟨by omega, by omega⟩, (hc.ms hL.2.1).1, sp_thrown (hc.ms hL.2.1) ?_⟩
      exact law_tail hL hc hF ht hb (nx (k + 1) (n9 + 6) (by omega) (by omega) hc hF hA2)
    · refine ⟨w1, ⟨by omega, by omega⟩, lw_takeOff (by omega) hL ?_⟩
      intro K1 N1 I1 P1 z1 k9 b W1 S1 c1 T1 n1 hc hb hq
      refine ⟨by rw [n3 hc]; exact w1, ⟨by omega, by omega⟩, (hc.ms hL.2.1).1, ?_⟩
      rw [i3 hc]
      refine hq _ ?_
      intro I2 hF hA2 ht
      refine ⟨⟨by omega, by omega⟩, (hc.ms hL.2.1).1, sp_thrown (hc.ms hL.2.1) ?_⟩
      exact law_tail hL hc hF ht hb (nx (k + 1) (n9 + 6) (by omega) (by omega) hc hF hA2)
    · refine ⟨⟨by omega, by omega⟩, lw_undo (by omega) hL ?_⟩
      intro K1 N1 I1 P1 z1 k9 b W1 S1 c1 T1 n1 hc hb hq
      refine ⟨⟨by omega, by omega⟩, (hc.ms hL.2.1).1, ?_⟩
      refine hq _ ?_
      intro I2 hF hA2 ht
      refine ⟨⟨by omega, by omega⟩, (hc.ms hL.2.1).1, sp_thrown (hc.ms hL.2.1) ?_⟩
      exact law_tail hL hc hF ht hb (nx (k + 1) (n9 + 6) (by omega) (by omega) hc hF hA2)
    · refine ⟨w1, w2, ⟨by omega, by omega⟩, lw_part (by omega) hL ?_⟩
      intro K1 N1 I1 P1 z1 k9 b W1 S1 c1 T1 n1 hc hb hq
      refine ⟨by rw [n3 hc]; exact w1, by rw [n3 hc]; exact w2, ⟨by omega, by omega⟩, (hc.ms hL.2.1).1, ?_⟩
      rw [i3 hc]
      refine hq _ ?_
      intro I2 hF hA2 ht
      refine ⟨⟨by omega, by omega⟩, (hc.ms hL.2.1).1, sp_thrown (hc.ms hL.2.1) ?_⟩
      exact law_tail hL hc hF ht hb (nx (k + 1) (n9 + 6) (by omega) (by omega) hc hF hA2)
    · refine ⟨w1, w2, ⟨by omega, by omega⟩, lw_lane (by omega) hL ?_⟩
      intro K1 N1 I1 P1 z1 k9 b W1 S1 c1 T1 n1 hc hb hq
      refine ⟨by rw [n3 hc]; exact w1, by rw [n3 hc]; exact w2, ⟨by omega, by omega⟩, (hc.ms hL.2.1).1, ?_⟩
      rw [i3 hc]
      refine hq _ ?_
      intro I2 hF hA2 ht
      refine ⟨⟨by omega, by omega⟩, (hc.ms hL.2.1).1, sp_thrown (hc.ms hL.2.1) ?_⟩
      exact law_tail hL hc hF ht hb (nx (k + 1) (n9 + 6) (by omega) (by omega) hc hF hA2)
    · refine ⟨w1, ⟨by omega, by omega⟩, lw_total (by omega) hL ?_⟩
      intro K1 N1 I1 P1 z1 k9 b W1 S1 c1 T1 n1 hc hb hq
      refine ⟨by rw [n3 hc]; exact w1, ⟨by omega, by omega⟩, (hc.ms hL.2.1).1, ?_⟩
      rw [i3 hc]
      refine hq _ ?_
      intro I2 hF hA2 ht
      refine ⟨⟨by omega, by omega⟩, (hc.ms hL.2.1).1, sp_thrown (hc.ms hL.2.1) ?_⟩
      exact law_tail hL hc hF ht hb (nx (k + 1) (n9 + 6) (by omega) (by omega) hc hF hA2)
    · refine ⟨w1, ⟨by omega, by omega⟩, lw_lost (by omega) hL ?_⟩
      intro K1 N1 I1 P1 z1 k9 b W1 S1 c1 T1 n1 hc hb hq
      refine ⟨by rw [n3 hc]; exact w1, ⟨by omega, by omega⟩, (hc.ms hL.2.1).1, ?_⟩
      rw [i3 hc]
      refine hq _ ?_
      intro I2 hF hA2 ht
      refine ⟨⟨by omega, by omega⟩, (hc.ms hL.2.1).1, sp_thrown (hc.ms hL.2.1) ?_⟩
      exact law_tail hL hc hF ht hb (nx (k + 1) (n9 + 6) (by omega) (by omega) hc hF hA2)
    · refine ⟨w1, ⟨by omega, by omega⟩, lw_setting (by omega) hL ?_⟩
      intro K1 N1 I1 P1 z1 k9 b W1 S1 c1 T1 n1 hc hb hq
      refine ⟨by rw [n3 hc]; exact w1, ⟨by omega, by omega⟩, (hc.ms hL.2.1).1, ?_⟩
      rw [i3 hc]
      refine hq _ ?_
      intro I2 hF hA2 ht
      refine ⟨⟨by omega, by omega⟩, (hc.ms hL.2.1).1, sp_thrown (hc.ms hL.2.1) ?_⟩
      exact law_tail hL hc hF ht hb (nx (k + 1) (n9 + 6) (by omega) (by omega) hc hF hA2)
    · refine ⟨w1, ⟨by omega, by omega⟩, lw_routeAt (by omega) hL ?_⟩
      intro K1 N1 I1 P1 z1 k9 b W1 S1 c1 T1 n1 hc hb hq
      refine ⟨by rw [n3 hc]; exact w1, ⟨by omega, by omega⟩, (hc.ms hL.2.1).1, ?_⟩
      rw [i3 hc]
      refine hq _ ?_
      intro I2 hF hA2 ht
      refine ⟨⟨by omega, by omega⟩, (hc.ms hL.2.1).1, sp_thrown (hc.ms hL.2.1) ?_⟩
      exact law_tail hL hc hF ht hb (nx (k + 1) (n9 + 6) (by omega) (by omega) hc hF hA2)
    · refine ⟨w1, ⟨by omega, by omega⟩, lw_gapAhead (by omega) hL ?_⟩
      intro K1 N1 I1 P1 z1 k9 b W1 S1 c1 T1 n1 hc hb hq
      refine ⟨by rw [n3 hc]; exact w1, ⟨by omega, by omega⟩, (hc.ms hL.2.1).1, ?_⟩
      rw [i3 hc]
      refine hq _ ?_
      intro I2 hF hA2 ht
      refine ⟨⟨by omega, by omega⟩, (hc.ms hL.2.1).1, sp_thrown (hc.ms hL.2.1) ?_⟩
      exact law_tail hL hc hF ht hb (nx (k + 1) (n9 + 6) (by omega) (by omega) hc hF hA2)
    · refine ⟨w1, ⟨by omega, by omega⟩, lw_ranked (by omega) hL ?_⟩
      intro K1 N1 I1 P1 z1 k9 b W1 S1 c1 T1 n1 hc hb hq
      refine ⟨by rw [n3 hc]; exact w1, ⟨by omega, by omega⟩, (hc.ms hL.2.1).1, ?_⟩
      rw [i3 hc]
      refine hq _ ?_
      intro I2 hF hA2 ht
      refine ⟨⟨by omega, by omega⟩, (hc.ms hL.2.1).1, sp_thrown (hc.ms hL.2.1) ?_⟩
      exact law_tail hL hc hF ht hb (nx (k + 1) (n9 + 6) (by omega) (by omega) hc hF hA2)
    · refine ⟨⟨by omega, by omega⟩, hL.1.k4, cx_share (by omega) hL.1 ?_⟩
      have hc := CO.rf hL.1
      refine ⟨⟨by omega, by omega⟩, hL.2.1.1, sp_share (by omega) hL.2.1 hL.2.2.1 hL.1.v.1 ?_⟩
      intro I2 hF hA2 ht
      have e := nx k n9 (by omega) (by omega) hc hF hA2
      exact ⟨fun _ => e, fun q => ⟨fun q2 => absurd q2 q, fun q2 => ⟨fun _ => e, fun q3 => absurd q3 q2⟩⟩⟩
    · refine ⟨w1, ⟨by omega, by omega⟩, lw_fateOf (by omega) hL ?_⟩
      intro K1 N1 I1 P1 z1 k9 b W1 S1 c1 T1 n1 hc hb hq
      refine ⟨by rw [n3 hc]; exact w1, ⟨by omega, by omega⟩, (hc.ms hL.2.1).1, ?_⟩
      rw [i3 hc]
      refine hq _ ?_
      intro I2 hF hA2 ht
      refine ⟨⟨by omega, by omega⟩, (hc.ms hL.2.1).1, sp_thrown (hc.ms hL.2.1) ?_⟩
      exact law_tail hL hc hF ht hb (nx (k + 1) (n9 + 6) (by omega) (by omega) hc hF hA2)
    · refine ⟨⟨by omega, by omega⟩, hL.1.k4, lw_entryIn (by omega) hL ?_⟩
      intro K1 N1 I1 P1 z1 b W1 S1 c1 T1 n1 hc hq
      refine ⟨⟨by omega, by omega⟩, (hc.ms hL.2.1).1, hq _ ?_⟩
      intro I2 hF hA2 ht
      have e := nx k n9 (by omega) (by omega) hc hF hA2
      exact ⟨fun _ => e, fun q => absurd rfl q⟩
    · refine ⟨⟨by omega, by omega⟩, hL.1.k4, lw_nextLeaving (by omega) hL ?_⟩
      intro K1 N1 I1 P1 z1 b W1 S1 c1 T1 n1 hc hq
      refine ⟨⟨by omega, by omega⟩, (hc.ms hL.2.1).1, hq _ ?_⟩
      intro I2 hF hA2 ht
      have e := nx k n9 (by omega) (by omega) hc hF hA2
      exact ⟨fun _ => e, fun q => absurd rfl q⟩
    · refine ⟨w1, w2, ⟨by omega, by omega⟩, lw_laneFor (by omega) hL ?_⟩
      intro K1 N1 I1 P1 z1 k9 b W1 S1 c1 T1 n1 hc hb hq
      refine ⟨by rw [n3 hc]; exact w1, by rw [n3 hc]; exact w2, ⟨by omega, by omega⟩, (hc.ms hL.2.1).1, ?_⟩
      rw [i3 hc]
      refine hq _ ?_
      intro I2 hF hA2 ht
      refine ⟨⟨by omega, by omega⟩, (hc.ms hL.2.1).1, sp_thrown (hc.ms hL.2.1) ?_⟩
      exact law_tail hL hc hF ht hb (nx (k + 1) (n9 + 6) (by omega) (by omega) hc hF hA2)
    · refine ⟨w1, ⟨by omega, by omega⟩, lw_append (by omega) hL ?_⟩
      intro K1 N1 I1 P1 z1 k9 b W1 S1 c1 T1 n1 hc hb hq
      refine ⟨by rw [n3 hc]; exact w1, ⟨by omega, by omega⟩, (hc.ms hL.2.1).1, ?_⟩
      rw [i3 hc]
      refine hq _ ?_
      intro I2 hF hA2 ht
      refine ⟨⟨by omega, by omega⟩, (hc.ms hL.2.1).1, sp_thrown (hc.ms hL.2.1) ?_⟩
      exact law_tail hL hc hF ht hb (nx (k + 1) (n9 + 6) (by omega) (by omega) hc hF hA2)
    · refine ⟨⟨by omega, by omega⟩, hL.1.k4, lw_clear (by omega) hL ?_⟩
      intro K1 N1 I1 P1 z1 b W1 S1 c1 T1 n1 hc hq
      refine ⟨⟨by omega, by omega⟩, (hc.ms hL.2.1).1, hq _ ?_⟩
      intro I2 hF hA2 ht
      have e := nx k n9 (by omega) (by omega) hc hF hA2
      exact ⟨fun _ => e, fun q => absurd rfl q⟩
    · refine ⟨⟨by omega, by omega⟩, hL.1.k4, lw_errorPosition (by omega) hL ?_⟩
      intro K1 N1 I1 P1 z1 b W1 S1 c1 T1 n1 hc hq
      refine ⟨⟨by omega, by omega⟩, (hc.ms hL.2.1).1, hq _ ?_⟩
      intro I2 hF hA2 ht
      have e := nx k n9 (by omega) (by omega) hc hF hA2
      exact ⟨fun _ => e, fun q => absurd rfl q⟩
    · refine ⟨⟨by omega, by omega⟩, lw_load (by omega) hL ?_⟩
      intro K1 N1 I1 P1 z1 k9 b W1 S1 c1 T1 n1 hc hb hq
      refine ⟨⟨by omega, by omega⟩, (hc.ms hL.2.1).1, ?_⟩
      refine hq _ ?_
      intro I2 hF hA2 ht
      refine ⟨⟨by omega, by omega⟩, (hc.ms hL.2.1).1, sp_thrown (hc.ms hL.2.1) ?_⟩
      exact law_tail hL hc hF ht hb (nx (k + 5) (n9 + 326) (by omega) (by omega) hc hF hA2)
    · exact nx k n9 (by omega) (by omega) (CO.rf hL.1) FM.rf hL.2.2.1
end
