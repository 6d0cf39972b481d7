section
variable {d : Nat} {K N : Nat → Nat} {I I' : Nat → Nat → Int} {P P' : Nat → Nat → Option Nat} {z : Nat} {Q : am_V → am_T} {W W' V : Int → Int} {S : Int → Int → Int} {c : Int} {T : Int → Int} {n : Int} {s s2 dr : Nat} {m m0 : Int} {L : Int → Int} {π : Int → Nat} {σ : Int → Nat}
theorem ST.mv (hS : ST K N I P s W m L π) : SD K N I P s W ↔ RR K N I P s W := ⟨fun ⟨_, _, _, _, h⟩ => h, fun h => ⟨m, L, π, hS, h⟩⟩
theorem cx_sv (hd : 5 ≤ d) (h : GI K N I P z W S c T n) (hc : c ≤ 5) (hq : ∀ I' P', GF I I' → GP P P' → GI K N I' P' z W (fun j => if j = c then W else S j) (c + 1) T n → ((∀ a, (8 ≤ a ∧ a < 53) ∨ 564 ≤ a → I' a = I a ∧ P' a = P a) ∧ P' 4 = P 4) → Q am_nl K N I' P' z) : I 4 3 = c ∧ ∃ b2, P 4 2 = some b2 ∧ K b2 = 13 ∧ (0 ≤ I 4 3 ∧ I 4 3 < N b2) ∧ ∃ b4, P b2 (Int.toNat (I 4 3)) = some b4 ∧ ∃ b5, P 4 0 = some b5 ∧ K b4 = 6 ∧ am_C (d - 1) m_X6_copyFrom [am_r b4, am_r b5] K N I P z (fun _ K6 N7 I8 P9 z10 => K6 4 = 7 ∧ ∀ I13, I13 = am_u2 I8 4 3 (am_wr (I8 4 3 + 1)) → Q am_nl K6 N7 I13 P9 z10) am_nx := by
  obtain ⟨σ, dr, hA, hB, hC, ⟨⟨d1, d2, d3⟩, d4, d5⟩⟩ := h
  have hA0 := hA
  obtain ⟨⟨a0, a1, a2, a3, a4, a5, a6⟩, ⟨b0, b1, b2, b3, b4, b5, b6, b7, b8, b9⟩, h3, h4, ⟨h5, h6, h7⟩, h8⟩ := hA0
  have hc0 := hC.2.1
  have e3 := hC.1
  obtain ⟨m, L, π, hS, hR⟩ := d1
  obtain ⟨g1, g2, g3⟩ := h3 c hc0.1 (by omega)
  have gb := g2.b
  have hx := hB _ g2
  obtain ⟨x1, x2, x3, ⟨π2, x4⟩, r0, x5, x6⟩ := hx
  obtain ⟨y1, y2, y3, y4, r, y5, y6⟩ := hB 20 sN.now
  rw [e3]
  refine ⟨rfl, 5, a3, b0, by omega, σ c, g1, 20, a1, x1.1, ?_⟩
  refine cs_copy (by omega) x1 x2 x4 hS y3 (by unfold sN at g2; omega) y5 ?_
  rintro I2 P2 f1 rfl f3 f4
  refine ⟨a0, ?_⟩
  rintro I13 rfl
  have e43 : I2 4 3 = c := by rw [f1 4 (by omega)]; exact e3
  rw [e43, am_wE (by omega) (by omega)]
  have pe : ∀ a, ¬ a = σ c → am_p2 P (σ c) 4 (some r) a = P a := fun a ha => am_p2_ne ha
  have ie : ∀ a, ¬ (σ c ≤ a ∧ a < σ c + 33) → ¬ a = 4 → am_u2 I2 4 3 (c + 1) a = I a := fun a h1 h2 => by rw [am_u2_ne h2]; exact f1 a h1
  have far : ∀ a, (10 ≤ a ∧ a < 20) ∨ 564 ≤ a → am_u2 I2 4 3 (c + 1) a = I a ∧ am_p2 P (σ c) 4 (some r) a = P a := fun a ha => ⟨ie a (by omega) (by omega), pe a (by omega)⟩
  have f4' : ST K N (am_u2 I2 4 3 (c + 1)) (am_p2 P (σ c) 4 (some r)) (σ c) W m L π2 := f4.tr (fun a x y => am_u2_ne (by omega)) (fun _ _ _ _ _ => rfl)
  have now1 : SD K N (am_u2 I2 4 3 (c + 1)) (am_p2 P (σ c) 4 (some r)) 20 W := SD.tr ⟨m, L, π, hS, hR⟩ (by omega) (fun a x y => ie a (by omega) (by omega)) (fun a x y => pe a (by omega)) far
  have rr : RR K N (am_u2 I2 4 3 (c + 1)) (am_p2 P (σ c) 4 (some r)) (σ c) W := by
    obtain ⟨_, _, _, _, hR2⟩ := now1
    obtain ⟨r', T0, nd, e, q1, q2, q3, q4, q5, q6, q7⟩ := hR2
    rw [pe 20 (by omega), y5] at q1
    cases q1
    refine ⟨r, T0, nd, e, ?_, q2, q3, q4, q5, q6, q7⟩
    unfold am_p2
    rw [if_pos ⟨rfl, rfl⟩]
  refine hq _ _ (fun a x => ie a (by omega) (by omega)) (fun a x y => pe a (by omega)) ⟨σ, dr, hA.p (fun a ha => pe a (by omega)), ?_, ?_, ⟨now1, d2, ?_⟩, fun j j0 j1 => ?_, fun i j i0 i1 j1 => ?_⟩ ⟨fun a x => ⟨ie a (by omega) (by omega), pe a (by omega)⟩, pe 4 (by omega)⟩
  · refine hB.one g2 (fun a x y e => ⟨ie a e (by omega), pe a (by omega)⟩) ⟨x1, f4'.p, fun a x y => by rw [am_u2_ne (by omega)]; exact f3 a x y, ⟨π2, f4'.i⟩, r, ?_, y6⟩
    unfold am_p2
    rw [if_pos ⟨rfl, rfl⟩]
  · obtain ⟨_, q2, q3, q4, q5⟩ := hC
    refine ⟨am_u2_s, by omega, by rw [ie 8 (by omega) (by omega)]; exact q3, q4, fun k x y => by rw [ie 9 (by omega) (by omega)]; exact q5 k x y⟩
  · intro p k x1 x2 x3 x4 x5
    rw [ie 7 (by omega) (by omega)]; exact d3 p k x1 x2 x3 x4 x5
  · have rc : ∀ V, RC I V → RC (am_u2 I2 4 3 (c + 1)) V := fun V hv p k x1 x2 x3 x4 x5 => by rw [ie 7 (by omega) (by omega)]; exact hv p k x1 x2 x3 x4 x5
    by_cases q : j = c
    · subst q
      simp only [if_true]
      exact ⟨⟨m, L, π2, f4', rr⟩, d2, rc _ d3, Sub.rf⟩
    · simp only [q, if_false]
      obtain ⟨e1, e2, e3, e4⟩ := d4 j j0 (by omega)
      have gj := h3 j j0 (by omega)
      have bj := gj.2.1.b
      have ne := gj.2.1.ne g2 (fun e => q (h4 j c j0 (by omega) hc0.1 (by omega) e))
      exact ⟨e1.tr bj (fun a x y => ie a (by omega) (by omega)) (fun a x y => pe a (by omega)) far, e2, rc _ e3, e4⟩
  · show Sub (if i = c then W else S i) (if j = c then W else S j)
    rw [if_neg (show ¬ i = c by omega)]
    by_cases q : j = c
    · rw [if_pos q]; exact (d4 i i0 (by omega)).2.2.2
    · rw [if_neg q]; exact d5 i j i0 i1 (by omega)
theorem cx_drop (h : GI K N I P z W S 6 T n) (hq : ∀ I' P', GF I I' → GP P P' → GI K N I' P' z W (fun j => S (j + 1)) 5 T n → ((∀ a, (8 ≤ a ∧ a < 53) ∨ 564 ≤ a → I' a = I a ∧ P' a = P a) ∧ P' 4 = P 4) → Q am_nl K N I' P' z) : am_C d m_X7_dropOldestSaved [am_r 4] K N I P z Q am_nx := by
  obtain ⟨σ, dr, hA, hB, hC, ⟨⟨d1, d2, d3⟩, d4, d5⟩⟩ := h
  have hA0 := hA
  obtain ⟨⟨a0, a1, a2, a3, a4, a5, a6⟩, ⟨b0, b1, b2, b3, b4, b5, b6, b7, b8, b9⟩, h3, h4, ⟨h5, h6, h7⟩, h8⟩ := hA0
  have p50 : P 5 0 = some (σ 0) := (h3 0 (by omega) (by omega)).1
  have kσ : ∀ j : Int, 0 ≤ j → j < 6 → K (σ j) = 6 := fun j x y => (hB _ (h3 j x y).2.1).1.1
  refine wf_X7_dropOldestSaved ⟨a0, 5, a3, b0, by omega, σ 0, p50, ?_⟩
  have key : ∀ (k : Nat) (j : Int) (P' : Nat → Nat → Option Nat), 1 ≤ j → j + k = 6 → (∀ a, ¬ a = 5 → P' a = P a) → (∀ i : Int, 0 ≤ i → i < 6 → P' 5 i.toNat = some (if i + 1 < j then σ (i + 1) else σ i)) → L_X7_dropOldestSaved_9 d 4 (σ 0) j K N I P' z Q := by
    intro k
    induction k with
    | zero =>
      intro j P' j0 j1 f0 f1
      refine wf_X7_dropOldestSaved_9 ⟨fun _ => ⟨a0, 5, by rw [f0 4 (by omega)]; exact a3, b0, by omega, kσ 0 (by omega) (by omega), ?_⟩, fun q => absurd q (by omega)⟩
      rintro P5 rfl I6 rfl
      have pe : ∀ a, ¬ a = 5 → am_p2 P' 5 (Int.toNat 5) (some (σ 0)) a = P a := fun a ha => by rw [am_p2_ne ha]; exact f0 a ha
      have ie : ∀ a, ¬ a = 4 → am_u2 I 4 3 5 a = I a := fun a ha => am_u2_ne ha
      have far : ∀ a, (10 ≤ a ∧ a < 20) ∨ 564 ≤ a → am_u2 I 4 3 5 a = I a ∧ am_p2 P' 5 (Int.toNat 5) (some (σ 0)) a = P a := fun a ha => ⟨ie a (by omega), pe a (by omega)⟩
      have trs : ∀ t V, sN t → SD K N I P t V → SD K N (am_u2 I 4 3 5) (am_p2 P' 5 (Int.toNat 5) (some (σ 0))) t V := fun t V ht hv => by
        have b := ht.b
        exact hv.tr b (fun a x y => ie a (by omega)) (fun a x y => pe a (by omega)) far
      have rc : ∀ V, RC I V → RC (am_u2 I 4 3 5) V := fun V hv p k x1 x2 x3 x4 x5 => by rw [ie 7 (by omega)]; exact hv p k x1 x2 x3 x4 x5
      refine hq _ _ (fun a x => ie a (by omega)) (fun a x y => pe a (by omega)) ⟨fun j => if j = 5 then σ 0 else σ (j + 1), dr, ?_, ?_, ?_, ⟨trs 20 W sN.now d1, d2, rc _ d3⟩, fun j j0 j1 => ?_, fun i j i0 i1 j1 => d5 (i + 1) (j + 1) (by omega) (by omega) (by omega)⟩ ⟨fun a x => ⟨ie a (by omega), pe a (by omega)⟩, pe 4 (by omega)⟩
      · have e4 := pe 4 (by omega)
        refine ⟨⟨a0, by rw [e4]; exact a1, by rw [e4]; exact a2, by rw [e4]; exact a3, by rw [e4]; exact a4, by rw [e4]; exact a5, by rw [e4]; exact a6⟩, ⟨b0, b1, b2, by rw [pe 6 (by omega)]; exact b3, b4, b5, b6, by rw [pe 8 (by omega)]; exact b7, b8, b9⟩, fun i x y => ?_, fun i k x1 x2 x3 x4 e => ?_, ⟨?_, h6, h7⟩, h8⟩
        · by_cases q : i = 5
          · subst q
            simp only [if_true]
            refine ⟨?_, (h3 0 (by omega) (by omega)).2⟩
            unfold am_p2
            rw [if_pos ⟨rfl, rfl⟩]
          · simp only [q, if_false]
            have := f1 i x y
            rw [if_pos (by omega)] at this
            refine ⟨?_, (h3 (i + 1) (by omega) (by omega)).2⟩
            unfold am_p2
            have z5 : Int.toNat 5 = 5 := rfl
            rw [if_neg (by omega)]; exact this
        · simp only at e
          by_cases q : i = 5
          · by_cases q2 : k = 5
            · omega
            · rw [if_pos q, if_neg q2] at e
              have := h4 0 (k + 1) (by omega) (by omega) (by omega) (by omega) e
              omega
          · by_cases q2 : k = 5
            · rw [if_neg q, if_pos q2] at e
              have := h4 (i + 1) 0 (by omega) (by omega) (by omega) (by omega) e
              omega
            · rw [if_neg q, if_neg q2] at e
              have := h4 (i + 1) (k + 1) (by omega) (by omega) (by omega) (by omega) e
              omega
        · unfold RO at h5 ⊢
          rw [pe dr (by unfold rN at h6; omega)]
          exact h5
      · intro t ht
        have b := ht.b
        exact (hB t ht).tr (fun a x y => ie a (by omega)) (fun a x y => pe a (by omega))
      · obtain ⟨_, q2, q3, q4, q5⟩ := hC
        refine ⟨am_u2_s, by omega, by rw [ie 8 (by omega)]; exact q3, q4, fun k x y => by rw [ie 9 (by omega)]; exact q5 k x y⟩
      · simp only [if_neg (show ¬ j = 5 by omega)]
        obtain ⟨e1, e2, e3, e4⟩ := d4 (j + 1) (by omega) (by omega)
        exact ⟨trs _ _ (h3 (j + 1) (by omega) (by omega)).2.1 e1, e2, rc _ e3, e4⟩
    | succ k ih =>
      intro j P' j0 j1 f0 f1
      have e1 := f1 j (by omega) (by omega)
      rw [if_neg (by omega)] at e1
      refine wf_X7_dropOldestSaved_9 ⟨fun q => absurd q (by omega), fun _ => ⟨a0, 5, by rw [f0 4 (by omega)]; exact a3, b0, by omega, σ j, e1, ?_, kσ j (by omega) (by omega), ?_⟩⟩
      · rw [am_wE (by omega) (by omega)]; omega
      rintro P12 rfl
      rw [am_wE (by omega) (by omega), am_wE (by omega) (by omega)]
      refine ih (j + 1) _ (by omega) (by omega) (fun a ha => by rw [am_p2_ne ha]; exact f0 a ha) (fun i x y => ?_)
      unfold am_p2
      by_cases q : i = j - 1
      · subst q
        rw [if_pos ⟨rfl, rfl⟩, if_pos (by omega), show j - 1 + 1 = j by omega]
      · rw [if_neg (by omega), f1 i x y]
        by_cases q2 : i + 1 < j
        · rw [if_pos q2, if_pos (by omega)]
        · rw [if_neg q2, if_neg (by omega)]
  exact key 5 1 P (by omega) (by omega) (fun _ _ => rfl) (fun i x y => by rw [if_neg (by omega)]; exact (h3 i x y).1)
theorem cx_save2 (hd : 5 ≤ d) (h : GI K N I P z W S c T n) (hq : ∀ I' P', GF I I' → GP P P' → GI K N I' P' z W (v_svS S c W) (v_svc c) T n → ((∀ a, (8 ≤ a ∧ a < 53) ∨ 564 ≤ a → I' a = I a ∧ P' a = P a) ∧ P' 4 = P 4) → Q am_nl K N I' P' z) : am_C d m_X7_save [am_r 4] K N I P z Q am_nx := by
  obtain ⟨σ, dr, hA, hB, hC, hD⟩ := id h
  have a0 := hA.1.1
  have e3 := hC.1
  have hc := hC.2.1
  refine wf_X7_save (by omega) ⟨a0, fun q => ?_, fun q => ?_⟩
  · refine (cx_sv hd h (by omega) ?_).2
    intro I2 P2 f1 f2 f3 fx
    refine hq I2 P2 f1 f2 ?_ fx
    have e1 : v_svS S c W = fun j => if j = c then W else S j := by
      funext j
      unfold v_svS
      rw [if_neg (by omega)]
    have e2 : v_svc c = c + 1 := by unfold v_svc; rw [if_neg (by omega)]
    rw [e1, e2]
    exact f3
  · have hc6 : c = 6 := by omega
    subst hc6
    refine cx_drop h ?_
    intro I2 P2 f1 f2 f3 fx
    refine ⟨a0, ?_⟩
    refine (cx_sv hd f3 (by omega) ?_).2
    intro I3 P3 f4 f5 f6 fy
    refine hq I3 P3 (f1.tr f4) (f2.tr f5) ?_ ⟨fun a x => ⟨(fy.1 a x).1.trans (fx.1 a x).1, (fy.1 a x).2.trans (fx.1 a x).2⟩, fy.2.trans fx.2⟩
    have e1 : v_svS S 6 W = fun j => if j = 5 then W else S (j + 1) := by
      funext j
      unfold v_svS
      rw [if_pos rfl]
    have e2 : v_svc 6 = 5 + 1 := by unfold v_svc; rw [if_pos rfl]; rfl
    rw [e1, e2]
    exact f6
theorem cx_save (hd : 5 ≤ d) (h : GI K N I P z W S c T n) (hq : ∀ I' P', GF I I' → GP P P' → GI K N I' P' z W (v_svS S c W) (v_svc c) T n → Q am_nl K N I' P' z) : am_C d m_X7_save [am_r 4] K N I P z Q am_nx := cx_save2 hd h (fun I' P' f1 f2 f3 _ => hq I' P' f1 f2 f3)
end
