/-! WHAT A CALL OF THE LAW'S WRAPPERS ON THE FIRST SORTER ANSWERS: a value that hangs on the state alone -/
abbrev T0 : Int → Int := fun _ => 0
theorem GI.zz {K N : Nat → Nat} {I : Nat → Nat → Int} {P : Nat → Nat → Option Nat} {z : Nat} {W : Int → Int} {S : Int → Int → Int} {c : Int} {T : Int → Int} {n : Int} (h : GI K N I P z W S c T n) : 560 ≤ z := by obtain ⟨σ, dr, hA, hB, hC, hD⟩ := h; exact hA.2.2.2.2.2.1
theorem GI.v {K N : Nat → Nat} {I : Nat → Nat → Int} {P : Nat → Nat → Option Nat} {z : Nat} {W : Int → Int} {S : Int → Int → Int} {c : Int} {T : Int → Int} {n : Int} (h : GI K N I P z W S c T n) : VG W := by obtain ⟨σ, dr, hA, hB, hC, hD⟩ := h; exact hD.1.2.1
theorem GI.k4 {K N : Nat → Nat} {I : Nat → Nat → Int} {P : Nat → Nat → Option Nat} {z : Nat} {W : Int → Int} {S : Int → Int → Int} {c : Int} {T : Int → Int} {n : Int} (h : GI K N I P z W S c T n) : K 4 = 7 := by obtain ⟨σ, dr, hA, hB, hC, hD⟩ := h; exact hA.1.1
theorem GI.cc {K N : Nat → Nat} {I : Nat → Nat → Int} {P : Nat → Nat → Option Nat} {z : Nat} {W : Int → Int} {S : Int → Int → Int} {c : Int} {T : Int → Int} {n : Int} (h : GI K N I P z W S c T n) : 0 ≤ c ∧ c ≤ 6 := by obtain ⟨σ, dr, hA, hB, hC, hD⟩ := h; exact hC.2.1
/-- the call comes back with v, the sorter's state is W' S' c' -/
def ST1 (d : Nat) (M : am_M) (vs : List am_V) (W : Int → Int) (S : Int → Int → Int) (c : Int) (v : am_V) (W' : Int → Int) (S' : Int → Int → Int) (c' : Int) : Prop := ∀ (K N : Nat → Nat) (I : Nat → Nat → Int) (P : Nat → Nat → Option Nat) (z : Nat) (Q : am_V → am_T), GI K N I P z W S c T0 0 → GT N I → (∀ I' P', GF I I' → GP P P' → GI K N I' P' z W' S' c' T0 0 → Q v K N I' P' z) → am_C d M (am_r 4 :: vs) K N I P z Q am_nx
def EX (d : Nat) (M : am_M) (vs : List am_V) (W : Int → Int) (S : Int → Int → Int) (c : Int) : Prop := ∃ (r : Int) (W' : Int → Int) (S' : Int → Int → Int) (c' : Int), RI W' S' c' ∧ ST1 d M vs W S c (am_i r) W' S' c'
section
variable {d : Nat} {W : Int → Int} {S : Int → Int → Int} {c : Int}
theorem st_set (hd : 24 ≤ d) (hc : 0 ≤ c ∧ c ≤ 6) (hR : RI W S c) (i x : Int) : EX d m_L_set [am_i i, am_i x] W S c := by
  obtain ⟨lo, hlo⟩ : ∃ lo : Int, lo = if i = 0 then 50 else if i = 4 then 1000 else 0 := ⟨_, rfl⟩
  obtain ⟨hi, hhi⟩ : ∃ hi : Int, hi = if i = 0 then 1000 else if i = 1 then 200 else if i = 4 then 5000 else if i = 5 then 100 else 500 := ⟨_, rfl⟩
  by_cases q : 0 ≤ i ∧ i ≤ 5
  · by_cases q2 : lo ≤ x ∧ x ≤ hi
    · by_cases q3 : 0 < v_ob W
      · exact ⟨-2000003, W, S, c, hR, fun K N I P z Q hg ht hq => wf_L_set (by omega) ⟨hg.k4, cx_set (by omega) hg ht hlo hhi (fun a => absurd q a) (fun _ a => absurd q2 a) (fun _ _ _ => hq I P GF.rf GP.rf hg) (fun _ _ a => absurd q3 (Int.not_lt.mpr a))⟩⟩
      · exact ⟨W (1 + i), v_u W (1 + i) x, v_svS S c W, v_svc c, hR.sv hc (hR.1.cg (v_un (by omega)) (fun _ _ _ => v_un (by omega)) (fun _ _ _ => v_un (by omega))), fun K N I P z Q hg ht hq => wf_L_set (by omega) ⟨hg.k4, cx_set (by omega) hg ht hlo hhi (fun a => absurd q a) (fun _ a => absurd q2 a) (fun _ _ a => absurd a q3) (fun _ _ _ => hq)⟩⟩
    · exact ⟨-2000002, W, S, c, hR, fun K N I P z Q hg ht hq => wf_L_set (by omega) ⟨hg.k4, cx_set (by omega) hg ht hlo hhi (fun a => absurd q a) (fun _ _ => hq I P GF.rf GP.rf hg) (fun _ a => absurd a q2) (fun _ a => absurd a q2)⟩⟩
  · exact ⟨-2000001, W, S, c, hR, fun K N I P z Q hg ht hq => wf_L_set (by omega) ⟨hg.k4, cx_set (by omega) hg ht hlo hhi (fun _ => hq I P GF.rf GP.rf hg) (fun a => absurd a q) (fun a => absurd a q) (fun a => absurd a q)⟩⟩
theorem st_addLane (hd : 24 ≤ d) (hV : VG W) (hc : 0 ≤ c ∧ c ≤ 6) (hR : RI W S c) (x y u : Int) : EX d m_L_addLane [am_i x, am_i y, am_i u] W S c := by
  have g7 := hV.1.l7
  by_cases q : (1 ≤ x ∧ x ≤ 4999) ∧ (1 ≤ y ∧ y ≤ 200) ∧ (1 ≤ u ∧ u ≤ 50)
  · by_cases q2 : W 7 = 6
    · exact ⟨-2000003, W, S, c, hR, fun K N I P z Q hg ht hq => wf_L_addLane (by omega) ⟨hg.k4, cx_addLane (by omega) hg (fun a => absurd q a) (fun _ _ => hq I P GF.rf GP.rf hg) (fun _ a => absurd q2 a)⟩⟩
    · exact ⟨W 7, v_u (v_u (v_u (v_u W (16 + W 7) x) (22 + W 7) y) (28 + W 7) u) 7 (W 7 + 1), v_svS S c W, v_svc c, hR.sv hc (hR.1.cg (by rw [v_un (by omega), v_un (by omega), v_un (by omega), v_un (by omega)]) (fun _ _ _ => by rw [v_un (by omega), v_un (by omega), v_un (by omega), v_un (by omega)]) (fun _ _ _ => by rw [v_un (by omega), v_un (by omega), v_un (by omega), v_un (by omega)])), fun K N I P z Q hg ht hq => wf_L_addLane (by omega) ⟨hg.k4, cx_addLane (by omega) hg (fun a => absurd q a) (fun _ a => absurd a q2) (fun _ _ => hq)⟩⟩
  · exact ⟨-2000002, W, S, c, hR, fun K N I P z Q hg ht hq => wf_L_addLane (by omega) ⟨hg.k4, cx_addLane (by omega) hg (fun _ => hq I P GF.rf GP.rf hg) (fun a => absurd a q) (fun a => absurd a q)⟩⟩
theorem st_emptyLane (hd : 24 ≤ d) (hV : VG W) (hc : 0 ≤ c ∧ c ≤ 6) (hR : RI W S c) (x : Int) : EX d m_L_emptyLane [am_i x] W S c := by
  have g7 := hV.1.l7
  by_cases q : 0 ≤ x ∧ x < W 7
  · exact ⟨W (34 + x), v_u W (34 + x) 0, v_svS S c W, v_svc c, hR.sv hc (hR.1.cg (v_un (by omega)) (fun _ _ _ => v_un (by omega)) (fun _ _ _ => v_un (by omega))), fun K N I P z Q hg ht hq => wf_L_emptyLane (by omega) ⟨hg.k4, cx_emptyLane (by omega) hg (fun a => absurd q a) (fun _ => hq)⟩⟩
  · exact ⟨-2000001, W, S, c, hR, fun K N I P z Q hg ht hq => wf_L_emptyLane (by omega) ⟨hg.k4, cx_emptyLane (by omega) hg (fun _ => hq I P GF.rf GP.rf hg) (fun a => absurd a q)⟩⟩
theorem st_route (hd : 24 ≤ d) (hV : VG W) (hc : 0 ≤ c ∧ c ≤ 6) (hR : RI W S c) (x l : Int) : EX d m_L_route [am_i x, am_i l] W S c := by
  have g8 := hV.1.r8
  have bp := v_place_bd g8.1 x
  by_cases q : 0 ≤ x ∧ x ≤ 999
  · by_cases q2 : 0 ≤ l ∧ l < W 7
    · by_cases q3 : v_has W x
      · have q4 := q3.1
        exact ⟨W (76 + v_place W x), v_u (v_u W (46 + v_place W x) x) (76 + v_place W x) l, v_svS S c W, v_svc c, hR.sv hc (hR.1.cg (by rw [v_un (by omega), v_un (by omega)]) (fun _ _ _ => by rw [v_un (by omega), v_un (by omega)]) (fun _ _ _ => by rw [v_un (by omega), v_un (by omega)])), fun K N I P z Q hg ht hq => wf_L_route (by omega) ⟨hg.k4, cx_route (by omega) hg (fun a => absurd q a) (fun _ a => absurd q2 a) (fun _ _ a => absurd q3 a) (fun _ _ _ => hq) (fun _ _ a => absurd q3 a)⟩⟩
      · by_cases q4 : W 8 = 30
        · exact ⟨-2000003, W, S, c, hR, fun K N I P z Q hg ht hq => wf_L_route (by omega) ⟨hg.k4, cx_route (by omega) hg (fun a => absurd q a) (fun _ a => absurd q2 a) (fun _ _ _ _ => hq I P GF.rf GP.rf hg) (fun _ _ a => absurd a q3) (fun _ _ _ a => absurd q4 a)⟩⟩
        · exact ⟨-1, v_rt W (v_place W x) x l, v_svS S c W, v_svc c, hR.sv hc (hR.1.rt hV.1 bp.1 bp.2 q4), fun K N I P z Q hg ht hq => wf_L_route (by omega) ⟨hg.k4, cx_route (by omega) hg (fun a => absurd q a) (fun _ a => absurd q2 a) (fun _ _ _ a => absurd a q4) (fun _ _ a => absurd a q3) (fun _ _ _ _ => hq)⟩⟩
    · exact ⟨-2000001, W, S, c, hR, fun K N I P z Q hg ht hq => wf_L_route (by omega) ⟨hg.k4, cx_route (by omega) hg (fun a => absurd q a) (fun _ _ => hq I P GF.rf GP.rf hg) (fun _ a => absurd a q2) (fun _ a => absurd a q2) (fun _ a => absurd a q2)⟩⟩
  · exact ⟨-2000002, W, S, c, hR, fun K N I P z Q hg ht hq => wf_L_route (by omega) ⟨hg.k4, cx_route (by omega) hg (fun _ => hq I P GF.rf GP.rf hg) (fun a => absurd a q) (fun a => absurd a q) (fun a => absurd a q) (fun a => absurd a q)⟩⟩
theorem st_removeRoute (hd : 24 ≤ d) (hV : VG W) (hc : 0 ≤ c ∧ c ≤ 6) (hR : RI W S c) (x : Int) : EX d m_L_removeRoute [am_i x] W S c := by
  have g8 := hV.1.r8
  have bp := v_place_bd g8.1 x
  by_cases q : 0 ≤ x ∧ x ≤ 999
  · by_cases q3 : v_has W x
    · exact ⟨W (76 + v_place W x), v_del W (v_place W x) (W 8 - 1), v_svS S c W, v_svc c, hR.sv hc (hR.1.del hV.1 bp.1 (by omega)), fun K N I P z Q hg ht hq => wf_L_removeRoute (by omega) ⟨hg.k4, cx_removeRoute (by omega) hg (fun a => absurd q a) (fun _ a => absurd q3 a) (fun _ _ => hq)⟩⟩
    · exact ⟨-2000003, W, S, c, hR, fun K N I P z Q hg ht hq => wf_L_removeRoute (by omega) ⟨hg.k4, cx_removeRoute (by omega) hg (fun a => absurd q a) (fun _ _ => hq I P GF.rf GP.rf hg) (fun _ a => absurd a q3)⟩⟩
  · exact ⟨-2000002, W, S, c, hR, fun K N I P z Q hg ht hq => wf_L_removeRoute (by omega) ⟨hg.k4, cx_removeRoute (by omega) hg (fun _ => hq I P GF.rf GP.rf hg) (fun a => absurd a q) (fun a => absurd a q)⟩⟩
theorem st_enter (hd : 24 ≤ d) (hV : VG W) (hc : 0 ≤ c ∧ c ≤ 6) (hR : RI W S c) (x : Int) : EX d m_L_enter [am_i x] W S c := by
  have g9 := hV.1.n9
  by_cases q : 10 ≤ x ∧ x ≤ 400
  · by_cases q2 : (¬ v_la W = -1 ∧ v_tl W (v_la W) < 0) ∨ v_ob W = 20 ∨ W 9 = 300
    · exact ⟨-2000003, W, S, c, hR, fun K N I P z Q hg ht hq => wf_L_enter (by omega) ⟨hg.k4, cx_enter (by omega) hg (fun a => absurd q a) (fun _ _ => hq I P GF.rf GP.rf hg) (fun _ a => absurd q2 a)⟩⟩
    · have q3 : ¬ W 9 = 300 := fun a => q2 (Or.inr (Or.inr a))
      exact ⟨W 9, v_ent W x, v_svS S c W, v_svc c, hR.sv hc (hR.1.ent hV.1 (by omega)), fun K N I P z Q hg ht hq => wf_L_enter (by omega) ⟨hg.k4, cx_enter (by omega) hg (fun a => absurd q a) (fun _ a => absurd a q2) (fun _ _ => hq)⟩⟩
  · exact ⟨-2000002, W, S, c, hR, fun K N I P z Q hg ht hq => wf_L_enter (by omega) ⟨hg.k4, cx_enter (by omega) hg (fun _ => hq I P GF.rf GP.rf hg) (fun a => absurd a q) (fun a => absurd a q)⟩⟩
theorem st_read (hd : 24 ≤ d) (hV : VG W) (hc : 0 ≤ c ∧ c ≤ 6) (hR : RI W S c) (x : Int) : EX d m_L_read [am_i x] W S c := by
  have g9 := hV.1.n9
  by_cases q : 0 ≤ x ∧ x ≤ 999
  · by_cases q2 : v_own W = -1
    · exact ⟨-1, v_u W 10 (am_wr (W 10 + 1)), v_svS S c W, v_svc c, hR.sv hc (hR.1.cg (v_un (by omega)) (fun _ _ _ => v_un (by omega)) (fun _ _ _ => v_un (by omega))), fun K N I P z Q hg ht hq => wf_L_read (by omega) ⟨hg.k4, cx_read (by omega) hg (fun a => absurd q a) (fun _ _ => hq) (fun _ a => absurd q2 a)⟩⟩
    · have b := own_bd g9.1 q2
      exact ⟨v_own W, v_readFor W (v_own W) x, v_svS S c W, v_svc c, hR.sv hc (hR.1.rf b.1 g9.2 b.2), fun K N I P z Q hg ht hq => wf_L_read (by omega) ⟨hg.k4, cx_read (by omega) hg (fun a => absurd q a) (fun _ a => absurd a q2) (fun _ _ => hq)⟩⟩
  · exact ⟨-2000002, W, S, c, hR, fun K N I P z Q hg ht hq => wf_L_read (by omega) ⟨hg.k4, cx_read (by omega) hg (fun _ => hq I P GF.rf GP.rf hg) (fun a => absurd a q) (fun a => absurd a q)⟩⟩
theorem st_takeOff (hd : 24 ≤ d) (hV : VG W) (hc : 0 ≤ c ∧ c ≤ 6) (hR : RI W S c) (x : Int) : EX d m_L_takeOff [am_i x] W S c := by
  have g9 := hV.1.n9
  by_cases q : 0 ≤ x ∧ x < W 9
  · by_cases q2 : W (800 + x) = 0
    · refine ⟨W (500 + x), v_u W (800 + x) 9, v_svS S c W, v_svc c, hR.sv hc (hR.1.fate (v_un (by omega)) (fun p p0 p1 => ?_) (fun _ _ _ => v_un (by omega))), fun K N I P z Q hg ht hq => wf_L_takeOff (by omega) ⟨hg.k4, cx_takeOff (by omega) hg (fun a => absurd q a) (fun _ a => absurd q2 a) (fun _ _ => hq)⟩⟩
      by_cases e : p = x
      · rw [e, v_us]; exact Or.inr ⟨q2, Or.inr rfl⟩
      · exact Or.inl (v_un (by omega))
    · exact ⟨-2000003, W, S, c, hR, fun K N I P z Q hg ht hq => wf_L_takeOff (by omega) ⟨hg.k4, cx_takeOff (by omega) hg (fun a => absurd q a) (fun _ _ => hq I P GF.rf GP.rf hg) (fun _ a => absurd a q2)⟩⟩
  · exact ⟨-2000001, W, S, c, hR, fun K N I P z Q hg ht hq => wf_L_takeOff (by omega) ⟨hg.k4, cx_takeOff (by omega) hg (fun _ => hq I P GF.rf GP.rf hg) (fun a => absurd a q) (fun a => absurd a q)⟩⟩
theorem st_undo (hd : 24 ≤ d) (hc : 0 ≤ c ∧ c ≤ 6) (hR : RI W S c) : EX d m_L_undo [] W S c := by
  by_cases q : c = 0
  · exact ⟨-2000003, W, S, c, hR, fun K N I P z Q hg ht hq => wf_L_undo (by omega) ⟨hg.k4, cx_undo (by omega) hg (fun _ => hq I P GF.rf GP.rf hg) (fun a => absurd q a)⟩⟩
  · exact ⟨c - 1, S (c - 1), S, c - 1, ⟨hR.2 _ (by omega) (by omega), fun j j0 j1 => hR.2 j j0 (by omega)⟩, fun K N I P z Q hg ht hq => wf_L_undo (by omega) ⟨hg.k4, cx_undo (by omega) hg (fun a => absurd a q) (fun _ => hq)⟩⟩
theorem st_move (hd : 24 ≤ d) (hV : VG W) (hc : 0 ≤ c ∧ c ≤ 6) (hR : RI W S c) (x : Int) : EX d m_L_move [am_i x] W S c := by
  by_cases q : 1 ≤ x ∧ x ≤ 500
  · by_cases q2 : W 0 + x ≤ 50000
    · exact ⟨v_ob W - v_ob (v_it x.toNat W), v_it x.toNat W, v_svS S c W, v_svc c, hR.sv hc (hR.1.it hV.1 hV.2.1 _), fun K N I P z Q hg ht hq => wf_L_move (by omega) ⟨hg.k4, cx_move (by omega) hg (fun a => absurd q a) (fun _ a => absurd a (by omega)) (fun _ _ => hq)⟩⟩
    · exact ⟨-2000003, W, S, c, hR, fun K N I P z Q hg ht hq => wf_L_move (by omega) ⟨hg.k4, cx_move (by omega) hg (fun a => absurd q a) (fun _ _ => hq I P GF.rf GP.rf hg) (fun _ a => absurd a q2)⟩⟩
  · exact ⟨-2000002, W, S, c, hR, fun K N I P z Q hg ht hq => wf_L_move (by omega) ⟨hg.k4, cx_move (by omega) hg (fun _ => hq I P GF.rf GP.rf hg) (fun a => absurd a q) (fun a => absurd a q)⟩⟩
/-! questions -/
theorem st_total (hd : 24 ≤ d) {y : Int} (hy : 0 ≤ y ∧ y ≤ 14) : ST1 d m_L_total [am_i y] W S c (am_i (v_tot W c 0 y)) W S c := fun K N I P z Q hg ht hq => wf_L_total (by omega) ⟨hg.k4, cx_total (by omega) hg (fun a => absurd hy a) (fun _ => hq I P GF.rf GP.rf hg)⟩
theorem st_lost (hd : 24 ≤ d) {x : Int} (hx : 1 ≤ x ∧ x ≤ 6) : ST1 d m_L_lost [am_i x] W S c (am_i (v_fts W x x)) W S c := fun K N I P z Q hg ht hq => wf_L_lost (by omega) ⟨hg.k4, cx_lost (by omega) hg (fun a => absurd hx a) (fun _ => hq I P GF.rf GP.rf hg)⟩
theorem st_setting (hd : 24 ≤ d) {x : Int} (hx : 0 ≤ x ∧ x ≤ 5) : ST1 d m_L_setting [am_i x] W S c (am_i (W (1 + x))) W S c := fun K N I P z Q hg ht hq => wf_L_setting (by omega) ⟨hg.k4, cx_setting (by omega) hg (fun a => absurd hx a) (fun _ => hq I P GF.rf GP.rf hg)⟩
theorem st_lane (hd : 24 ≤ d) {x y : Int} (hx : 0 ≤ x ∧ x < W 7) (y0 : 0 ≤ y) (y1 : y ≤ 4) : ST1 d m_L_lane [am_i x, am_i y] W S c (am_i (W (16 + 6 * y + x))) W S c := fun K N I P z Q hg ht hq => wf_L_lane (by omega) ⟨hg.k4, cx_lane (by omega) hg (fun a => absurd hx a) (fun _ a => absurd a (by omega)) (fun _ _ _ => hq I P GF.rf GP.rf hg) (fun _ a => absurd a (by omega))⟩
theorem st_part (hd : 24 ≤ d) {x y : Int} (hx : 0 ≤ x ∧ x < W 9) (hy : 0 ≤ y ∧ y ≤ 9) : ST1 d m_L_part [am_i x, am_i y] W S c (am_i (v_pp W x y)) W S c := fun K N I P z Q hg ht hq => wf_L_part (by omega) ⟨hg.k4, cx_part (by omega) hg (fun a => absurd hx a) (fun _ a => absurd hy a) (fun _ _ => hq I P GF.rf GP.rf hg)⟩
theorem st_partX (hd : 24 ≤ d) {x y : Int} (hx : ¬ (0 ≤ x ∧ x < W 9)) : ST1 d m_L_part [am_i x, am_i y] W S c (am_i (-2000001)) W S c := fun K N I P z Q hg ht hq => wf_L_part (by omega) ⟨hg.k4, cx_part (by omega) hg (fun _ => hq I P GF.rf GP.rf hg) (fun a => absurd a hx) (fun a => absurd a hx)⟩
theorem st_gap (hd : 24 ≤ d) {x : Int} (hx : 0 ≤ x ∧ x < W 9) (h8 : W (800 + x) = 0) : ST1 d m_L_gapAhead [am_i x] W S c (am_i (if v_ah W x.toNat = -1 then -1 else v_tl W (v_ah W x.toNat) - W (500 + x))) W S c := by
  intro K N I P z Q hg ht hq
  by_cases q : v_ah W x.toNat = -1
  · rw [if_pos q] at hq
    exact wf_L_gapAhead (by omega) ⟨hg.k4, cx_gapAhead (by omega) hg (fun a => absurd hx a) (fun _ a => absurd h8 a) (fun _ _ _ => hq I P GF.rf GP.rf hg) (fun _ _ a => absurd q a)⟩
  · rw [if_neg q] at hq
    exact wf_L_gapAhead (by omega) ⟨hg.k4, cx_gapAhead (by omega) hg (fun a => absurd hx a) (fun _ a => absurd h8 a) (fun _ _ a => absurd a q) (fun _ _ _ => hq I P GF.rf GP.rf hg)⟩
theorem st_gapE (hd : 24 ≤ d) (x : Int) : ∃ v, ST1 d m_L_gapAhead [am_i x] W S c (am_i v) W S c := by
  by_cases q : 0 ≤ x ∧ x < W 9
  · by_cases q2 : W (800 + x) = 0
    · exact ⟨_, st_gap hd q q2⟩
    · exact ⟨-2000003, fun K N I P z Q hg ht hq => wf_L_gapAhead (by omega) ⟨hg.k4, cx_gapAhead (by omega) hg (fun a => absurd q a) (fun _ _ => hq I P GF.rf GP.rf hg) (fun _ a => absurd a q2) (fun _ a => absurd a q2)⟩⟩
  · exact ⟨-2000001, fun K N I P z Q hg ht hq => wf_L_gapAhead (by omega) ⟨hg.k4, cx_gapAhead (by omega) hg (fun _ => hq I P GF.rf GP.rf hg) (fun a => absurd a q) (fun a => absurd a q) (fun a => absurd a q)⟩⟩
theorem st_ranked (hd : 24 ≤ d) (x : Int) : ∃ v, ST1 d m_L_ranked [am_i x] W S c (am_i v) W S c := by
  by_cases q : x < 0
  · exact ⟨-2000002, fun K N I P z Q hg ht hq => wf_L_ranked (by omega) ⟨hg.k4, cx_ranked (by omega) hg (fun _ => hq I P GF.rf GP.rf hg) (fun a => absurd q (Int.not_lt.mpr a))⟩⟩
  · exact ⟨v_rkd W x (W 9).toNat 0, fun K N I P z Q hg ht hq => wf_L_ranked (by omega) ⟨hg.k4, cx_ranked (by omega) hg (fun a => absurd a q) (fun _ => hq)⟩⟩
theorem st_routeAt (hd : 24 ≤ d) (x : Int) : ∃ v, ST1 d m_L_routeAt [am_i x] W S c (am_i v) W S c := by
  by_cases q : x < 0
  · exact ⟨-2000002, fun K N I P z Q hg ht hq => wf_L_routeAt (by omega) ⟨hg.k4, cx_routeAt (by omega) hg (fun _ => hq I P GF.rf GP.rf hg) (fun a => absurd q (Int.not_lt.mpr a)) (fun a => absurd q (Int.not_lt.mpr a))⟩⟩
  · by_cases q2 : W 8 ≤ x
    · exact ⟨-1, fun K N I P z Q hg ht hq => wf_L_routeAt (by omega) ⟨hg.k4, cx_routeAt (by omega) hg (fun a => absurd a q) (fun _ _ => hq I P GF.rf GP.rf hg) (fun _ a => absurd q2 (Int.not_le.mpr a))⟩⟩
    · exact ⟨_, fun K N I P z Q hg ht hq => wf_L_routeAt (by omega) ⟨hg.k4, cx_routeAt (by omega) hg (fun a => absurd a q) (fun _ a => absurd a q2) (fun _ _ => hq I P GF.rf GP.rf hg)⟩⟩
theorem st_laneFor (hd : 24 ≤ d) (x y : Int) : ∃ v, ST1 d m_L_laneFor [am_i x, am_i y] W S c (am_i v) W S c := by
  by_cases q : (0 ≤ x ∧ x ≤ 999) ∧ (10 ≤ y ∧ y ≤ 400)
  · exact ⟨v_lby W x y, fun K N I P z Q hg ht hq => wf_L_laneFor (by omega) ⟨hg.k4, cx_laneFor (by omega) hg (fun a => absurd q a) (fun _ => hq I P GF.rf GP.rf hg)⟩⟩
  · exact ⟨-2000002, fun K N I P z Q hg ht hq => wf_L_laneFor (by omega) ⟨hg.k4, cx_laneFor (by omega) hg (fun _ => hq I P GF.rf GP.rf hg) (fun a => absurd a q)⟩⟩
theorem st_fateOf (hd : 24 ≤ d) (hV : VG W) (x : Int) : ∃ v, ST1 d m_L_fateOf [am_i x] W S c (am_i v) W S c := by
  by_cases q : 0 ≤ x ∧ x < W 9
  · by_cases q2 : ∃ k : Nat, ¬ (v_it k W) (800 + x) = 0
    · obtain ⟨k, hk⟩ := q2
      exact ⟨(v_it k W) (800 + x), fun K N I P z Q hg ht hq => wf_L_fateOf (by omega) ⟨hg.k4, cx_fateOf (by omega) hg (fun a => absurd q a) (fun _ l hl I' P' f1 f2 h' => by rw [v_it_fate hV.1 hV.2.1 q.1 q.2 hl hk]; exact hq I' P' f1 f2 h')⟩⟩
    · exact ⟨0, fun K N I P z Q hg ht hq => wf_L_fateOf (by omega) ⟨hg.k4, cx_fateOf (by omega) hg (fun a => absurd q a) (fun _ l hl => absurd ⟨l, hl⟩ q2)⟩⟩
  · exact ⟨-2000001, fun K N I P z Q hg ht hq => wf_L_fateOf (by omega) ⟨hg.k4, cx_fateOf (by omega) hg (fun _ => hq I P GF.rf GP.rf hg) (fun a => absurd a q)⟩⟩
theorem v_min {p : Nat → Prop} {k l : Nat} (h1 : ∀ j : Nat, j < k → ¬ p j) (h2 : p k) (h3 : ∀ j : Nat, j < l → ¬ p j) (h4 : p l) : k = l := by
  rcases (show k < l ∨ k = l ∨ l < k by omega) with q | q | q
  · exact (h3 k q h2).elim
  · exact q
  · exact (h1 l q h4).elim
theorem st_entryIn (hd : 24 ≤ d) : ∃ v, ST1 d m_X7_entryIn [] W S c (am_i v) W S c := by
  by_cases q : ∃ k : Nat, (∀ j : Nat, j < k → ¬ v_ce (v_it j W)) ∧ v_ce (v_it k W)
  · obtain ⟨k, k1, k2⟩ := q
    exact ⟨k, fun K N I P z Q hg ht hq => cx_entryIn (by omega) hg (fun l l1 l2 I' P' f1 f2 h' => by rw [v_min (p := fun j => v_ce (v_it j W)) l1 l2 k1 k2]; exact hq I' P' f1 f2 h')⟩
  · exact ⟨0, fun K N I P z Q hg ht hq => cx_entryIn (by omega) hg (fun l l1 l2 => absurd ⟨l, l1, l2⟩ q)⟩
theorem st_nextLeaving (hd : 24 ≤ d) : ∃ v, ST1 d m_X7_nextLeaving [] W S c (am_i v) W S c := by
  by_cases q0 : v_ob W = 0
  · exact ⟨-1, fun K N I P z Q hg ht hq => cx_nextLeaving (by omega) hg (fun _ => hq I P GF.rf GP.rf hg) (fun a => absurd q0 a)⟩
  · by_cases q : ∃ k : Nat, (∀ j : Nat, j < k → v_ob (v_it j W) = v_ob W) ∧ ¬ v_ob (v_it k W) = v_ob W
    · obtain ⟨k, k1, k2⟩ := q
      exact ⟨k, fun K N I P z Q hg ht hq => cx_nextLeaving (by omega) hg (fun a => absurd a q0) (fun _ l l1 l2 I' P' f1 f2 h' => by rw [v_min (p := fun j => ¬ v_ob (v_it j W) = v_ob W) (fun j hj => fun t => t (l1 j hj)) l2 (fun j hj => fun t => t (k1 j hj)) k2]; exact hq I' P' f1 f2 h')⟩
    · exact ⟨0, fun K N I P z Q hg ht hq => cx_nextLeaving (by omega) hg (fun a => absurd a q0) (fun _ l l1 l2 => absurd ⟨l, l1, l2⟩ q)⟩
theorem st_errorPosition (hd : 24 ≤ d) : ∃ v, ST1 d m_X7_errorPosition [] W S c (am_i v) W S c := ⟨_, fun K N I P z Q hg ht hq => cx_errorPosition (by omega) hg hq⟩
theorem st_share (hd : 24 ≤ d) : ST1 d m_X7_share [] W S c (am_d (v_sh W)) W S c := fun K N I P z Q hg ht hq => cx_share (by omega) hg (hq I P GF.rf GP.rf hg)
end
