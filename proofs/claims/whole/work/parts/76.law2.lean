section
variable {d : Nat} {K N K1 N1 : Nat → Nat} {I I1 I' : Nat → Nat → Int} {P P1 P' : Nat → Nat → Option Nat} {z z1 : Nat} {Q R : am_V → am_T} {X : Nat → am_T} {W W' V : Int → Int} {S S' : Int → Int → Int} {c c' : Int} {T T' : Int → Int} {n n' : Int}
theorem v_min {p : Nat → Prop} {k l : Nat} (h1 : ∀ j : Nat, j < k → ¬ p j) (h2 : p k) (h3 : ∀ j : Nat, j < l → ¬ p j) (h4 : p l) : k = l := by
  rcases (show k < l ∨ k = l ∨ l < k by omega) with q | q | q
  · exact (h3 k q h2).elim
  · exact q
  · exact (h1 l q h4).elim
theorem lw_set (hd : 24 ≤ d) (h : LI K N I P z W S c T n) {i x : Int} (hr : BC d m_X8_set [am_r 284, am_i i, am_i x] K N I P z R) : am_C d m_L_set [am_r 4, am_i i, am_i x, am_r 290] K N I P z R am_nx := by
  obtain ⟨l1, l2, l3, l4, l5, l6⟩ := id h; have hV := l1.v; have hG := hV.1; have k4 := l1.k4
  refine wf_L_set (by omega) ⟨k4, cx_set (by omega) l1 l4 rfl rfl (fun q => ?_) (fun q q2 => ?_) (fun q q2 q3 => ?_) (fun q q2 q3 I' P' f1 f2 h' => ⟨l5, by rw [l6]; omega, ?_⟩)⟩
  · exact hr _ _ _ _ _ 1 0 _ _ _ _ _ (CO.rf l1) (fun e => absurd e (by decide)) (fun Q hq => sp_set (by omega) l2 l3 hG (fun _ => hq) rfl rfl (fun a => absurd a q) (fun a => absurd a q) (fun a => absurd a q))
  · exact hr _ _ _ _ _ 2 0 _ _ _ _ _ (CO.rf l1) (fun e => absurd e (by decide)) (fun Q hq => sp_set (by omega) l2 l3 hG (fun a => absurd q a) rfl rfl (fun _ _ => hq) (fun _ a => absurd a q2) (fun _ a => absurd a q2))
  · exact hr _ _ _ _ _ 3 0 _ _ _ _ _ (CO.rf l1) (fun e => absurd e (by decide)) (fun Q hq => sp_set (by omega) l2 l3 hG (fun a => absurd q a) rfl rfl (fun _ a => absurd q2 a) (fun _ _ _ => hq) (fun _ _ a => absurd q3 (by omega)))
  · rintro I9 rfl
    have co := (CO.mk l1 f1 f2 h').out (b := W (1 + i))
    exact hr _ _ _ _ _ 0 (W (1 + i)) _ _ _ _ _ co (fun _ => am_u2_s) (fun Q hq => sp_set (by omega) (co.ms l2) (co.ma l3) hG (fun a => absurd q a) rfl rfl (fun _ a => absurd q2 a) (fun _ _ a => absurd a (by omega)) (fun _ _ _ => hq))
theorem lw_addLane (hd : 24 ≤ d) (h : LI K N I P z W S c T n) {x y u : Int} (hr : BC d m_X8_addLane [am_r 284, am_i x, am_i y, am_i u] K N I P z R) : am_C d m_L_addLane [am_r 4, am_i x, am_i y, am_i u, am_r 290] K N I P z R am_nx := by
  obtain ⟨l1, l2, l3, l4, l5, l6⟩ := id h; have hV := l1.v; have hG := hV.1; have k4 := l1.k4
  refine wf_L_addLane (by omega) ⟨k4, cx_addLane (by omega) l1 (fun q => ?_) (fun q q2 => ?_) (fun q q2 I' P' f1 f2 h' => ⟨l5, by rw [l6]; omega, ?_⟩)⟩
  · exact hr _ _ _ _ _ 1 0 _ _ _ _ _ (CO.rf l1) (fun e => absurd e (by decide)) (fun Q hq => sp_addLane (by omega) l2 l3 hG (fun _ => hq) (fun a => absurd a q) (fun a => absurd a q))
  · exact hr _ _ _ _ _ 2 0 _ _ _ _ _ (CO.rf l1) (fun e => absurd e (by decide)) (fun Q hq => sp_addLane (by omega) l2 l3 hG (fun a => absurd q a) (fun _ _ => hq) (fun _ a => absurd q2 a))
  · rintro I9 rfl
    have co := (CO.mk l1 f1 f2 h').out (b := W 7)
    exact hr _ _ _ _ _ 0 (W 7) _ _ _ _ _ co (fun _ => am_u2_s) (fun Q hq => sp_addLane (by omega) (co.ms l2) (co.ma l3) hG (fun a => absurd q a) (fun _ a => absurd a q2) (fun _ _ => hq))
theorem lw_emptyLane (hd : 24 ≤ d) (h : LI K N I P z W S c T n) {x : Int} (hr : BC d m_X8_emptyLane [am_r 284, am_i x] K N I P z R) : am_C d m_L_emptyLane [am_r 4, am_i x, am_r 290] K N I P z R am_nx := by
  obtain ⟨l1, l2, l3, l4, l5, l6⟩ := id h; have hV := l1.v; have hG := hV.1; have k4 := l1.k4
  refine wf_L_emptyLane (by omega) ⟨k4, cx_emptyLane (by omega) l1 (fun q => ?_) (fun q I' P' f1 f2 h' => ⟨l5, by rw [l6]; omega, ?_⟩)⟩
  · exact hr _ _ _ _ _ 1 0 _ _ _ _ _ (CO.rf l1) (fun e => absurd e (by decide)) (fun Q hq => sp_emptyLane (by omega) l2 l3 hG (fun _ => hq) (fun a => absurd a q))
  · rintro I9 rfl
    have co := (CO.mk l1 f1 f2 h').out (b := W (34 + x))
    exact hr _ _ _ _ _ 0 (W (34 + x)) _ _ _ _ _ co (fun _ => am_u2_s) (fun Q hq => sp_emptyLane (by omega) (co.ms l2) (co.ma l3) hG (fun a => absurd q a) (fun _ => hq))
theorem lw_route (hd : 24 ≤ d) (h : LI K N I P z W S c T n) {x l : Int} (hr : BC d m_X8_route [am_r 284, am_i x, am_i l] K N I P z R) : am_C d m_L_route [am_r 4, am_i x, am_i l, am_r 290] K N I P z R am_nx := by
  obtain ⟨l1, l2, l3, l4, l5, l6⟩ := id h; have hV := l1.v; have hG := hV.1; have k4 := l1.k4
  refine wf_L_route (by omega) ⟨k4, cx_route (by omega) l1 (fun q => ?_) (fun q q2 => ?_) (fun q q2 q3 q4 => ?_) (fun q q2 q3 I' P' f1 f2 h' => ⟨l5, by rw [l6]; omega, ?_⟩) (fun q q2 q3 q4 I' P' f1 f2 h' => ⟨l5, by rw [l6]; omega, ?_⟩)⟩
  · exact hr _ _ _ _ _ 1 0 _ _ _ _ _ (CO.rf l1) (fun e => absurd e (by decide)) (fun Q hq => sp_route (by omega) l2 l3 hG (fun _ => hq) (fun a => absurd a q) (fun a => absurd a q) (fun a => absurd a q) (fun a => absurd a q))
  · exact hr _ _ _ _ _ 2 0 _ _ _ _ _ (CO.rf l1) (fun e => absurd e (by decide)) (fun Q hq => sp_route (by omega) l2 l3 hG (fun a => absurd q a) (fun _ _ => hq) (fun _ a => absurd a q2) (fun _ a => absurd a q2) (fun _ a => absurd a q2))
  · exact hr _ _ _ _ _ 3 0 _ _ _ _ _ (CO.rf l1) (fun e => absurd e (by decide)) (fun Q hq => sp_route (by omega) l2 l3 hG (fun a => absurd q a) (fun _ a => absurd q2 a) (fun _ _ _ _ => hq) (fun _ _ a => absurd a q3) (fun _ _ _ a => absurd q4 a))
  · rintro I9 rfl
    have co := (CO.mk l1 f1 f2 h').out (b := W (76 + v_place W x))
    exact hr _ _ _ _ _ 0 (W (76 + v_place W x)) _ _ _ _ _ co (fun _ => am_u2_s) (fun Q hq => sp_route (by omega) (co.ms l2) (co.ma l3) hG (fun a => absurd q a) (fun _ a => absurd q2 a) (fun _ _ a => absurd q3 a) (fun _ _ _ => hq) (fun _ _ a => absurd q3 a))
  · rintro I9 rfl
    have co := (CO.mk l1 f1 f2 h').out (b := -1)
    exact hr _ _ _ _ _ 0 (-1) _ _ _ _ _ co (fun _ => am_u2_s) (fun Q hq => sp_route (by omega) (co.ms l2) (co.ma l3) hG (fun a => absurd q a) (fun _ a => absurd q2 a) (fun _ _ _ a => absurd a q4) (fun _ _ a => absurd a q3) (fun _ _ _ _ => hq))
theorem lw_removeRoute (hd : 24 ≤ d) (h : LI K N I P z W S c T n) {x : Int} (hr : BC d m_X8_removeRoute [am_r 284, am_i x] K N I P z R) : am_C d m_L_removeRoute [am_r 4, am_i x, am_r 290] K N I P z R am_nx := by
  obtain ⟨l1, l2, l3, l4, l5, l6⟩ := id h; have hV := l1.v; have hG := hV.1; have k4 := l1.k4
  refine wf_L_removeRoute (by omega) ⟨k4, cx_removeRoute (by omega) l1 (fun q => ?_) (fun q q2 => ?_) (fun q q2 I' P' f1 f2 h' => ⟨l5, by rw [l6]; omega, ?_⟩)⟩
  · exact hr _ _ _ _ _ 1 0 _ _ _ _ _ (CO.rf l1) (fun e => absurd e (by decide)) (fun Q hq => sp_removeRoute (by omega) l2 l3 hG (fun _ => hq) (fun a => absurd a q) (fun a => absurd a q))
  · exact hr _ _ _ _ _ 2 0 _ _ _ _ _ (CO.rf l1) (fun e => absurd e (by decide)) (fun Q hq => sp_removeRoute (by omega) l2 l3 hG (fun a => absurd q a) (fun _ _ => hq) (fun _ a => absurd a q2))
  · rintro I9 rfl
    have co := (CO.mk l1 f1 f2 h').out (b := W (76 + v_place W x))
    exact hr _ _ _ _ _ 0 (W (76 + v_place W x)) _ _ _ _ _ co (fun _ => am_u2_s) (fun Q hq => sp_removeRoute (by omega) (co.ms l2) (co.ma l3) hG (fun a => absurd q a) (fun _ a => absurd q2 a) (fun _ _ => hq))
theorem lw_enter (hd : 24 ≤ d) (h : LI K N I P z W S c T n) {x : Int} (hr : BC d m_X8_enter [am_r 284, am_i x] K N I P z R) : am_C d m_L_enter [am_r 4, am_i x, am_r 290] K N I P z R am_nx := by
  obtain ⟨l1, l2, l3, l4, l5, l6⟩ := id h; have hV := l1.v; have hG := hV.1; have k4 := l1.k4
  refine wf_L_enter (by omega) ⟨k4, cx_enter (by omega) l1 (fun q => ?_) (fun q q2 => ?_) (fun q q2 I' P' f1 f2 h' => ⟨l5, by rw [l6]; omega, ?_⟩)⟩
  · exact hr _ _ _ _ _ 1 0 _ _ _ _ _ (CO.rf l1) (fun e => absurd e (by decide)) (fun Q hq => sp_enter (by omega) l2 l3 hG (fun _ => hq) (fun a => absurd a q) (fun a => absurd a q))
  · exact hr _ _ _ _ _ 2 0 _ _ _ _ _ (CO.rf l1) (fun e => absurd e (by decide)) (fun Q hq => sp_enter (by omega) l2 l3 hG (fun a => absurd q a) (fun _ _ => hq) (fun _ a => absurd q2 a))
  · rintro I9 rfl
    have co := (CO.mk l1 f1 f2 h').out (b := W 9)
    exact hr _ _ _ _ _ 0 (W 9) _ _ _ _ _ co (fun _ => am_u2_s) (fun Q hq => sp_enter (by omega) (co.ms l2) (co.ma l3) hG (fun a => absurd q a) (fun _ a => absurd a q2) (fun _ _ => hq))
theorem lw_read (hd : 24 ≤ d) (h : LI K N I P z W S c T n) {x : Int} (hr : BC d m_X8_read [am_r 284, am_i x] K N I P z R) : am_C d m_L_read [am_r 4, am_i x, am_r 290] K N I P z R am_nx := by
  obtain ⟨l1, l2, l3, l4, l5, l6⟩ := id h; have hV := l1.v; have hG := hV.1; have k4 := l1.k4
  refine wf_L_read (by omega) ⟨k4, cx_read (by omega) l1 (fun q => ?_) (fun q q2 I' P' f1 f2 h' => ⟨l5, by rw [l6]; omega, ?_⟩) (fun q q2 I' P' f1 f2 h' => ⟨l5, by rw [l6]; omega, ?_⟩)⟩
  · exact hr _ _ _ _ _ 1 0 _ _ _ _ _ (CO.rf l1) (fun e => absurd e (by decide)) (fun Q hq => sp_read (by omega) l2 l3 hG (fun _ => hq) (fun a => absurd a q) (fun a => absurd a q))
  · rintro I9 rfl
    have co := (CO.mk l1 f1 f2 h').out (b := -1)
    exact hr _ _ _ _ _ 0 (-1) _ _ _ _ _ co (fun _ => am_u2_s) (fun Q hq => sp_read (by omega) (co.ms l2) (co.ma l3) hG (fun a => absurd q a) (fun _ _ => hq) (fun _ a => absurd q2 a))
  · rintro I9 rfl
    have co := (CO.mk l1 f1 f2 h').out (b := v_own W)
    exact hr _ _ _ _ _ 0 (v_own W) _ _ _ _ _ co (fun _ => am_u2_s) (fun Q hq => sp_read (by omega) (co.ms l2) (co.ma l3) hG (fun a => absurd q a) (fun _ a => absurd a q2) (fun _ _ => hq))
theorem lw_move (hd : 24 ≤ d) (h : LI K N I P z W S c T n) {x : Int} (hr : BC d m_X8_move [am_r 284, am_i x] K N I P z R) : am_C d m_L_move [am_r 4, am_i x, am_r 290] K N I P z R am_nx := by
  obtain ⟨l1, l2, l3, l4, l5, l6⟩ := id h; have hV := l1.v; have hG := hV.1; have k4 := l1.k4
  refine wf_L_move (by omega) ⟨k4, cx_move (by omega) l1 (fun q => ?_) (fun q q2 => ?_) (fun q q2 I' P' f1 f2 h' => ⟨l5, by rw [l6]; omega, ?_⟩)⟩
  · exact hr _ _ _ _ _ 1 0 _ _ _ _ _ (CO.rf l1) (fun e => absurd e (by decide)) (fun Q hq => sp_move (by omega) l2 l3 hG hV.2.1 hV.2.2 (fun _ => hq) (fun a => absurd a q) (fun a => absurd a q))
  · exact hr _ _ _ _ _ 2 0 _ _ _ _ _ (CO.rf l1) (fun e => absurd e (by decide)) (fun Q hq => sp_move (by omega) l2 l3 hG hV.2.1 hV.2.2 (fun a => absurd q a) (fun _ _ => hq) (fun _ a => absurd q2 (by omega)))
  · rintro I9 rfl
    have co := (CO.mk l1 f1 f2 h').out (b := v_ob W - v_ob (v_it x.toNat W))
    exact hr _ _ _ _ _ 0 (v_ob W - v_ob (v_it x.toNat W)) _ _ _ _ _ co (fun _ => am_u2_s) (fun Q hq => sp_move (by omega) (co.ms l2) (co.ma l3) hG hV.2.1 hV.2.2 (fun a => absurd q a) (fun _ a => absurd a (by omega)) (fun _ _ => hq))
theorem lw_takeOff (hd : 24 ≤ d) (h : LI K N I P z W S c T n) {x : Int} (hr : BC d m_X8_takeOff [am_r 284, am_i x] K N I P z R) : am_C d m_L_takeOff [am_r 4, am_i x, am_r 290] K N I P z R am_nx := by
  obtain ⟨l1, l2, l3, l4, l5, l6⟩ := id h; have hV := l1.v; have hG := hV.1; have k4 := l1.k4
  refine wf_L_takeOff (by omega) ⟨k4, cx_takeOff (by omega) l1 (fun q => ?_) (fun q q2 => ?_) (fun q q2 I' P' f1 f2 h' => ⟨l5, by rw [l6]; omega, ?_⟩)⟩
  · exact hr _ _ _ _ _ 1 0 _ _ _ _ _ (CO.rf l1) (fun e => absurd e (by decide)) (fun Q hq => sp_takeOff (by omega) l2 l3 hG (fun _ => hq) (fun a => absurd a q) (fun a => absurd a q))
  · exact hr _ _ _ _ _ 2 0 _ _ _ _ _ (CO.rf l1) (fun e => absurd e (by decide)) (fun Q hq => sp_takeOff (by omega) l2 l3 hG (fun a => absurd q a) (fun _ _ => hq) (fun _ a => absurd a q2))
  · rintro I9 rfl
    have co := (CO.mk l1 f1 f2 h').out (b := W (500 + x))
    exact hr _ _ _ _ _ 0 (W (500 + x)) _ _ _ _ _ co (fun _ => am_u2_s) (fun Q hq => sp_takeOff (by omega) (co.ms l2) (co.ma l3) hG (fun a => absurd q a) (fun _ a => absurd q2 a) (fun _ _ => hq))
theorem lw_undo (hd : 24 ≤ d) (h : LI K N I P z W S c T n) (hr : BC d m_X8_undo [am_r 284] K N I P z R) : am_C d m_L_undo [am_r 4, am_r 290] K N I P z R am_nx := by
  obtain ⟨l1, l2, l3, l4, l5, l6⟩ := id h; have hV := l1.v; have hG := hV.1; have k4 := l1.k4
  refine wf_L_undo (by omega) ⟨k4, cx_undo (by omega) l1 (fun q => ?_) (fun q I' P' f1 f2 h' => ⟨l5, by rw [l6]; omega, ?_⟩)⟩
  · exact hr _ _ _ _ _ 1 0 _ _ _ _ _ (CO.rf l1) (fun e => absurd e (by decide)) (fun Q hq => sp_undo (by omega) l2 l3 (fun _ => hq) (fun a => absurd q a))
  · rintro I9 rfl
    have co := (CO.mk l1 f1 f2 h').out (b := c - 1)
    exact hr _ _ _ _ _ 0 (c - 1) _ _ _ _ _ co (fun _ => am_u2_s) (fun Q hq => sp_undo (by omega) (co.ms l2) (co.ma l3) (fun a => absurd a q) (fun _ => hq))
theorem lw_part (hd : 24 ≤ d) (h : LI K N I P z W S c T n) {x y : Int} (hr : BC d m_X8_part [am_r 284, am_i x, am_i y] K N I P z R) : am_C d m_L_part [am_r 4, am_i x, am_i y, am_r 290] K N I P z R am_nx := by
  obtain ⟨l1, l2, l3, l4, l5, l6⟩ := id h; have hV := l1.v; have hG := hV.1; have k4 := l1.k4
  refine wf_L_part (by omega) ⟨k4, cx_part (by omega) l1 (fun q => ?_) (fun q q2 => ?_) (fun q q2 => ⟨l5, by rw [l6]; omega, ?_⟩)⟩
  · exact hr _ _ _ _ _ 1 0 _ _ _ _ _ (CO.rf l1) (fun e => absurd e (by decide)) (fun Q hq => sp_part (by omega) l2 l3 hG (fun _ => hq) (fun a => absurd a q) (fun a => absurd a q))
  · exact hr _ _ _ _ _ 2 0 _ _ _ _ _ (CO.rf l1) (fun e => absurd e (by decide)) (fun Q hq => sp_part (by omega) l2 l3 hG (fun a => absurd q a) (fun _ _ => hq) (fun _ a => absurd a q2))
  · rintro I9 rfl
    have co := (CO.rf l1).out (b := v_pp W x y)
    exact hr _ _ _ _ _ 0 (v_pp W x y) _ _ _ _ _ co (fun _ => am_u2_s) (fun Q hq => sp_part (by omega) (co.ms l2) (co.ma l3) hG (fun a => absurd q a) (fun _ a => absurd q2 a) (fun _ _ => hq))
theorem lw_lane (hd : 24 ≤ d) (h : LI K N I P z W S c T n) {x y : Int} (hr : BC d m_X8_lane [am_r 284, am_i x, am_i y] K N I P z R) : am_C d m_L_lane [am_r 4, am_i x, am_i y, am_r 290] K N I P z R am_nx := by
  obtain ⟨l1, l2, l3, l4, l5, l6⟩ := id h; have hV := l1.v; have hG := hV.1; have k4 := l1.k4
  refine wf_L_lane (by omega) ⟨k4, cx_lane (by omega) l1 (fun q => ?_) (fun q q2 => ?_) (fun q q2 q3 => ⟨l5, by rw [l6]; omega, ?_⟩) (fun q q2 => ⟨l5, by rw [l6]; omega, ?_⟩)⟩
  · exact hr _ _ _ _ _ 1 0 _ _ _ _ _ (CO.rf l1) (fun e => absurd e (by decide)) (fun Q hq => sp_lane (by omega) l2 l3 hG (fun _ => hq) (fun a => absurd a q) (fun a => absurd a q) (fun a => absurd a q))
  · exact hr _ _ _ _ _ 2 0 _ _ _ _ _ (CO.rf l1) (fun e => absurd e (by decide)) (fun Q hq => sp_lane (by omega) l2 l3 hG (fun a => absurd q a) (fun _ _ => hq) (fun _ a b => absurd q2 (by omega)) (fun _ a => absurd q2 (by omega)))
  · rintro I9 rfl
    have co := (CO.rf l1).out (b := W (16 + 6 * y + x))
    exact hr _ _ _ _ _ 0 (W (16 + 6 * y + x)) _ _ _ _ _ co (fun _ => am_u2_s) (fun Q hq => sp_lane (by omega) (co.ms l2) (co.ma l3) hG (fun a => absurd q a) (fun _ a => absurd a (by omega)) (fun _ _ _ => hq) (fun _ a => absurd a (by omega)))
  · rintro I9 rfl
    have co := (CO.rf l1).out (b := v_rts W x)
    exact hr _ _ _ _ _ 0 (v_rts W x) _ _ _ _ _ co (fun _ => am_u2_s) (fun Q hq => sp_lane (by omega) (co.ms l2) (co.ma l3) hG (fun a => absurd q a) (fun _ a => absurd a (by omega)) (fun _ a b => absurd b (by omega)) (fun _ _ => hq))
theorem lw_total (hd : 24 ≤ d) (h : LI K N I P z W S c T n) {y : Int} (hr : BC d m_X8_total [am_r 284, am_i y] K N I P z R) : am_C d m_L_total [am_r 4, am_i y, am_r 290] K N I P z R am_nx := by
  obtain ⟨l1, l2, l3, l4, l5, l6⟩ := id h; have hV := l1.v; have hG := hV.1; have k4 := l1.k4
  refine wf_L_total (by omega) ⟨k4, cx_total (by omega) l1 (fun q => ?_) (fun q => ⟨l5, by rw [l6]; omega, ?_⟩)⟩
  · exact hr _ _ _ _ _ 1 0 _ _ _ _ _ (CO.rf l1) (fun e => absurd e (by decide)) (fun Q hq => sp_total (by omega) l2 l3 hG (fun _ => hq) (fun a => absurd a q))
  · rintro I9 rfl
    have co := (CO.rf l1).out (b := v_tot W c n y)
    exact hr _ _ _ _ _ 0 (v_tot W c n y) _ _ _ _ _ co (fun _ => am_u2_s) (fun Q hq => sp_total (by omega) (co.ms l2) (co.ma l3) hG (fun a => absurd q a) (fun _ => hq))
theorem lw_lost (hd : 24 ≤ d) (h : LI K N I P z W S c T n) {x : Int} (hr : BC d m_X8_lost [am_r 284, am_i x] K N I P z R) : am_C d m_L_lost [am_r 4, am_i x, am_r 290] K N I P z R am_nx := by
  obtain ⟨l1, l2, l3, l4, l5, l6⟩ := id h; have hV := l1.v; have hG := hV.1; have k4 := l1.k4
  refine wf_L_lost (by omega) ⟨k4, cx_lost (by omega) l1 (fun q => ?_) (fun q => ⟨l5, by rw [l6]; omega, ?_⟩)⟩
  · exact hr _ _ _ _ _ 1 0 _ _ _ _ _ (CO.rf l1) (fun e => absurd e (by decide)) (fun Q hq => sp_lost (by omega) l2 l3 hG (fun _ => hq) (fun a => absurd a q))
  · rintro I9 rfl
    have co := (CO.rf l1).out (b := v_fts W x x)
    exact hr _ _ _ _ _ 0 (v_fts W x x) _ _ _ _ _ co (fun _ => am_u2_s) (fun Q hq => sp_lost (by omega) (co.ms l2) (co.ma l3) hG (fun a => absurd q a) (fun _ => hq))
theorem lw_setting (hd : 24 ≤ d) (h : LI K N I P z W S c T n) {x : Int} (hr : BC d m_X8_setting [am_r 284, am_i x] K N I P z R) : am_C d m_L_setting [am_r 4, am_i x, am_r 290] K N I P z R am_nx := by
  obtain ⟨l1, l2, l3, l4, l5, l6⟩ := id h; have hV := l1.v; have hG := hV.1; have k4 := l1.k4
  refine wf_L_setting (by omega) ⟨k4, cx_setting (by omega) l1 (fun q => ?_) (fun q => ⟨l5, by rw [l6]; omega, ?_⟩)⟩
  · exact hr _ _ _ _ _ 1 0 _ _ _ _ _ (CO.rf l1) (fun e => absurd e (by decide)) (fun Q hq => sp_setting (by omega) l2 l3 (fun _ => hq) (fun a => absurd a q))
  · rintro I9 rfl
    have co := (CO.rf l1).out (b := W (1 + x))
    exact hr _ _ _ _ _ 0 (W (1 + x)) _ _ _ _ _ co (fun _ => am_u2_s) (fun Q hq => sp_setting (by omega) (co.ms l2) (co.ma l3) (fun a => absurd q a) (fun _ => hq))
theorem lw_routeAt (hd : 24 ≤ d) (h : LI K N I P z W S c T n) {x : Int} (hr : BC d m_X8_routeAt [am_r 284, am_i x] K N I P z R) : am_C d m_L_routeAt [am_r 4, am_i x, am_r 290] K N I P z R am_nx := by
  obtain ⟨l1, l2, l3, l4, l5, l6⟩ := id h; have hV := l1.v; have hG := hV.1; have k4 := l1.k4
  refine wf_L_routeAt (by omega) ⟨k4, cx_routeAt (by omega) l1 (fun q => ?_) (fun q q2 => ⟨l5, by rw [l6]; omega, ?_⟩) (fun q q2 => ⟨l5, by rw [l6]; omega, ?_⟩)⟩
  · exact hr _ _ _ _ _ 1 0 _ _ _ _ _ (CO.rf l1) (fun e => absurd e (by decide)) (fun Q hq => sp_routeAt (by omega) l2 l3 hG (fun _ => hq) (fun a => absurd q (by omega)) (fun a => absurd q (by omega)))
  · rintro I9 rfl
    have co := (CO.rf l1).out (b := -1)
    exact hr _ _ _ _ _ 0 (-1) _ _ _ _ _ co (fun _ => am_u2_s) (fun Q hq => sp_routeAt (by omega) (co.ms l2) (co.ma l3) hG (fun a => absurd a (by omega)) (fun _ _ => hq) (fun _ a => absurd a (by omega)))
  · rintro I9 rfl
    have co := (CO.rf l1).out (b := 10 * W (46 + x) + W (76 + x))
    exact hr _ _ _ _ _ 0 (10 * W (46 + x) + W (76 + x)) _ _ _ _ _ co (fun _ => am_u2_s) (fun Q hq => sp_routeAt (by omega) (co.ms l2) (co.ma l3) hG (fun a => absurd a (by omega)) (fun _ a => absurd a (by omega)) (fun _ _ => hq))
theorem lw_gapAhead (hd : 24 ≤ d) (h : LI K N I P z W S c T n) {x : Int} (hr : BC d m_X8_gapAhead [am_r 284, am_i x] K N I P z R) : am_C d m_L_gapAhead [am_r 4, am_i x, am_r 290] K N I P z R am_nx := by
  obtain ⟨l1, l2, l3, l4, l5, l6⟩ := id h; have hV := l1.v; have hG := hV.1; have k4 := l1.k4
  refine wf_L_gapAhead (by omega) ⟨k4, cx_gapAhead (by omega) l1 (fun q => ?_) (fun q q2 => ?_) (fun q q2 q3 => ⟨l5, by rw [l6]; omega, ?_⟩) (fun q q2 q3 => ⟨l5, by rw [l6]; omega, ?_⟩)⟩
  · exact hr _ _ _ _ _ 1 0 _ _ _ _ _ (CO.rf l1) (fun e => absurd e (by decide)) (fun Q hq => sp_gapAhead (by omega) l2 l3 hG (fun _ => hq) (fun a => absurd a q) (fun a => absurd a q) (fun a => absurd a q))
  · exact hr _ _ _ _ _ 2 0 _ _ _ _ _ (CO.rf l1) (fun e => absurd e (by decide)) (fun Q hq => sp_gapAhead (by omega) l2 l3 hG (fun a => absurd q a) (fun _ _ => hq) (fun _ a => absurd a q2) (fun _ a => absurd a q2))
  · rintro I9 rfl
    have co := (CO.rf l1).out (b := -1)
    exact hr _ _ _ _ _ 0 (-1) _ _ _ _ _ co (fun _ => am_u2_s) (fun Q hq => sp_gapAhead (by omega) (co.ms l2) (co.ma l3) hG (fun a => absurd q a) (fun _ a => absurd q2 a) (fun _ _ _ => hq) (fun _ _ a => absurd q3 a))
  · rintro I9 rfl
    have co := (CO.rf l1).out (b := v_tl W (v_ah W x.toNat) - W (500 + x))
    exact hr _ _ _ _ _ 0 (v_tl W (v_ah W x.toNat) - W (500 + x)) _ _ _ _ _ co (fun _ => am_u2_s) (fun Q hq => sp_gapAhead (by omega) (co.ms l2) (co.ma l3) hG (fun a => absurd q a) (fun _ a => absurd q2 a) (fun _ _ a => absurd a q3) (fun _ _ _ => hq))
theorem lw_ranked (hd : 24 ≤ d) (h : LI K N I P z W S c T n) {r : Int} (hr : BC d m_X8_ranked [am_r 284, am_i r] K N I P z R) : am_C d m_L_ranked [am_r 4, am_i r, am_r 290] K N I P z R am_nx := by
  obtain ⟨l1, l2, l3, l4, l5, l6⟩ := id h; have hV := l1.v; have hG := hV.1; have k4 := l1.k4
  refine wf_L_ranked (by omega) ⟨k4, cx_ranked (by omega) l1 (fun q => ?_) (fun q I' P' f1 f2 h' => ⟨l5, by rw [l6]; omega, ?_⟩)⟩
  · exact hr _ _ _ _ _ 1 0 _ _ _ _ _ (CO.rf l1) (fun e => absurd e (by decide)) (fun Q hq => sp_ranked (by omega) l2 l3 hG (fun _ => hq) (fun a => absurd q (by omega)))
  · rintro I9 rfl
    have co := (CO.mk l1 f1 f2 h').out (b := v_rkd W r (W 9).toNat 0)
    exact hr _ _ _ _ _ 0 (v_rkd W r (W 9).toNat 0) _ _ _ _ _ co (fun _ => am_u2_s) (fun Q hq => sp_ranked (by omega) (co.ms l2) (co.ma l3) hG (fun a => absurd a (by omega)) (fun _ => hq))
theorem lw_fateOf (hd : 24 ≤ d) (h : LI K N I P z W S c T n) {x : Int} (hr : BC d m_X8_fateOf [am_r 284, am_i x] K N I P z R) : am_C d m_L_fateOf [am_r 4, am_i x, am_r 290] K N I P z R am_nx := by
  obtain ⟨l1, l2, l3, l4, l5, l6⟩ := id h; have hV := l1.v; have hG := hV.1; have k4 := l1.k4
  refine wf_L_fateOf (by omega) ⟨k4, cx_fateOf (by omega) l1 (fun q => ?_) (fun q k9 q2 I' P' f1 f2 h' => ⟨l5, by rw [l6]; omega, ?_⟩)⟩
  · exact hr _ _ _ _ _ 1 0 _ _ _ _ _ (CO.rf l1) (fun e => absurd e (by decide)) (fun Q hq => sp_fateOf (by omega) l2 l3 hG hV.2.1 hV.2.2 (fun _ => hq) (fun a => absurd a q))
  · rintro I9 rfl
    have co := (CO.mk l1 f1 f2 h').out (b := (v_it k9 W) (800 + x))
    exact hr _ _ _ _ _ 0 ((v_it k9 W) (800 + x)) _ _ _ _ _ co (fun _ => am_u2_s) (fun Q hq => sp_fateOf (by omega) (co.ms l2) (co.ma l3) hG hV.2.1 hV.2.2 (fun a => absurd q a) (fun _ l9 q3 => by rw [v_it_fate hG hV.2.1 q.1 q.2 q3 q2]; exact hq))
theorem lw_laneFor (hd : 24 ≤ d) (h : LI K N I P z W S c T n) {x y : Int} (hr : BC d m_X8_laneFor [am_r 284, am_i x, am_i y] K N I P z R) : am_C d m_L_laneFor [am_r 4, am_i x, am_i y, am_r 290] K N I P z R am_nx := by
  obtain ⟨l1, l2, l3, l4, l5, l6⟩ := id h; have hV := l1.v; have hG := hV.1; have k4 := l1.k4
  refine wf_L_laneFor (by omega) ⟨k4, cx_laneFor (by omega) l1 (fun q => ?_) (fun q => ⟨l5, by rw [l6]; omega, ?_⟩)⟩
  · exact hr _ _ _ _ _ 1 0 _ _ _ _ _ (CO.rf l1) (fun e => absurd e (by decide)) (fun Q hq => sp_laneFor (by omega) l2 l3 hG (fun _ => hq) (fun a => absurd a q))
  · rintro I9 rfl
    have co := (CO.rf l1).out (b := v_lby W x y)
    exact hr _ _ _ _ _ 0 (v_lby W x y) _ _ _ _ _ co (fun _ => am_u2_s) (fun Q hq => sp_laneFor (by omega) (co.ms l2) (co.ma l3) hG (fun a => absurd q a) (fun _ => hq))
theorem lw_append (hd : 24 ≤ d) (h : LI K N I P z W S c T n) {x : Int} (hr : BC d m_X8_append [am_r 284, am_i x] K N I P z R) : am_C d m_L_append [am_r 4, am_i x, am_r 290] K N I P z R am_nx := by
  obtain ⟨l1, l2, l3, l4, l5, l6⟩ := id h; have hV := l1.v; have hG := hV.1; have k4 := l1.k4
  refine wf_L_append (by omega) ⟨k4, cx_append (by omega) l1 (fun q => ?_) (fun q q2 => ?_) (fun q q2 I' P' f1 f2 h' => ⟨l5, by rw [l6]; omega, ?_⟩)⟩
  · exact hr _ _ _ _ _ 1 0 _ _ _ _ _ (CO.rf l1) (fun e => absurd e (by decide)) (fun Q hq => sp_append (by omega) l2 l3 (fun _ => hq) (fun a => absurd a q) (fun a => absurd a q))
  · exact hr _ _ _ _ _ 2 0 _ _ _ _ _ (CO.rf l1) (fun e => absurd e (by decide)) (fun Q hq => sp_append (by omega) l2 l3 (fun a => absurd q a) (fun _ _ => hq) (fun _ a => absurd q2 a))
  · rintro I9 rfl
    have co := (CO.mk l1 f1 f2 h').out (b := n + 1)
    exact hr _ _ _ _ _ 0 (n + 1) _ _ _ _ _ co (fun _ => am_u2_s) (fun Q hq => sp_append (by omega) (co.ms l2) (co.ma l3) (fun a => absurd q a) (fun _ a => absurd a q2) (fun _ _ => hq))
theorem lw_load (hd : 24 ≤ d) (h : LI K N I P z W S c T n) (hr : BC d m_X8_load [am_r 284] K N I P z R) : am_C d m_L_load [am_r 4, am_r 290] K N I P z R am_nx := by
  obtain ⟨l1, l2, l3, l4, l5, l6⟩ := id h; have hV := l1.v; have hG := hV.1; have k4 := l1.k4
  refine wf_L_load (by omega) ⟨k4, cx_load (by omega) l1 (fun q I' P' f1 f2 h' => ?_) (fun q K' N' I' P' z' kf nf hz f1 f2 h' => ?_)⟩
  · have co := CO.mk l1 f1 f2 h'
    exact hr _ _ _ _ _ 1 0 _ _ _ _ _ co (fun e => absurd e (by decide)) (fun Q hq => sp_load (by omega) (co.ms l2) (co.ma l3) (fun _ => hq) (fun a => absurd a q))
  · have zz := l1.zz
    refine ⟨by rw [kf _ (by omega)]; exact l5, by rw [nf _ (by omega), l6]; omega, ?_⟩
    rintro I9 rfl
    have co0 : CO K N I P z K' N' I' P' z' (v_ld W T n) (v_svS S c W) (v_svc c) T 0 := ⟨kf, nf, zz, fun a ha => f1 a (by omega), f2, h'⟩
    have co := co0.out (b := (v_tr (v_sg T n) 6 0).2.2)
    exact hr _ _ _ _ _ 0 ((v_tr (v_sg T n) 6 0).2.2) _ _ _ _ _ co (fun _ => am_u2_s) (fun Q hq => sp_load (by omega) (co.ms l2) (co.ma l3) (fun a => absurd q a) (fun _ => hq))
theorem lw_entryIn (hd : 24 ≤ d) (h : LI K N I P z W S c T n) (hr : BD d m_X8_entryIn [am_r 284] K N I P z R) : am_C d m_X7_entryIn [am_r 4] K N I P z R am_nx := by
  obtain ⟨l1, l2, l3, l4, l5, l6⟩ := id h; have hV := l1.v; have hG := hV.1; have k4 := l1.k4
  refine cx_entryIn (by omega) l1 (fun k9 q q2 I' P' f1 f2 h' => ?_)
  have co := CO.mk l1 f1 f2 h'
  exact hr _ _ _ _ _ _ _ _ _ _ _ co (fun Q hq => sp_entryIn (by omega) (co.ms l2) (co.ma l3) hG hV.2.1 hV.2.2 (fun l9 q3 q4 => by rw [v_min (p := fun j => v_ce (v_it j W)) q3 q4 q q2]; exact hq))
theorem lw_nextLeaving (hd : 24 ≤ d) (h : LI K N I P z W S c T n) (hr : BD d m_X8_nextLeaving [am_r 284] K N I P z R) : am_C d m_X7_nextLeaving [am_r 4] K N I P z R am_nx := by
  obtain ⟨l1, l2, l3, l4, l5, l6⟩ := id h; have hV := l1.v; have hG := hV.1; have k4 := l1.k4
  refine cx_nextLeaving (by omega) l1 (fun q => ?_) (fun q k9 q2 q3 I' P' f1 f2 h' => ?_)
  · exact hr _ _ _ _ _ _ _ _ _ _ _ (CO.rf l1) (fun Q hq => sp_nextLeaving (by omega) l2 l3 hG hV.2.1 hV.2.2 (fun _ => hq) (fun a => absurd q a))
  · have co := CO.mk l1 f1 f2 h'
    exact hr _ _ _ _ _ _ _ _ _ _ _ co (fun Q hq => sp_nextLeaving (by omega) (co.ms l2) (co.ma l3) hG hV.2.1 hV.2.2 (fun a => absurd a q) (fun _ l9 q4 q5 => by rw [v_min (p := fun j => ¬ v_ob (v_it j W) = v_ob W) (fun j hj => fun t => t (q4 j hj)) q5 (fun j hj => fun t => t (q2 j hj)) q3]; exact hq))
theorem lw_clear (hd : 24 ≤ d) (h : LI K N I P z W S c T n) (hr : BD d m_X8_clear [am_r 284] K N I P z R) : am_C d m_X7_clear [am_r 4] K N I P z R am_nx := by
  obtain ⟨l1, l2, l3, l4, l5, l6⟩ := id h; have hV := l1.v; have hG := hV.1; have k4 := l1.k4
  refine cx_clear l1 (fun I' P' f1 f2 h' => ?_)
  have co := CO.mk l1 f1 f2 h'
  exact hr _ _ _ _ _ _ _ _ _ _ _ co (fun Q hq => sp_clear (co.ms l2) (co.ma l3) hq)
theorem lw_errorPosition (hd : 24 ≤ d) (h : LI K N I P z W S c T n) (hr : BD d m_X8_errorPosition [am_r 284] K N I P z R) : am_C d m_X7_errorPosition [am_r 4] K N I P z R am_nx := by
  obtain ⟨l1, l2, l3, l4, l5, l6⟩ := id h; have hV := l1.v; have hG := hV.1; have k4 := l1.k4
  refine cx_errorPosition (by omega) l1 (fun I' P' f1 f2 h' => ?_)
  have co := CO.mk l1 f1 f2 h'
  exact hr _ _ _ _ _ _ _ _ _ _ _ co (fun Q hq => sp_errorPosition (by omega) (co.ms l2) (co.ma l3) hq)
end
