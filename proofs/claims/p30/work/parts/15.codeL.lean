set_option maxRecDepth 100000 in
set_option maxHeartbeats 4000000 in
theorem wf_L_cell {d : Nat} {a1 : Nat} {a2 : Int} {K N : Nat → Nat} {I : Nat → Nat → Int} {P : Nat → Nat → Option Nat} {z : Nat} {Q : am_V → am_T} (h :
  a1 < 4 ∧ N a1 < 2147483648 ∧ (((N a1 : Int) ≤ a2 →
    Q (am_i (am_wr (1294055337 * (am_wr (a2 + 1))))) K N I P z) ∧
    (¬ ((N a1 : Int) ≤ a2) →
    (0 ≤ a2 ∧ a2 < N a1) ∧ Q (am_i (I a1 (Int.toNat a2))) K N I P z))) :
  am_C d m_L_cell [am_r a1, am_i a2] K N I P z Q am_nx := by
  refine am_C_of ok_L_cell (fun v hv => am_v1all _ rfl v hv) (Nat.le_of_ble_eq_true rfl) ?_
  show am_E d m_L_cell 0 0 0 [some (am_r a1), some (am_i a2)] [] K N I P z Q am_nx
  refine e_iload_n dL_cell_0 rfl ?_
  refine e_aload_n dL_cell_1 rfl trivial ?_
  obtain ⟨ha4, hn9, h⟩ := h
  refine e_alenC dL_cell_2 ha4 hn9 ?_
  refine e_icmp_ge (tgt := 12) dL_cell_3 (by decide) (fun hc => ?_) (fun hc => ?_)
  · replace h := h.1 hc
    refine e_ldc dL_cell_12 lc_L_7 ?_
    refine e_iload_n dL_cell_14 rfl ?_
    refine e_iconst dL_cell_15 ?_
    refine e_iadd dL_cell_16 ?_
    refine e_imul dL_cell_17 ?_
    exact e_ret_i dL_cell_18 rfl (Nat.le_of_ble_eq_true rfl) (Nat.le_of_ble_eq_true rfl) h
  · replace h := h.2 hc
    refine e_aload_n dL_cell_6 rfl trivial ?_
    refine e_iload_n dL_cell_7 rfl ?_
    obtain ⟨⟨h0, h1⟩, h⟩ := h
    refine e_ialdC dL_cell_8 ha4 h0 h1 ?_
    refine e_goto (tgt := 18) dL_cell_9 (by decide) ?_
    exact e_ret_i dL_cell_18 rfl (Nat.le_of_ble_eq_true rfl) (Nat.le_of_ble_eq_true rfl) h
set_option maxRecDepth 100000 in
set_option maxHeartbeats 4000000 in
theorem wf_L_low {d : Nat} {a1 : Int} {a2 : Int} {K N : Nat → Nat} {I : Nat → Nat → Int} {P : Nat → Nat → Option Nat} {z : Nat} {Q : am_V → am_T} (h :
  ¬ a2 = 0 ∧ Q (am_i (am_wr ((am_wr ((Int32.ofInt a1 &&& Int32.ofInt 2147483647).toInt)) - Int.tdiv (am_wr ((Int32.ofInt a1 &&& Int32.ofInt 2147483647).toInt)) a2 * a2))) K N I P z) :
  am_C d m_L_low [am_i a1, am_i a2] K N I P z Q am_nx := by
  refine am_C_of ok_L_low (fun v hv => am_v1all _ rfl v hv) (Nat.le_of_ble_eq_true rfl) ?_
  show am_E d m_L_low 0 0 0 [some (am_i a1), some (am_i a2)] [] K N I P z Q am_nx
  refine e_iload_n dL_low_0 rfl ?_
  refine e_ldc dL_low_1 lc_L_8 ?_
  refine e_iand dL_low_3 ?_
  refine e_iload_n dL_low_4 rfl ?_
  obtain ⟨hnz, h⟩ := h
  refine e_irem dL_low_5 hnz ?_
  exact e_ret_i dL_low_6 rfl (Nat.le_of_ble_eq_true rfl) (Nat.le_of_ble_eq_true rfl) h
set_option maxRecDepth 100000 in
theorem hn_L_set_3 : ∀ q ∈ ([(0, -2000001), (1, -2000002), (2, -2000003)] : List (Nat × Int)), am_han m_L_set 3 q.1 q.2 := List.forall_mem_cons.mpr ⟨⟨[], ⟨0, 6, 7, 15⟩, [⟨0, 6, 11, 18⟩, ⟨0, 6, 15, 21⟩], 7, 1, 3, rfl, (fun _ h => absurd h List.not_mem_nil), by decide, by decide, hk_15, by decide, rfl, by decide, Or.inr ⟨3, rfl, dL_set_7, rfl⟩, ⟨17, dL_set_8, lc_L_17⟩, dL_set_10, rfl, by decide, by decide⟩, List.forall_mem_cons.mpr ⟨⟨[⟨0, 6, 7, 15⟩], ⟨0, 6, 11, 18⟩, [⟨0, 6, 15, 21⟩], 11, 1, 3, rfl, List.forall_mem_cons.mpr ⟨Or.inr ⟨by decide, _, hk_15, by decide⟩, (fun _ h => absurd h List.not_mem_nil)⟩, by decide, by decide, hk_18, by decide, rfl, by decide, Or.inr ⟨3, rfl, dL_set_11, rfl⟩, ⟨20, dL_set_12, lc_L_20⟩, dL_set_14, rfl, by decide, by decide⟩, List.forall_mem_cons.mpr ⟨⟨[⟨0, 6, 7, 15⟩, ⟨0, 6, 11, 18⟩], ⟨0, 6, 15, 21⟩, [], 15, 1, 3, rfl, List.forall_mem_cons.mpr ⟨Or.inr ⟨by decide, _, hk_15, by decide⟩, List.forall_mem_cons.mpr ⟨Or.inr ⟨by decide, _, hk_18, by decide⟩, (fun _ h => absurd h List.not_mem_nil)⟩⟩, by decide, by decide, hk_21, by decide, rfl, by decide, Or.inr ⟨3, rfl, dL_set_15, rfl⟩, ⟨23, dL_set_16, lc_L_23⟩, dL_set_18, rfl, by decide, by decide⟩, (fun _ h => absurd h List.not_mem_nil)⟩⟩⟩
set_option maxRecDepth 100000 in
set_option maxHeartbeats 4000000 in
theorem wf_L_set {d : Nat} (hd : 1 ≤ d) {a1 : Nat} {a2 : Int} {a3 : Int} {K N : Nat → Nat} {I : Nat → Nat → Int} {P : Nat → Nat → Option Nat} {z : Nat} {Q : am_V → am_T} (h :
  K a1 = 7 ∧ am_C (d - 1) m_X7_set [am_r a1, am_i a2, am_i a3] K N I P z (fun v K1 N2 I3 P4 z5 => am_iv v fun x7 =>
    Q (am_i x7) K1 N2 I3 P4 z5) (fun ee K N I P z => am_hq ee [(0, -2000001), (1, -2000002), (2, -2000003)] (fun r => Q (am_i r) K N I P z))) :
  am_C d m_L_set [am_r a1, am_i a2, am_i a3] K N I P z Q am_nx := by
  refine am_C_of ok_L_set (fun v hv => am_v1all _ rfl v hv) (Nat.le_of_ble_eq_true rfl) ?_
  show am_E d m_L_set 0 0 0 [some (am_r a1), some (am_i a2), some (am_i a3), none] [] K N I P z Q am_nx
  refine e_aload_n dL_set_0 rfl trivial ?_
  refine e_iload_n dL_set_1 rfl ?_
  refine e_iload_n dL_set_2 rfl ?_
  obtain ⟨hK6, h⟩ := h
  refine e_callV (Mc := m_X7_set) (vs := [am_i a2, am_i a3]) (st := []) dL_set_3 ok_X7_set rfl ⟨by decide, rfl⟩ mk_L_9 im_X7_set sl_X7_set rfl rfl hK6 (by omega) (Nat.le_of_ble_eq_true rfl) (Nat.le_of_ble_eq_true rfl) (Nat.le_of_ble_eq_true rfl) (am_xh_hq hn_L_set_3 (by decide) (by decide)) (am_C_mono h (fun v K1 N2 I3 P4 z5 h => ?_) (fun _ _ _ _ _ _ h => h))
  replace h := am_iv_or h
  obtain ⟨x7, rfl, h⟩ := h
  show am_E d m_L_set 6 _ _ _ [am_i x7] K1 N2 I3 P4 z5 Q am_nx
  exact e_ret_i dL_set_6 rfl (Nat.le_of_ble_eq_true rfl) (Nat.le_of_ble_eq_true rfl) h
set_option maxRecDepth 100000 in
theorem hn_L_addLane_4 : ∀ q ∈ ([(1, -2000002), (2, -2000003)] : List (Nat × Int)), am_han m_L_addLane 4 q.1 q.2 := List.forall_mem_cons.mpr ⟨⟨[], ⟨0, 7, 8, 18⟩, [⟨0, 7, 13, 21⟩], 8, 2, 4, rfl, (fun _ h => absurd h List.not_mem_nil), by decide, by decide, hk_18, by decide, rfl, by decide, Or.inl ⟨dL_addLane_8, rfl⟩, ⟨20, dL_addLane_10, lc_L_20⟩, dL_addLane_12, rfl, by decide, by decide⟩, List.forall_mem_cons.mpr ⟨⟨[⟨0, 7, 8, 18⟩], ⟨0, 7, 13, 21⟩, [], 13, 2, 4, rfl, List.forall_mem_cons.mpr ⟨Or.inr ⟨by decide, _, hk_18, by decide⟩, (fun _ h => absurd h List.not_mem_nil)⟩, by decide, by decide, hk_21, by decide, rfl, by decide, Or.inl ⟨dL_addLane_13, rfl⟩, ⟨23, dL_addLane_15, lc_L_23⟩, dL_addLane_17, rfl, by decide, by decide⟩, (fun _ h => absurd h List.not_mem_nil)⟩⟩
set_option maxRecDepth 100000 in
set_option maxHeartbeats 4000000 in
theorem wf_L_addLane {d : Nat} (hd : 1 ≤ d) {a1 : Nat} {a2 : Int} {a3 : Int} {a4 : Int} {K N : Nat → Nat} {I : Nat → Nat → Int} {P : Nat → Nat → Option Nat} {z : Nat} {Q : am_V → am_T} (h :
  K a1 = 7 ∧ am_C (d - 1) m_X7_addLane [am_r a1, am_i a2, am_i a3, am_i a4] K N I P z (fun v K1 N2 I3 P4 z5 => am_iv v fun x7 =>
    Q (am_i x7) K1 N2 I3 P4 z5) (fun ee K N I P z => am_hq ee [(1, -2000002), (2, -2000003)] (fun r => Q (am_i r) K N I P z))) :
  am_C d m_L_addLane [am_r a1, am_i a2, am_i a3, am_i a4] K N I P z Q am_nx := by
  refine am_C_of ok_L_addLane (fun v hv => am_v1all _ rfl v hv) (Nat.le_of_ble_eq_true rfl) ?_
  show am_E d m_L_addLane 0 0 0 [some (am_r a1), some (am_i a2), some (am_i a3), some (am_i a4), none] [] K N I P z Q am_nx
  refine e_aload_n dL_addLane_0 rfl trivial ?_
  refine e_iload_n dL_addLane_1 rfl ?_
  refine e_iload_n dL_addLane_2 rfl ?_
  refine e_iload_n dL_addLane_3 rfl ?_
  obtain ⟨hK6, h⟩ := h
  refine e_callV (Mc := m_X7_addLane) (vs := [am_i a2, am_i a3, am_i a4]) (st := []) dL_addLane_4 ok_X7_addLane rfl ⟨by decide, rfl⟩ mk_L_24 im_X7_addLane sl_X7_addLane rfl rfl hK6 (by omega) (Nat.le_of_ble_eq_true rfl) (Nat.le_of_ble_eq_true rfl) (Nat.le_of_ble_eq_true rfl) (am_xh_hq hn_L_addLane_4 (by decide) (by decide)) (am_C_mono h (fun v K1 N2 I3 P4 z5 h => ?_) (fun _ _ _ _ _ _ h => h))
  replace h := am_iv_or h
  obtain ⟨x7, rfl, h⟩ := h
  show am_E d m_L_addLane 7 _ _ _ [am_i x7] K1 N2 I3 P4 z5 Q am_nx
  exact e_ret_i dL_addLane_7 rfl (Nat.le_of_ble_eq_true rfl) (Nat.le_of_ble_eq_true rfl) h
set_option maxRecDepth 100000 in
theorem hn_L_emptyLane_2 : ∀ q ∈ ([(0, -2000001)] : List (Nat × Int)), am_han m_L_emptyLane 2 q.1 q.2 := List.forall_mem_cons.mpr ⟨⟨[], ⟨0, 5, 6, 15⟩, [], 6, 1, 2, rfl, (fun _ h => absurd h List.not_mem_nil), by decide, by decide, hk_15, by decide, rfl, by decide, Or.inr ⟨2, rfl, dL_emptyLane_6, rfl⟩, ⟨17, dL_emptyLane_7, lc_L_17⟩, dL_emptyLane_9, rfl, by decide, by decide⟩, (fun _ h => absurd h List.not_mem_nil)⟩
set_option maxRecDepth 100000 in
set_option maxHeartbeats 4000000 in
theorem wf_L_emptyLane {d : Nat} (hd : 1 ≤ d) {a1 : Nat} {a2 : Int} {K N : Nat → Nat} {I : Nat → Nat → Int} {P : Nat → Nat → Option Nat} {z : Nat} {Q : am_V → am_T} (h :
  K a1 = 7 ∧ am_C (d - 1) m_X7_emptyLane [am_r a1, am_i a2] K N I P z (fun v K1 N2 I3 P4 z5 => am_iv v fun x7 =>
    Q (am_i x7) K1 N2 I3 P4 z5) (fun ee K N I P z => am_hq ee [(0, -2000001)] (fun r => Q (am_i r) K N I P z))) :
  am_C d m_L_emptyLane [am_r a1, am_i a2] K N I P z Q am_nx := by
  refine am_C_of ok_L_emptyLane (fun v hv => am_v1all _ rfl v hv) (Nat.le_of_ble_eq_true rfl) ?_
  show am_E d m_L_emptyLane 0 0 0 [some (am_r a1), some (am_i a2), none] [] K N I P z Q am_nx
  refine e_aload_n dL_emptyLane_0 rfl trivial ?_
  refine e_iload_n dL_emptyLane_1 rfl ?_
  obtain ⟨hK6, h⟩ := h
  refine e_callV (Mc := m_X7_emptyLane) (vs := [am_i a2]) (st := []) dL_emptyLane_2 ok_X7_emptyLane rfl ⟨by decide, rfl⟩ mk_L_28 im_X7_emptyLane sl_X7_emptyLane rfl rfl hK6 (by omega) (Nat.le_of_ble_eq_true rfl) (Nat.le_of_ble_eq_true rfl) (Nat.le_of_ble_eq_true rfl) (am_xh_hq hn_L_emptyLane_2 (by decide) (by decide)) (am_C_mono h (fun v K1 N2 I3 P4 z5 h => ?_) (fun _ _ _ _ _ _ h => h))
  replace h := am_iv_or h
  obtain ⟨x7, rfl, h⟩ := h
  show am_E d m_L_emptyLane 5 _ _ _ [am_i x7] K1 N2 I3 P4 z5 Q am_nx
  exact e_ret_i dL_emptyLane_5 rfl (Nat.le_of_ble_eq_true rfl) (Nat.le_of_ble_eq_true rfl) h
set_option maxRecDepth 100000 in
theorem hn_L_route_3 : ∀ q ∈ ([(1, -2000002), (0, -2000001), (2, -2000003)] : List (Nat × Int)), am_han m_L_route 3 q.1 q.2 := List.forall_mem_cons.mpr ⟨⟨[], ⟨0, 6, 7, 18⟩, [⟨0, 6, 11, 15⟩, ⟨0, 6, 15, 21⟩], 7, 1, 3, rfl, (fun _ h => absurd h List.not_mem_nil), by decide, by decide, hk_18, by decide, rfl, by decide, Or.inr ⟨3, rfl, dL_route_7, rfl⟩, ⟨20, dL_route_8, lc_L_20⟩, dL_route_10, rfl, by decide, by decide⟩, List.forall_mem_cons.mpr ⟨⟨[⟨0, 6, 7, 18⟩], ⟨0, 6, 11, 15⟩, [⟨0, 6, 15, 21⟩], 11, 1, 3, rfl, List.forall_mem_cons.mpr ⟨Or.inr ⟨by decide, _, hk_18, by decide⟩, (fun _ h => absurd h List.not_mem_nil)⟩, by decide, by decide, hk_15, by decide, rfl, by decide, Or.inr ⟨3, rfl, dL_route_11, rfl⟩, ⟨17, dL_route_12, lc_L_17⟩, dL_route_14, rfl, by decide, by decide⟩, List.forall_mem_cons.mpr ⟨⟨[⟨0, 6, 7, 18⟩, ⟨0, 6, 11, 15⟩], ⟨0, 6, 15, 21⟩, [], 15, 1, 3, rfl, List.forall_mem_cons.mpr ⟨Or.inr ⟨by decide, _, hk_18, by decide⟩, List.forall_mem_cons.mpr ⟨Or.inr ⟨by decide, _, hk_15, by decide⟩, (fun _ h => absurd h List.not_mem_nil)⟩⟩, by decide, by decide, hk_21, by decide, rfl, by decide, Or.inr ⟨3, rfl, dL_route_15, rfl⟩, ⟨23, dL_route_16, lc_L_23⟩, dL_route_18, rfl, by decide, by decide⟩, (fun _ h => absurd h List.not_mem_nil)⟩⟩⟩
set_option maxRecDepth 100000 in
set_option maxHeartbeats 4000000 in
theorem wf_L_route {d : Nat} (hd : 1 ≤ d) {a1 : Nat} {a2 : Int} {a3 : Int} {K N : Nat → Nat} {I : Nat → Nat → Int} {P : Nat → Nat → Option Nat} {z : Nat} {Q : am_V → am_T} (h :
  K a1 = 7 ∧ am_C (d - 1) m_X7_route [am_r a1, am_i a2, am_i a3] K N I P z (fun v K1 N2 I3 P4 z5 => am_iv v fun x7 =>
    Q (am_i x7) K1 N2 I3 P4 z5) (fun ee K N I P z => am_hq ee [(1, -2000002), (0, -2000001), (2, -2000003)] (fun r => Q (am_i r) K N I P z))) :
  am_C d m_L_route [am_r a1, am_i a2, am_i a3] K N I P z Q am_nx := by
  refine am_C_of ok_L_route (fun v hv => am_v1all _ rfl v hv) (Nat.le_of_ble_eq_true rfl) ?_
  show am_E d m_L_route 0 0 0 [some (am_r a1), some (am_i a2), some (am_i a3), none] [] K N I P z Q am_nx
  refine e_aload_n dL_route_0 rfl trivial ?_
  refine e_iload_n dL_route_1 rfl ?_
  refine e_iload_n dL_route_2 rfl ?_
  obtain ⟨hK6, h⟩ := h
  refine e_callV (Mc := m_X7_route) (vs := [am_i a2, am_i a3]) (st := []) dL_route_3 ok_X7_route rfl ⟨by decide, rfl⟩ mk_L_32 im_X7_route sl_X7_route rfl rfl hK6 (by omega) (Nat.le_of_ble_eq_true rfl) (Nat.le_of_ble_eq_true rfl) (Nat.le_of_ble_eq_true rfl) (am_xh_hq hn_L_route_3 (by decide) (by decide)) (am_C_mono h (fun v K1 N2 I3 P4 z5 h => ?_) (fun _ _ _ _ _ _ h => h))
  replace h := am_iv_or h
  obtain ⟨x7, rfl, h⟩ := h
  show am_E d m_L_route 6 _ _ _ [am_i x7] K1 N2 I3 P4 z5 Q am_nx
  exact e_ret_i dL_route_6 rfl (Nat.le_of_ble_eq_true rfl) (Nat.le_of_ble_eq_true rfl) h
set_option maxRecDepth 100000 in
theorem hn_L_removeRoute_2 : ∀ q ∈ ([(1, -2000002), (2, -2000003)] : List (Nat × Int)), am_han m_L_removeRoute 2 q.1 q.2 := List.forall_mem_cons.mpr ⟨⟨[], ⟨0, 5, 6, 18⟩, [⟨0, 5, 10, 21⟩], 6, 1, 2, rfl, (fun _ h => absurd h List.not_mem_nil), by decide, by decide, hk_18, by decide, rfl, by decide, Or.inr ⟨2, rfl, dL_removeRoute_6, rfl⟩, ⟨20, dL_removeRoute_7, lc_L_20⟩, dL_removeRoute_9, rfl, by decide, by decide⟩, List.forall_mem_cons.mpr ⟨⟨[⟨0, 5, 6, 18⟩], ⟨0, 5, 10, 21⟩, [], 10, 1, 2, rfl, List.forall_mem_cons.mpr ⟨Or.inr ⟨by decide, _, hk_18, by decide⟩, (fun _ h => absurd h List.not_mem_nil)⟩, by decide, by decide, hk_21, by decide, rfl, by decide, Or.inr ⟨2, rfl, dL_removeRoute_10, rfl⟩, ⟨23, dL_removeRoute_11, lc_L_23⟩, dL_removeRoute_13, rfl, by decide, by decide⟩, (fun _ h => absurd h List.not_mem_nil)⟩⟩
set_option maxRecDepth 100000 in
set_option maxHeartbeats 4000000 in
theorem wf_L_removeRoute {d : Nat} (hd : 1 ≤ d) {a1 : Nat} {a2 : Int} {K N : Nat → Nat} {I : Nat → Nat → Int} {P : Nat → Nat → Option Nat} {z : Nat} {Q : am_V → am_T} (h :
  K a1 = 7 ∧ am_C (d - 1) m_X7_removeRoute [am_r a1, am_i a2] K N I P z (fun v K1 N2 I3 P4 z5 => am_iv v fun x7 =>
    Q (am_i x7) K1 N2 I3 P4 z5) (fun ee K N I P z => am_hq ee [(1, -2000002), (2, -2000003)] (fun r => Q (am_i r) K N I P z))) :
  am_C d m_L_removeRoute [am_r a1, am_i a2] K N I P z Q am_nx := by
  refine am_C_of ok_L_removeRoute (fun v hv => am_v1all _ rfl v hv) (Nat.le_of_ble_eq_true rfl) ?_
  show am_E d m_L_removeRoute 0 0 0 [some (am_r a1), some (am_i a2), none] [] K N I P z Q am_nx
  refine e_aload_n dL_removeRoute_0 rfl trivial ?_
  refine e_iload_n dL_removeRoute_1 rfl ?_
  obtain ⟨hK6, h⟩ := h
  refine e_callV (Mc := m_X7_removeRoute) (vs := [am_i a2]) (st := []) dL_removeRoute_2 ok_X7_removeRoute rfl ⟨by decide, rfl⟩ mk_L_35 im_X7_removeRoute sl_X7_removeRoute rfl rfl hK6 (by omega) (Nat.le_of_ble_eq_true rfl) (Nat.le_of_ble_eq_true rfl) (Nat.le_of_ble_eq_true rfl) (am_xh_hq hn_L_removeRoute_2 (by decide) (by decide)) (am_C_mono h (fun v K1 N2 I3 P4 z5 h => ?_) (fun _ _ _ _ _ _ h => h))
  replace h := am_iv_or h
  obtain ⟨x7, rfl, h⟩ := h
  show am_E d m_L_removeRoute 5 _ _ _ [am_i x7] K1 N2 I3 P4 z5 Q am_nx
  exact e_ret_i dL_removeRoute_5 rfl (Nat.le_of_ble_eq_true rfl) (Nat.le_of_ble_eq_true rfl) h
set_option maxRecDepth 100000 in
theorem hn_L_enter_2 : ∀ q ∈ ([(1, -2000002), (2, -2000003)] : List (Nat × Int)), am_han m_L_enter 2 q.1 q.2 := List.forall_mem_cons.mpr ⟨⟨[], ⟨0, 5, 6, 18⟩, [⟨0, 5, 10, 21⟩], 6, 1, 2, rfl, (fun _ h => absurd h List.not_mem_nil), by decide, by decide, hk_18, by decide, rfl, by decide, Or.inr ⟨2, rfl, dL_enter_6, rfl⟩, ⟨20, dL_enter_7, lc_L_20⟩, dL_enter_9, rfl, by decide, by decide⟩, List.forall_mem_cons.mpr ⟨⟨[⟨0, 5, 6, 18⟩], ⟨0, 5, 10, 21⟩, [], 10, 1, 2, rfl, List.forall_mem_cons.mpr ⟨Or.inr ⟨by decide, _, hk_18, by decide⟩, (fun _ h => absurd h List.not_mem_nil)⟩, by decide, by decide, hk_21, by decide, rfl, by decide, Or.inr ⟨2, rfl, dL_enter_10, rfl⟩, ⟨23, dL_enter_11, lc_L_23⟩, dL_enter_13, rfl, by decide, by decide⟩, (fun _ h => absurd h List.not_mem_nil)⟩⟩
set_option maxRecDepth 100000 in
set_option maxHeartbeats 4000000 in
theorem wf_L_enter {d : Nat} (hd : 1 ≤ d) {a1 : Nat} {a2 : Int} {K N : Nat → Nat} {I : Nat → Nat → Int} {P : Nat → Nat → Option Nat} {z : Nat} {Q : am_V → am_T} (h :
  K a1 = 7 ∧ am_C (d - 1) m_X7_enter [am_r a1, am_i a2] K N I P z (fun v K1 N2 I3 P4 z5 => am_iv v fun x7 =>
    Q (am_i x7) K1 N2 I3 P4 z5) (fun ee K N I P z => am_hq ee [(1, -2000002), (2, -2000003)] (fun r => Q (am_i r) K N I P z))) :
  am_C d m_L_enter [am_r a1, am_i a2] K N I P z Q am_nx := by
  refine am_C_of ok_L_enter (fun v hv => am_v1all _ rfl v hv) (Nat.le_of_ble_eq_true rfl) ?_
  show am_E d m_L_enter 0 0 0 [some (am_r a1), some (am_i a2), none] [] K N I P z Q am_nx
  refine e_aload_n dL_enter_0 rfl trivial ?_
  refine e_iload_n dL_enter_1 rfl ?_
  obtain ⟨hK6, h⟩ := h
  refine e_callV (Mc := m_X7_enter) (vs := [am_i a2]) (st := []) dL_enter_2 ok_X7_enter rfl ⟨by decide, rfl⟩ mk_L_38 im_X7_enter sl_X7_enter rfl rfl hK6 (by omega) (Nat.le_of_ble_eq_true rfl) (Nat.le_of_ble_eq_true rfl) (Nat.le_of_ble_eq_true rfl) (am_xh_hq hn_L_enter_2 (by decide) (by decide)) (am_C_mono h (fun v K1 N2 I3 P4 z5 h => ?_) (fun _ _ _ _ _ _ h => h))
  replace h := am_iv_or h
  obtain ⟨x7, rfl, h⟩ := h
  show am_E d m_L_enter 5 _ _ _ [am_i x7] K1 N2 I3 P4 z5 Q am_nx
  exact e_ret_i dL_enter_5 rfl (Nat.le_of_ble_eq_true rfl) (Nat.le_of_ble_eq_true rfl) h
set_option maxRecDepth 100000 in
theorem hn_L_read_2 : ∀ q ∈ ([(1, -2000002)] : List (Nat × Int)), am_han m_L_read 2 q.1 q.2 := List.forall_mem_cons.mpr ⟨⟨[], ⟨0, 5, 6, 18⟩, [], 6, 1, 2, rfl, (fun _ h => absurd h List.not_mem_nil), by decide, by decide, hk_18, by decide, rfl, by decide, Or.inr ⟨2, rfl, dL_read_6, rfl⟩, ⟨20, dL_read_7, lc_L_20⟩, dL_read_9, rfl, by decide, by decide⟩, (fun _ h => absurd h List.not_mem_nil)⟩
set_option maxRecDepth 100000 in
set_option maxHeartbeats 4000000 in
theorem wf_L_read {d : Nat} (hd : 1 ≤ d) {a1 : Nat} {a2 : Int} {K N : Nat → Nat} {I : Nat → Nat → Int} {P : Nat → Nat → Option Nat} {z : Nat} {Q : am_V → am_T} (h :
  K a1 = 7 ∧ am_C (d - 1) m_X7_read [am_r a1, am_i a2] K N I P z (fun v K1 N2 I3 P4 z5 => am_iv v fun x7 =>
    Q (am_i x7) K1 N2 I3 P4 z5) (fun ee K N I P z => am_hq ee [(1, -2000002)] (fun r => Q (am_i r) K N I P z))) :
  am_C d m_L_read [am_r a1, am_i a2] K N I P z Q am_nx := by
  refine am_C_of ok_L_read (fun v hv => am_v1all _ rfl v hv) (Nat.le_of_ble_eq_true rfl) ?_
  show am_E d m_L_read 0 0 0 [some (am_r a1), some (am_i a2), none] [] K N I P z Q am_nx
  refine e_aload_n dL_read_0 rfl trivial ?_
  refine e_iload_n dL_read_1 rfl ?_
  obtain ⟨hK6, h⟩ := h
  refine e_callV (Mc := m_X7_read) (vs := [am_i a2]) (st := []) dL_read_2 ok_X7_read rfl ⟨by decide, rfl⟩ mk_L_41 im_X7_read sl_X7_read rfl rfl hK6 (by omega) (Nat.le_of_ble_eq_true rfl) (Nat.le_of_ble_eq_true rfl) (Nat.le_of_ble_eq_true rfl) (am_xh_hq hn_L_read_2 (by decide) (by decide)) (am_C_mono h (fun v K1 N2 I3 P4 z5 h => ?_) (fun _ _ _ _ _ _ h => h))
  replace h := am_iv_or h
  obtain ⟨x7, rfl, h⟩ := h
  show am_E d m_L_read 5 _ _ _ [am_i x7] K1 N2 I3 P4 z5 Q am_nx
  exact e_ret_i dL_read_5 rfl (Nat.le_of_ble_eq_true rfl) (Nat.le_of_ble_eq_true rfl) h
set_option maxRecDepth 100000 in
theorem hn_L_move_2 : ∀ q ∈ ([(1, -2000002), (2, -2000003)] : List (Nat × Int)), am_han m_L_move 2 q.1 q.2 := List.forall_mem_cons.mpr ⟨⟨[], ⟨0, 5, 6, 18⟩, [⟨0, 5, 10, 21⟩], 6, 1, 2, rfl, (fun _ h => absurd h List.not_mem_nil), by decide, by decide, hk_18, by decide, rfl, by decide, Or.inr ⟨2, rfl, dL_move_6, rfl⟩, ⟨20, dL_move_7, lc_L_20⟩, dL_move_9, rfl, by decide, by decide⟩, List.forall_mem_cons.mpr ⟨⟨[⟨0, 5, 6, 18⟩], ⟨0, 5, 10, 21⟩, [], 10, 1, 2, rfl, List.forall_mem_cons.mpr ⟨Or.inr ⟨by decide, _, hk_18, by decide⟩, (fun _ h => absurd h List.not_mem_nil)⟩, by decide, by decide, hk_21, by decide, rfl, by decide, Or.inr ⟨2, rfl, dL_move_10, rfl⟩, ⟨23, dL_move_11, lc_L_23⟩, dL_move_13, rfl, by decide, by decide⟩, (fun _ h => absurd h List.not_mem_nil)⟩⟩
set_option maxRecDepth 100000 in
set_option maxHeartbeats 4000000 in
theorem wf_L_move {d : Nat} (hd : 1 ≤ d) {a1 : Nat} {a2 : Int} {K N : Nat → Nat} {I : Nat → Nat → Int} {P : Nat → Nat → Option Nat} {z : Nat} {Q : am_V → am_T} (h :
  K a1 = 7 ∧ am_C (d - 1) m_X7_move [am_r a1, am_i a2] K N I P z (fun v K1 N2 I3 P4 z5 => am_iv v fun x7 =>
    Q (am_i x7) K1 N2 I3 P4 z5) (fun ee K N I P z => am_hq ee [(1, -2000002), (2, -2000003)] (fun r => Q (am_i r) K N I P z))) :
  am_C d m_L_move [am_r a1, am_i a2] K N I P z Q am_nx := by
  refine am_C_of ok_L_move (fun v hv => am_v1all _ rfl v hv) (Nat.le_of_ble_eq_true rfl) ?_
  show am_E d m_L_move 0 0 0 [some (am_r a1), some (am_i a2), none] [] K N I P z Q am_nx
  refine e_aload_n dL_move_0 rfl trivial ?_
  refine e_iload_n dL_move_1 rfl ?_
  obtain ⟨hK6, h⟩ := h
  refine e_callV (Mc := m_X7_move) (vs := [am_i a2]) (st := []) dL_move_2 ok_X7_move rfl ⟨by decide, rfl⟩ mk_L_44 im_X7_move sl_X7_move rfl rfl hK6 (by omega) (Nat.le_of_ble_eq_true rfl) (Nat.le_of_ble_eq_true rfl) (Nat.le_of_ble_eq_true rfl) (am_xh_hq hn_L_move_2 (by decide) (by decide)) (am_C_mono h (fun v K1 N2 I3 P4 z5 h => ?_) (fun _ _ _ _ _ _ h => h))
  replace h := am_iv_or h
  obtain ⟨x7, rfl, h⟩ := h
  show am_E d m_L_move 5 _ _ _ [am_i x7] K1 N2 I3 P4 z5 Q am_nx
  exact e_ret_i dL_move_5 rfl (Nat.le_of_ble_eq_true rfl) (Nat.le_of_ble_eq_true rfl) h
set_option maxRecDepth 100000 in
theorem hn_L_takeOff_2 : ∀ q ∈ ([(0, -2000001), (2, -2000003)] : List (Nat × Int)), am_han m_L_takeOff 2 q.1 q.2 := List.forall_mem_cons.mpr ⟨⟨[], ⟨0, 5, 6, 15⟩, [⟨0, 5, 10, 21⟩], 6, 1, 2, rfl, (fun _ h => absurd h List.not_mem_nil), by decide, by decide, hk_15, by decide, rfl, by decide, Or.inr ⟨2, rfl, dL_takeOff_6, rfl⟩, ⟨17, dL_takeOff_7, lc_L_17⟩, dL_takeOff_9, rfl, by decide, by decide⟩, List.forall_mem_cons.mpr ⟨⟨[⟨0, 5, 6, 15⟩], ⟨0, 5, 10, 21⟩, [], 10, 1, 2, rfl, List.forall_mem_cons.mpr ⟨Or.inr ⟨by decide, _, hk_15, by decide⟩, (fun _ h => absurd h List.not_mem_nil)⟩, by decide, by decide, hk_21, by decide, rfl, by decide, Or.inr ⟨2, rfl, dL_takeOff_10, rfl⟩, ⟨23, dL_takeOff_11, lc_L_23⟩, dL_takeOff_13, rfl, by decide, by decide⟩, (fun _ h => absurd h List.not_mem_nil)⟩⟩
set_option maxRecDepth 100000 in
set_option maxHeartbeats 4000000 in
theorem wf_L_takeOff {d : Nat} (hd : 1 ≤ d) {a1 : Nat} {a2 : Int} {K N : Nat → Nat} {I : Nat → Nat → Int} {P : Nat → Nat → Option Nat} {z : Nat} {Q : am_V → am_T} (h :
  K a1 = 7 ∧ am_C (d - 1) m_X7_takeOff [am_r a1, am_i a2] K N I P z (fun v K1 N2 I3 P4 z5 => am_iv v fun x7 =>
    Q (am_i x7) K1 N2 I3 P4 z5) (fun ee K N I P z => am_hq ee [(0, -2000001), (2, -2000003)] (fun r => Q (am_i r) K N I P z))) :
  am_C d m_L_takeOff [am_r a1, am_i a2] K N I P z Q am_nx := by
  refine am_C_of ok_L_takeOff (fun v hv => am_v1all _ rfl v hv) (Nat.le_of_ble_eq_true rfl) ?_
  show am_E d m_L_takeOff 0 0 0 [some (am_r a1), some (am_i a2), none] [] K N I P z Q am_nx
  refine e_aload_n dL_takeOff_0 rfl trivial ?_
  refine e_iload_n dL_takeOff_1 rfl ?_
  obtain ⟨hK6, h⟩ := h
  refine e_callV (Mc := m_X7_takeOff) (vs := [am_i a2]) (st := []) dL_takeOff_2 ok_X7_takeOff rfl ⟨by decide, rfl⟩ mk_L_47 im_X7_takeOff sl_X7_takeOff rfl rfl hK6 (by omega) (Nat.le_of_ble_eq_true rfl) (Nat.le_of_ble_eq_true rfl) (Nat.le_of_ble_eq_true rfl) (am_xh_hq hn_L_takeOff_2 (by decide) (by decide)) (am_C_mono h (fun v K1 N2 I3 P4 z5 h => ?_) (fun _ _ _ _ _ _ h => h))
  replace h := am_iv_or h
  obtain ⟨x7, rfl, h⟩ := h
  show am_E d m_L_takeOff 5 _ _ _ [am_i x7] K1 N2 I3 P4 z5 Q am_nx
  exact e_ret_i dL_takeOff_5 rfl (Nat.le_of_ble_eq_true rfl) (Nat.le_of_ble_eq_true rfl) h
set_option maxRecDepth 100000 in
theorem hn_L_undo_1 : ∀ q ∈ ([(2, -2000003)] : List (Nat × Int)), am_han m_L_undo 1 q.1 q.2 := List.forall_mem_cons.mpr ⟨⟨[], ⟨0, 4, 5, 21⟩, [], 5, 1, 1, rfl, (fun _ h => absurd h List.not_mem_nil), by decide, by decide, hk_21, by decide, rfl, by decide, Or.inr ⟨1, rfl, dL_undo_5, rfl⟩, ⟨23, dL_undo_6, lc_L_23⟩, dL_undo_8, rfl, by decide, by decide⟩, (fun _ h => absurd h List.not_mem_nil)⟩
set_option maxRecDepth 100000 in
set_option maxHeartbeats 4000000 in
theorem wf_L_undo {d : Nat} (hd : 1 ≤ d) {a1 : Nat} {K N : Nat → Nat} {I : Nat → Nat → Int} {P : Nat → Nat → Option Nat} {z : Nat} {Q : am_V → am_T} (h :
  K a1 = 7 ∧ am_C (d - 1) m_X7_undo [am_r a1] K N I P z (fun v K1 N2 I3 P4 z5 => am_iv v fun x7 =>
    Q (am_i x7) K1 N2 I3 P4 z5) (fun ee K N I P z => am_hq ee [(2, -2000003)] (fun r => Q (am_i r) K N I P z))) :
  am_C d m_L_undo [am_r a1] K N I P z Q am_nx := by
  refine am_C_of ok_L_undo (fun v hv => am_v1all _ rfl v hv) (Nat.le_of_ble_eq_true rfl) ?_
  show am_E d m_L_undo 0 0 0 [some (am_r a1), none] [] K N I P z Q am_nx
  refine e_aload_n dL_undo_0 rfl trivial ?_
  obtain ⟨hK6, h⟩ := h
  refine e_callV (Mc := m_X7_undo) (vs := []) (st := []) dL_undo_1 ok_X7_undo rfl ⟨by decide, rfl⟩ mk_L_50 im_X7_undo sl_X7_undo rfl rfl hK6 (by omega) (Nat.le_of_ble_eq_true rfl) (Nat.le_of_ble_eq_true rfl) (Nat.le_of_ble_eq_true rfl) (am_xh_hq hn_L_undo_1 (by decide) (by decide)) (am_C_mono h (fun v K1 N2 I3 P4 z5 h => ?_) (fun _ _ _ _ _ _ h => h))
  replace h := am_iv_or h
  obtain ⟨x7, rfl, h⟩ := h
  show am_E d m_L_undo 4 _ _ _ [am_i x7] K1 N2 I3 P4 z5 Q am_nx
  exact e_ret_i dL_undo_4 rfl (Nat.le_of_ble_eq_true rfl) (Nat.le_of_ble_eq_true rfl) h
set_option maxRecDepth 100000 in
theorem hn_L_part_3 : ∀ q ∈ ([(0, -2000001), (1, -2000002)] : List (Nat × Int)), am_han m_L_part 3 q.1 q.2 := List.forall_mem_cons.mpr ⟨⟨[], ⟨0, 6, 7, 15⟩, [⟨0, 6, 11, 18⟩], 7, 1, 3, rfl, (fun _ h => absurd h List.not_mem_nil), by decide, by decide, hk_15, by decide, rfl, by decide, Or.inr ⟨3, rfl, dL_part_7, rfl⟩, ⟨17, dL_part_8, lc_L_17⟩, dL_part_10, rfl, by decide, by decide⟩, List.forall_mem_cons.mpr ⟨⟨[⟨0, 6, 7, 15⟩], ⟨0, 6, 11, 18⟩, [], 11, 1, 3, rfl, List.forall_mem_cons.mpr ⟨Or.inr ⟨by decide, _, hk_15, by decide⟩, (fun _ h => absurd h List.not_mem_nil)⟩, by decide, by decide, hk_18, by decide, rfl, by decide, Or.inr ⟨3, rfl, dL_part_11, rfl⟩, ⟨20, dL_part_12, lc_L_20⟩, dL_part_14, rfl, by decide, by decide⟩, (fun _ h => absurd h List.not_mem_nil)⟩⟩
set_option maxRecDepth 100000 in
set_option maxHeartbeats 4000000 in
theorem wf_L_part {d : Nat} (hd : 1 ≤ d) {a1 : Nat} {a2 : Int} {a3 : Int} {K N : Nat → Nat} {I : Nat → Nat → Int} {P : Nat → Nat → Option Nat} {z : Nat} {Q : am_V → am_T} (h :
  K a1 = 7 ∧ am_C (d - 1) m_X7_part [am_r a1, am_i a2, am_i a3] K N I P z (fun v K1 N2 I3 P4 z5 => am_iv v fun x7 =>
    Q (am_i x7) K1 N2 I3 P4 z5) (fun ee K N I P z => am_hq ee [(0, -2000001), (1, -2000002)] (fun r => Q (am_i r) K N I P z))) :
  am_C d m_L_part [am_r a1, am_i a2, am_i a3] K N I P z Q am_nx := by
  refine am_C_of ok_L_part (fun v hv => am_v1all _ rfl v hv) (Nat.le_of_ble_eq_true rfl) ?_
  show am_E d m_L_part 0 0 0 [some (am_r a1), some (am_i a2), some (am_i a3), none] [] K N I P z Q am_nx
  refine e_aload_n dL_part_0 rfl trivial ?_
  refine e_iload_n dL_part_1 rfl ?_
  refine e_iload_n dL_part_2 rfl ?_
  obtain ⟨hK6, h⟩ := h
  refine e_callV (Mc := m_X7_part) (vs := [am_i a2, am_i a3]) (st := []) dL_part_3 ok_X7_part rfl ⟨by decide, rfl⟩ mk_L_54 im_X7_part sl_X7_part rfl rfl hK6 (by omega) (Nat.le_of_ble_eq_true rfl) (Nat.le_of_ble_eq_true rfl) (Nat.le_of_ble_eq_true rfl) (am_xh_hq hn_L_part_3 (by decide) (by decide)) (am_C_mono h (fun v K1 N2 I3 P4 z5 h => ?_) (fun _ _ _ _ _ _ h => h))
  replace h := am_iv_or h
  obtain ⟨x7, rfl, h⟩ := h
  show am_E d m_L_part 6 _ _ _ [am_i x7] K1 N2 I3 P4 z5 Q am_nx
  exact e_ret_i dL_part_6 rfl (Nat.le_of_ble_eq_true rfl) (Nat.le_of_ble_eq_true rfl) h
set_option maxRecDepth 100000 in
theorem hn_L_lane_3 : ∀ q ∈ ([(0, -2000001), (1, -2000002)] : List (Nat × Int)), am_han m_L_lane 3 q.1 q.2 := List.forall_mem_cons.mpr ⟨⟨[], ⟨0, 6, 7, 15⟩, [⟨0, 6, 11, 18⟩], 7, 1, 3, rfl, (fun _ h => absurd h List.not_mem_nil), by decide, by decide, hk_15, by decide, rfl, by decide, Or.inr ⟨3, rfl, dL_lane_7, rfl⟩, ⟨17, dL_lane_8, lc_L_17⟩, dL_lane_10, rfl, by decide, by decide⟩, List.forall_mem_cons.mpr ⟨⟨[⟨0, 6, 7, 15⟩], ⟨0, 6, 11, 18⟩, [], 11, 1, 3, rfl, List.forall_mem_cons.mpr ⟨Or.inr ⟨by decide, _, hk_15, by decide⟩, (fun _ h => absurd h List.not_mem_nil)⟩, by decide, by decide, hk_18, by decide, rfl, by decide, Or.inr ⟨3, rfl, dL_lane_11, rfl⟩, ⟨20, dL_lane_12, lc_L_20⟩, dL_lane_14, rfl, by decide, by decide⟩, (fun _ h => absurd h List.not_mem_nil)⟩⟩
set_option maxRecDepth 100000 in
set_option maxHeartbeats 4000000 in
theorem wf_L_lane {d : Nat} (hd : 1 ≤ d) {a1 : Nat} {a2 : Int} {a3 : Int} {K N : Nat → Nat} {I : Nat → Nat → Int} {P : Nat → Nat → Option Nat} {z : Nat} {Q : am_V → am_T} (h :
  K a1 = 7 ∧ am_C (d - 1) m_X7_lane [am_r a1, am_i a2, am_i a3] K N I P z (fun v K1 N2 I3 P4 z5 => am_iv v fun x7 =>
    Q (am_i x7) K1 N2 I3 P4 z5) (fun ee K N I P z => am_hq ee [(0, -2000001), (1, -2000002)] (fun r => Q (am_i r) K N I P z))) :
  am_C d m_L_lane [am_r a1, am_i a2, am_i a3] K N I P z Q am_nx := by
  refine am_C_of ok_L_lane (fun v hv => am_v1all _ rfl v hv) (Nat.le_of_ble_eq_true rfl) ?_
  show am_E d m_L_lane 0 0 0 [some (am_r a1), some (am_i a2), some (am_i a3), none] [] K N I P z Q am_nx
  refine e_aload_n dL_lane_0 rfl trivial ?_
  refine e_iload_n dL_lane_1 rfl ?_
  refine e_iload_n dL_lane_2 rfl ?_
  obtain ⟨hK6, h⟩ := h
  refine e_callV (Mc := m_X7_lane) (vs := [am_i a2, am_i a3]) (st := []) dL_lane_3 ok_X7_lane rfl ⟨by decide, rfl⟩ mk_L_57 im_X7_lane sl_X7_lane rfl rfl hK6 (by omega) (Nat.le_of_ble_eq_true rfl) (Nat.le_of_ble_eq_true rfl) (Nat.le_of_ble_eq_true rfl) (am_xh_hq hn_L_lane_3 (by decide) (by decide)) (am_C_mono h (fun v K1 N2 I3 P4 z5 h => ?_) (fun _ _ _ _ _ _ h => h))
  replace h := am_iv_or h
  obtain ⟨x7, rfl, h⟩ := h
  show am_E d m_L_lane 6 _ _ _ [am_i x7] K1 N2 I3 P4 z5 Q am_nx
  exact e_ret_i dL_lane_6 rfl (Nat.le_of_ble_eq_true rfl) (Nat.le_of_ble_eq_true rfl) h
set_option maxRecDepth 100000 in
theorem hn_L_total_2 : ∀ q ∈ ([(1, -2000002)] : List (Nat × Int)), am_han m_L_total 2 q.1 q.2 := List.forall_mem_cons.mpr ⟨⟨[], ⟨0, 5, 6, 18⟩, [], 6, 1, 2, rfl, (fun _ h => absurd h List.not_mem_nil), by decide, by decide, hk_18, by decide, rfl, by decide, Or.inr ⟨2, rfl, dL_total_6, rfl⟩, ⟨20, dL_total_7, lc_L_20⟩, dL_total_9, rfl, by decide, by decide⟩, (fun _ h => absurd h List.not_mem_nil)⟩
set_option maxRecDepth 100000 in
set_option maxHeartbeats 4000000 in
theorem wf_L_total {d : Nat} (hd : 1 ≤ d) {a1 : Nat} {a2 : Int} {K N : Nat → Nat} {I : Nat → Nat → Int} {P : Nat → Nat → Option Nat} {z : Nat} {Q : am_V → am_T} (h :
  K a1 = 7 ∧ am_C (d - 1) m_X7_total [am_r a1, am_i a2] K N I P z (fun v K1 N2 I3 P4 z5 => am_iv v fun x7 =>
    Q (am_i x7) K1 N2 I3 P4 z5) (fun ee K N I P z => am_hq ee [(1, -2000002)] (fun r => Q (am_i r) K N I P z))) :
  am_C d m_L_total [am_r a1, am_i a2] K N I P z Q am_nx := by
  refine am_C_of ok_L_total (fun v hv => am_v1all _ rfl v hv) (Nat.le_of_ble_eq_true rfl) ?_
  show am_E d m_L_total 0 0 0 [some (am_r a1), some (am_i a2), none] [] K N I P z Q am_nx
  refine e_aload_n dL_total_0 rfl trivial ?_
  refine e_iload_n dL_total_1 rfl ?_
  obtain ⟨hK6, h⟩ := h
  refine e_callV (Mc := m_X7_total) (vs := [am_i a2]) (st := []) dL_total_2 ok_X7_total rfl ⟨by decide, rfl⟩ mk_L_60 im_X7_total sl_X7_total rfl rfl hK6 (by omega) (Nat.le_of_ble_eq_true rfl) (Nat.le_of_ble_eq_true rfl) (Nat.le_of_ble_eq_true rfl) (am_xh_hq hn_L_total_2 (by decide) (by decide)) (am_C_mono h (fun v K1 N2 I3 P4 z5 h => ?_) (fun _ _ _ _ _ _ h => h))
  replace h := am_iv_or h
  obtain ⟨x7, rfl, h⟩ := h
  show am_E d m_L_total 5 _ _ _ [am_i x7] K1 N2 I3 P4 z5 Q am_nx
  exact e_ret_i dL_total_5 rfl (Nat.le_of_ble_eq_true rfl) (Nat.le_of_ble_eq_true rfl) h
set_option maxRecDepth 100000 in
theorem hn_L_lost_2 : ∀ q ∈ ([(1, -2000002)] : List (Nat × Int)), am_han m_L_lost 2 q.1 q.2 := List.forall_mem_cons.mpr ⟨⟨[], ⟨0, 5, 6, 18⟩, [], 6, 1, 2, rfl, (fun _ h => absurd h List.not_mem_nil), by decide, by decide, hk_18, by decide, rfl, by decide, Or.inr ⟨2, rfl, dL_lost_6, rfl⟩, ⟨20, dL_lost_7, lc_L_20⟩, dL_lost_9, rfl, by decide, by decide⟩, (fun _ h => absurd h List.not_mem_nil)⟩
set_option maxRecDepth 100000 in
set_option maxHeartbeats 4000000 in
theorem wf_L_lost {d : Nat} (hd : 1 ≤ d) {a1 : Nat} {a2 : Int} {K N : Nat → Nat} {I : Nat → Nat → Int} {P : Nat → Nat → Option Nat} {z : Nat} {Q : am_V → am_T} (h :
  K a1 = 7 ∧ am_C (d - 1) m_X7_lost [am_r a1, am_i a2] K N I P z (fun v K1 N2 I3 P4 z5 => am_iv v fun x7 =>
    Q (am_i x7) K1 N2 I3 P4 z5) (fun ee K N I P z => am_hq ee [(1, -2000002)] (fun r => Q (am_i r) K N I P z))) :
  am_C d m_L_lost [am_r a1, am_i a2] K N I P z Q am_nx := by
  refine am_C_of ok_L_lost (fun v hv => am_v1all _ rfl v hv) (Nat.le_of_ble_eq_true rfl) ?_
  show am_E d m_L_lost 0 0 0 [some (am_r a1), some (am_i a2), none] [] K N I P z Q am_nx
  refine e_aload_n dL_lost_0 rfl trivial ?_
  refine e_iload_n dL_lost_1 rfl ?_
  obtain ⟨hK6, h⟩ := h
  refine e_callV (Mc := m_X7_lost) (vs := [am_i a2]) (st := []) dL_lost_2 ok_X7_lost rfl ⟨by decide, rfl⟩ mk_L_63 im_X7_lost sl_X7_lost rfl rfl hK6 (by omega) (Nat.le_of_ble_eq_true rfl) (Nat.le_of_ble_eq_true rfl) (Nat.le_of_ble_eq_true rfl) (am_xh_hq hn_L_lost_2 (by decide) (by decide)) (am_C_mono h (fun v K1 N2 I3 P4 z5 h => ?_) (fun _ _ _ _ _ _ h => h))
  replace h := am_iv_or h
  obtain ⟨x7, rfl, h⟩ := h
  show am_E d m_L_lost 5 _ _ _ [am_i x7] K1 N2 I3 P4 z5 Q am_nx
  exact e_ret_i dL_lost_5 rfl (Nat.le_of_ble_eq_true rfl) (Nat.le_of_ble_eq_true rfl) h
set_option maxRecDepth 100000 in
theorem hn_L_setting_2 : ∀ q ∈ ([(0, -2000001)] : List (Nat × Int)), am_han m_L_setting 2 q.1 q.2 := List.forall_mem_cons.mpr ⟨⟨[], ⟨0, 5, 6, 15⟩, [], 6, 1, 2, rfl, (fun _ h => absurd h List.not_mem_nil), by decide, by decide, hk_15, by decide, rfl, by decide, Or.inr ⟨2, rfl, dL_setting_6, rfl⟩, ⟨17, dL_setting_7, lc_L_17⟩, dL_setting_9, rfl, by decide, by decide⟩, (fun _ h => absurd h List.not_mem_nil)⟩
set_option maxRecDepth 100000 in
set_option maxHeartbeats 4000000 in
theorem wf_L_setting {d : Nat} (hd : 1 ≤ d) {a1 : Nat} {a2 : Int} {K N : Nat → Nat} {I : Nat → Nat → Int} {P : Nat → Nat → Option Nat} {z : Nat} {Q : am_V → am_T} (h :
  K a1 = 7 ∧ am_C (d - 1) m_X7_setting [am_r a1, am_i a2] K N I P z (fun v K1 N2 I3 P4 z5 => am_iv v fun x7 =>
    Q (am_i x7) K1 N2 I3 P4 z5) (fun ee K N I P z => am_hq ee [(0, -2000001)] (fun r => Q (am_i r) K N I P z))) :
  am_C d m_L_setting [am_r a1, am_i a2] K N I P z Q am_nx := by
  refine am_C_of ok_L_setting (fun v hv => am_v1all _ rfl v hv) (Nat.le_of_ble_eq_true rfl) ?_
  show am_E d m_L_setting 0 0 0 [some (am_r a1), some (am_i a2), none] [] K N I P z Q am_nx
  refine e_aload_n dL_setting_0 rfl trivial ?_
  refine e_iload_n dL_setting_1 rfl ?_
  obtain ⟨hK6, h⟩ := h
  refine e_callV (Mc := m_X7_setting) (vs := [am_i a2]) (st := []) dL_setting_2 ok_X7_setting rfl ⟨by decide, rfl⟩ mk_L_66 im_X7_setting sl_X7_setting rfl rfl hK6 (by omega) (Nat.le_of_ble_eq_true rfl) (Nat.le_of_ble_eq_true rfl) (Nat.le_of_ble_eq_true rfl) (am_xh_hq hn_L_setting_2 (by decide) (by decide)) (am_C_mono h (fun v K1 N2 I3 P4 z5 h => ?_) (fun _ _ _ _ _ _ h => h))
  replace h := am_iv_or h
  obtain ⟨x7, rfl, h⟩ := h
  show am_E d m_L_setting 5 _ _ _ [am_i x7] K1 N2 I3 P4 z5 Q am_nx
  exact e_ret_i dL_setting_5 rfl (Nat.le_of_ble_eq_true rfl) (Nat.le_of_ble_eq_true rfl) h
set_option maxRecDepth 100000 in
theorem hn_L_routeAt_2 : ∀ q ∈ ([(1, -2000002)] : List (Nat × Int)), am_han m_L_routeAt 2 q.1 q.2 := List.forall_mem_cons.mpr ⟨⟨[], ⟨0, 5, 6, 18⟩, [], 6, 1, 2, rfl, (fun _ h => absurd h List.not_mem_nil), by decide, by decide, hk_18, by decide, rfl, by decide, Or.inr ⟨2, rfl, dL_routeAt_6, rfl⟩, ⟨20, dL_routeAt_7, lc_L_20⟩, dL_routeAt_9, rfl, by decide, by decide⟩, (fun _ h => absurd h List.not_mem_nil)⟩
set_option maxRecDepth 100000 in
set_option maxHeartbeats 4000000 in
theorem wf_L_routeAt {d : Nat} (hd : 1 ≤ d) {a1 : Nat} {a2 : Int} {K N : Nat → Nat} {I : Nat → Nat → Int} {P : Nat → Nat → Option Nat} {z : Nat} {Q : am_V → am_T} (h :
  K a1 = 7 ∧ am_C (d - 1) m_X7_routeAt [am_r a1, am_i a2] K N I P z (fun v K1 N2 I3 P4 z5 => am_iv v fun x7 =>
    Q (am_i x7) K1 N2 I3 P4 z5) (fun ee K N I P z => am_hq ee [(1, -2000002)] (fun r => Q (am_i r) K N I P z))) :
  am_C d m_L_routeAt [am_r a1, am_i a2] K N I P z Q am_nx := by
  refine am_C_of ok_L_routeAt (fun v hv => am_v1all _ rfl v hv) (Nat.le_of_ble_eq_true rfl) ?_
  show am_E d m_L_routeAt 0 0 0 [some (am_r a1), some (am_i a2), none] [] K N I P z Q am_nx
  refine e_aload_n dL_routeAt_0 rfl trivial ?_
  refine e_iload_n dL_routeAt_1 rfl ?_
  obtain ⟨hK6, h⟩ := h
  refine e_callV (Mc := m_X7_routeAt) (vs := [am_i a2]) (st := []) dL_routeAt_2 ok_X7_routeAt rfl ⟨by decide, rfl⟩ mk_L_69 im_X7_routeAt sl_X7_routeAt rfl rfl hK6 (by omega) (Nat.le_of_ble_eq_true rfl) (Nat.le_of_ble_eq_true rfl) (Nat.le_of_ble_eq_true rfl) (am_xh_hq hn_L_routeAt_2 (by decide) (by decide)) (am_C_mono h (fun v K1 N2 I3 P4 z5 h => ?_) (fun _ _ _ _ _ _ h => h))
  replace h := am_iv_or h
  obtain ⟨x7, rfl, h⟩ := h
  show am_E d m_L_routeAt 5 _ _ _ [am_i x7] K1 N2 I3 P4 z5 Q am_nx
  exact e_ret_i dL_routeAt_5 rfl (Nat.le_of_ble_eq_true rfl) (Nat.le_of_ble_eq_true rfl) h
set_option maxRecDepth 100000 in
theorem hn_L_gapAhead_2 : ∀ q ∈ ([(0, -2000001), (2, -2000003)] : List (Nat × Int)), am_han m_L_gapAhead 2 q.1 q.2 := List.forall_mem_cons.mpr ⟨⟨[], ⟨0, 5, 6, 15⟩, [⟨0, 5, 10, 21⟩], 6, 1, 2, rfl, (fun _ h => absurd h List.not_mem_nil), by decide, by decide, hk_15, by decide, rfl, by decide, Or.inr ⟨2, rfl, dL_gapAhead_6, rfl⟩, ⟨17, dL_gapAhead_7, lc_L_17⟩, dL_gapAhead_9, rfl, by decide, by decide⟩, List.forall_mem_cons.mpr ⟨⟨[⟨0, 5, 6, 15⟩], ⟨0, 5, 10, 21⟩, [], 10, 1, 2, rfl, List.forall_mem_cons.mpr ⟨Or.inr ⟨by decide, _, hk_15, by decide⟩, (fun _ h => absurd h List.not_mem_nil)⟩, by decide, by decide, hk_21, by decide, rfl, by decide, Or.inr ⟨2, rfl, dL_gapAhead_10, rfl⟩, ⟨23, dL_gapAhead_11, lc_L_23⟩, dL_gapAhead_13, rfl, by decide, by decide⟩, (fun _ h => absurd h List.not_mem_nil)⟩⟩
set_option maxRecDepth 100000 in
set_option maxHeartbeats 4000000 in
theorem wf_L_gapAhead {d : Nat} (hd : 1 ≤ d) {a1 : Nat} {a2 : Int} {K N : Nat → Nat} {I : Nat → Nat → Int} {P : Nat → Nat → Option Nat} {z : Nat} {Q : am_V → am_T} (h :
  K a1 = 7 ∧ am_C (d - 1) m_X7_gapAhead [am_r a1, am_i a2] K N I P z (fun v K1 N2 I3 P4 z5 => am_iv v fun x7 =>
    Q (am_i x7) K1 N2 I3 P4 z5) (fun ee K N I P z => am_hq ee [(0, -2000001), (2, -2000003)] (fun r => Q (am_i r) K N I P z))) :
  am_C d m_L_gapAhead [am_r a1, am_i a2] K N I P z Q am_nx := by
  refine am_C_of ok_L_gapAhead (fun v hv => am_v1all _ rfl v hv) (Nat.le_of_ble_eq_true rfl) ?_
  show am_E d m_L_gapAhead 0 0 0 [some (am_r a1), some (am_i a2), none] [] K N I P z Q am_nx
  refine e_aload_n dL_gapAhead_0 rfl trivial ?_
  refine e_iload_n dL_gapAhead_1 rfl ?_
  obtain ⟨hK6, h⟩ := h
  refine e_callV (Mc := m_X7_gapAhead) (vs := [am_i a2]) (st := []) dL_gapAhead_2 ok_X7_gapAhead rfl ⟨by decide, rfl⟩ mk_L_72 im_X7_gapAhead sl_X7_gapAhead rfl rfl hK6 (by omega) (Nat.le_of_ble_eq_true rfl) (Nat.le_of_ble_eq_true rfl) (Nat.le_of_ble_eq_true rfl) (am_xh_hq hn_L_gapAhead_2 (by decide) (by decide)) (am_C_mono h (fun v K1 N2 I3 P4 z5 h => ?_) (fun _ _ _ _ _ _ h => h))
  replace h := am_iv_or h
  obtain ⟨x7, rfl, h⟩ := h
  show am_E d m_L_gapAhead 5 _ _ _ [am_i x7] K1 N2 I3 P4 z5 Q am_nx
  exact e_ret_i dL_gapAhead_5 rfl (Nat.le_of_ble_eq_true rfl) (Nat.le_of_ble_eq_true rfl) h
set_option maxRecDepth 100000 in
theorem hn_L_ranked_2 : ∀ q ∈ ([(1, -2000002)] : List (Nat × Int)), am_han m_L_ranked 2 q.1 q.2 := List.forall_mem_cons.mpr ⟨⟨[], ⟨0, 5, 6, 18⟩, [], 6, 1, 2, rfl, (fun _ h => absurd h List.not_mem_nil), by decide, by decide, hk_18, by decide, rfl, by decide, Or.inr ⟨2, rfl, dL_ranked_6, rfl⟩, ⟨20, dL_ranked_7, lc_L_20⟩, dL_ranked_9, rfl, by decide, by decide⟩, (fun _ h => absurd h List.not_mem_nil)⟩
set_option maxRecDepth 100000 in
set_option maxHeartbeats 4000000 in
theorem wf_L_ranked {d : Nat} (hd : 1 ≤ d) {a1 : Nat} {a2 : Int} {K N : Nat → Nat} {I : Nat → Nat → Int} {P : Nat → Nat → Option Nat} {z : Nat} {Q : am_V → am_T} (h :
  K a1 = 7 ∧ am_C (d - 1) m_X7_ranked [am_r a1, am_i a2] K N I P z (fun v K1 N2 I3 P4 z5 => am_iv v fun x7 =>
    Q (am_i x7) K1 N2 I3 P4 z5) (fun ee K N I P z => am_hq ee [(1, -2000002)] (fun r => Q (am_i r) K N I P z))) :
  am_C d m_L_ranked [am_r a1, am_i a2] K N I P z Q am_nx := by
  refine am_C_of ok_L_ranked (fun v hv => am_v1all _ rfl v hv) (Nat.le_of_ble_eq_true rfl) ?_
  show am_E d m_L_ranked 0 0 0 [some (am_r a1), some (am_i a2), none] [] K N I P z Q am_nx
  refine e_aload_n dL_ranked_0 rfl trivial ?_
  refine e_iload_n dL_ranked_1 rfl ?_
  obtain ⟨hK6, h⟩ := h
  refine e_callV (Mc := m_X7_ranked) (vs := [am_i a2]) (st := []) dL_ranked_2 ok_X7_ranked rfl ⟨by decide, rfl⟩ mk_L_75 im_X7_ranked sl_X7_ranked rfl rfl hK6 (by omega) (Nat.le_of_ble_eq_true rfl) (Nat.le_of_ble_eq_true rfl) (Nat.le_of_ble_eq_true rfl) (am_xh_hq hn_L_ranked_2 (by decide) (by decide)) (am_C_mono h (fun v K1 N2 I3 P4 z5 h => ?_) (fun _ _ _ _ _ _ h => h))
  replace h := am_iv_or h
  obtain ⟨x7, rfl, h⟩ := h
  show am_E d m_L_ranked 5 _ _ _ [am_i x7] K1 N2 I3 P4 z5 Q am_nx
  exact e_ret_i dL_ranked_5 rfl (Nat.le_of_ble_eq_true rfl) (Nat.le_of_ble_eq_true rfl) h
set_option maxRecDepth 100000 in
theorem hn_L_fateOf_2 : ∀ q ∈ ([(0, -2000001)] : List (Nat × Int)), am_han m_L_fateOf 2 q.1 q.2 := List.forall_mem_cons.mpr ⟨⟨[], ⟨0, 5, 6, 15⟩, [], 6, 1, 2, rfl, (fun _ h => absurd h List.not_mem_nil), by decide, by decide, hk_15, by decide, rfl, by decide, Or.inr ⟨2, rfl, dL_fateOf_6, rfl⟩, ⟨17, dL_fateOf_7, lc_L_17⟩, dL_fateOf_9, rfl, by decide, by decide⟩, (fun _ h => absurd h List.not_mem_nil)⟩
set_option maxRecDepth 100000 in
set_option maxHeartbeats 4000000 in
theorem wf_L_fateOf {d : Nat} (hd : 1 ≤ d) {a1 : Nat} {a2 : Int} {K N : Nat → Nat} {I : Nat → Nat → Int} {P : Nat → Nat → Option Nat} {z : Nat} {Q : am_V → am_T} (h :
  K a1 = 7 ∧ am_C (d - 1) m_X7_fateOf [am_r a1, am_i a2] K N I P z (fun v K1 N2 I3 P4 z5 => am_iv v fun x7 =>
    Q (am_i x7) K1 N2 I3 P4 z5) (fun ee K N I P z => am_hq ee [(0, -2000001)] (fun r => Q (am_i r) K N I P z))) :
  am_C d m_L_fateOf [am_r a1, am_i a2] K N I P z Q am_nx := by
  refine am_C_of ok_L_fateOf (fun v hv => am_v1all _ rfl v hv) (Nat.le_of_ble_eq_true rfl) ?_
  show am_E d m_L_fateOf 0 0 0 [some (am_r a1), some (am_i a2), none] [] K N I P z Q am_nx
  refine e_aload_n dL_fateOf_0 rfl trivial ?_
  refine e_iload_n dL_fateOf_1 rfl ?_
  obtain ⟨hK6, h⟩ := h
  refine e_callV (Mc := m_X7_fateOf) (vs := [am_i a2]) (st := []) dL_fateOf_2 ok_X7_fateOf rfl ⟨by decide, rfl⟩ mk_L_78 im_X7_fateOf sl_X7_fateOf rfl rfl hK6 (by omega) (Nat.le_of_ble_eq_true rfl) (Nat.le_of_ble_eq_true rfl) (Nat.le_of_ble_eq_true rfl) (am_xh_hq hn_L_fateOf_2 (by decide) (by decide)) (am_C_mono h (fun v K1 N2 I3 P4 z5 h => ?_) (fun _ _ _ _ _ _ h => h))
  replace h := am_iv_or h
  obtain ⟨x7, rfl, h⟩ := h
  show am_E d m_L_fateOf 5 _ _ _ [am_i x7] K1 N2 I3 P4 z5 Q am_nx
  exact e_ret_i dL_fateOf_5 rfl (Nat.le_of_ble_eq_true rfl) (Nat.le_of_ble_eq_true rfl) h
set_option maxRecDepth 100000 in
theorem hn_L_laneFor_3 : ∀ q ∈ ([(1, -2000002)] : List (Nat × Int)), am_han m_L_laneFor 3 q.1 q.2 := List.forall_mem_cons.mpr ⟨⟨[], ⟨0, 6, 7, 18⟩, [], 7, 1, 3, rfl, (fun _ h => absurd h List.not_mem_nil), by decide, by decide, hk_18, by decide, rfl, by decide, Or.inr ⟨3, rfl, dL_laneFor_7, rfl⟩, ⟨20, dL_laneFor_8, lc_L_20⟩, dL_laneFor_10, rfl, by decide, by decide⟩, (fun _ h => absurd h List.not_mem_nil)⟩
set_option maxRecDepth 100000 in
set_option maxHeartbeats 4000000 in
theorem wf_L_laneFor {d : Nat} (hd : 1 ≤ d) {a1 : Nat} {a2 : Int} {a3 : Int} {K N : Nat → Nat} {I : Nat → Nat → Int} {P : Nat → Nat → Option Nat} {z : Nat} {Q : am_V → am_T} (h :
  K a1 = 7 ∧ am_C (d - 1) m_X7_laneFor [am_r a1, am_i a2, am_i a3] K N I P z (fun v K1 N2 I3 P4 z5 => am_iv v fun x7 =>
    Q (am_i x7) K1 N2 I3 P4 z5) (fun ee K N I P z => am_hq ee [(1, -2000002)] (fun r => Q (am_i r) K N I P z))) :
  am_C d m_L_laneFor [am_r a1, am_i a2, am_i a3] K N I P z Q am_nx := by
  refine am_C_of ok_L_laneFor (fun v hv => am_v1all _ rfl v hv) (Nat.le_of_ble_eq_true rfl) ?_
  show am_E d m_L_laneFor 0 0 0 [some (am_r a1), some (am_i a2), some (am_i a3), none] [] K N I P z Q am_nx
  refine e_aload_n dL_laneFor_0 rfl trivial ?_
  refine e_iload_n dL_laneFor_1 rfl ?_
  refine e_iload_n dL_laneFor_2 rfl ?_
  obtain ⟨hK6, h⟩ := h
  refine e_callV (Mc := m_X7_laneFor) (vs := [am_i a2, am_i a3]) (st := []) dL_laneFor_3 ok_X7_laneFor rfl ⟨by decide, rfl⟩ mk_L_81 im_X7_laneFor sl_X7_laneFor rfl rfl hK6 (by omega) (Nat.le_of_ble_eq_true rfl) (Nat.le_of_ble_eq_true rfl) (Nat.le_of_ble_eq_true rfl) (am_xh_hq hn_L_laneFor_3 (by decide) (by decide)) (am_C_mono h (fun v K1 N2 I3 P4 z5 h => ?_) (fun _ _ _ _ _ _ h => h))
  replace h := am_iv_or h
  obtain ⟨x7, rfl, h⟩ := h
  show am_E d m_L_laneFor 6 _ _ _ [am_i x7] K1 N2 I3 P4 z5 Q am_nx
  exact e_ret_i dL_laneFor_6 rfl (Nat.le_of_ble_eq_true rfl) (Nat.le_of_ble_eq_true rfl) h
set_option maxRecDepth 100000 in
set_option maxHeartbeats 4000000 in
theorem wf_L_change {d : Nat} (hd : 1 ≤ d) {a1 : Nat} {a2 : Int} {a3 : Int} {K N : Nat → Nat} {I : Nat → Nat → Int} {P : Nat → Nat → Option Nat} {z : Nat} {Q : am_V → am_T} (h :
  am_C (d - 1) m_L_low [am_i a2, am_i 24] K N I P z (fun v K1 N2 I3 P4 z5 => am_iv v fun x6 =>
    ((x6 = 0 →
    am_C (d - 1) m_L_low [am_i a3, am_i 7] K1 N2 I3 P4 z5 (fun v K7 N8 I9 P10 z11 => am_iv v fun x12 =>
      am_C (d - 1) m_L_low [am_i (am_wr (Int.tdiv a3 7)), am_i 400] K7 N8 I9 P10 z11 (fun v K13 N14 I15 P16 z17 => am_iv v fun x18 =>
      am_C (d - 1) m_L_set [am_r a1, am_i x12, am_i x18] K13 N14 I15 P16 z17 (fun v K19 N20 I21 P22 z23 => am_iv v fun x24 =>
      Q (am_i x24) K19 N20 I21 P22 z23) am_nx) am_nx) am_nx) ∧
    (x6 = 1 →
    am_C (d - 1) m_L_low [am_i a3, am_i 500] K1 N2 I3 P4 z5 (fun v K25 N26 I27 P28 z29 => am_iv v fun x30 =>
      am_C (d - 1) m_L_low [am_i (am_wr (Int.tdiv a3 500)), am_i 201] K25 N26 I27 P28 z29 (fun v K31 N32 I33 P34 z35 => am_iv v fun x36 =>
      am_C (d - 1) m_L_low [am_i (am_wr (Int.tdiv a3 99)), am_i 5] K31 N32 I33 P34 z35 (fun v K37 N38 I39 P40 z41 => am_iv v fun x42 =>
      am_C (d - 1) m_L_addLane [am_r a1, am_i (am_wr (320 + x30)), am_i (am_wr (1 + x36)), am_i x42] K37 N38 I39 P40 z41 (fun v K43 N44 I45 P46 z47 => am_iv v fun x48 =>
      Q (am_i x48) K43 N44 I45 P46 z47) am_nx) am_nx) am_nx) am_nx) ∧
    (x6 = 2 →
    am_C (d - 1) m_L_low [am_i a3, am_i 500] K1 N2 I3 P4 z5 (fun v K49 N50 I51 P52 z53 => am_iv v fun x54 =>
      am_C (d - 1) m_L_low [am_i (am_wr (Int.tdiv a3 500)), am_i 201] K49 N50 I51 P52 z53 (fun v K55 N56 I57 P58 z59 => am_iv v fun x60 =>
      am_C (d - 1) m_L_low [am_i (am_wr (Int.tdiv a3 99)), am_i 5] K55 N56 I57 P58 z59 (fun v K61 N62 I63 P64 z65 => am_iv v fun x66 =>
      am_C (d - 1) m_L_addLane [am_r a1, am_i (am_wr (320 + x54)), am_i (am_wr (1 + x60)), am_i x66] K61 N62 I63 P64 z65 (fun v K67 N68 I69 P70 z71 => am_iv v fun x72 =>
      Q (am_i x72) K67 N68 I69 P70 z71) am_nx) am_nx) am_nx) am_nx) ∧
    (x6 = 3 →
    am_C (d - 1) m_L_low [am_i a3, am_i 4] K1 N2 I3 P4 z5 (fun v K73 N74 I75 P76 z77 => am_iv v fun x78 =>
      am_C (d - 1) m_L_emptyLane [am_r a1, am_i x78] K73 N74 I75 P76 z77 (fun v K79 N80 I81 P82 z83 => am_iv v fun x84 =>
      Q (am_i x84) K79 N80 I81 P82 z83) am_nx) am_nx) ∧
    (x6 = 4 →
    am_C (d - 1) m_L_low [am_i a3, am_i 9] K1 N2 I3 P4 z5 (fun v K85 N86 I87 P88 z89 => am_iv v fun x90 =>
      ((¬ x90 = 0 →
      am_C (d - 1) m_L_low [am_i a3, am_i 6] K85 N86 I87 P88 z89 (fun v K91 N92 I93 P94 z95 => am_iv v fun x96 =>
        am_C (d - 1) m_L_low [am_i (am_wr (Int.tdiv a3 6)), am_i 5] K91 N92 I93 P94 z95 (fun v K97 N98 I99 P100 z101 => am_iv v fun x102 =>
        am_C (d - 1) m_L_route [am_r a1, am_i x96, am_i x102] K97 N98 I99 P100 z101 (fun v K103 N104 I105 P106 z107 => am_iv v fun x108 =>
        Q (am_i x108) K103 N104 I105 P106 z107) am_nx) am_nx) am_nx) ∧
      (x90 = 0 →
      am_C (d - 1) m_L_low [am_i (am_wr (Int.tdiv a3 6)), am_i 5] K85 N86 I87 P88 z89 (fun v K109 N110 I111 P112 z113 => am_iv v fun x114 =>
        am_C (d - 1) m_L_route [am_r a1, am_i 1000, am_i x114] K109 N110 I111 P112 z113 (fun v K115 N116 I117 P118 z119 => am_iv v fun x120 =>
        Q (am_i x120) K115 N116 I117 P118 z119) am_nx) am_nx))) am_nx) ∧
    (x6 = 5 →
    am_C (d - 1) m_L_low [am_i a3, am_i 9] K1 N2 I3 P4 z5 (fun v K121 N122 I123 P124 z125 => am_iv v fun x126 =>
      ((¬ x126 = 0 →
      am_C (d - 1) m_L_low [am_i a3, am_i 6] K121 N122 I123 P124 z125 (fun v K127 N128 I129 P130 z131 => am_iv v fun x132 =>
        am_C (d - 1) m_L_low [am_i (am_wr (Int.tdiv a3 6)), am_i 5] K127 N128 I129 P130 z131 (fun v K133 N134 I135 P136 z137 => am_iv v fun x138 =>
        am_C (d - 1) m_L_route [am_r a1, am_i x132, am_i x138] K133 N134 I135 P136 z137 (fun v K139 N140 I141 P142 z143 => am_iv v fun x144 =>
        Q (am_i x144) K139 N140 I141 P142 z143) am_nx) am_nx) am_nx) ∧
      (x126 = 0 →
      am_C (d - 1) m_L_low [am_i (am_wr (Int.tdiv a3 6)), am_i 5] K121 N122 I123 P124 z125 (fun v K145 N146 I147 P148 z149 => am_iv v fun x150 =>
        am_C (d - 1) m_L_route [am_r a1, am_i 1000, am_i x150] K145 N146 I147 P148 z149 (fun v K151 N152 I153 P154 z155 => am_iv v fun x156 =>
        Q (am_i x156) K151 N152 I153 P154 z155) am_nx) am_nx))) am_nx) ∧
    (x6 = 6 →
    am_C (d - 1) m_L_low [am_i a3, am_i 9] K1 N2 I3 P4 z5 (fun v K157 N158 I159 P160 z161 => am_iv v fun x162 =>
      ((¬ x162 = 0 →
      am_C (d - 1) m_L_low [am_i a3, am_i 6] K157 N158 I159 P160 z161 (fun v K163 N164 I165 P166 z167 => am_iv v fun x168 =>
        am_C (d - 1) m_L_low [am_i (am_wr (Int.tdiv a3 6)), am_i 5] K163 N164 I165 P166 z167 (fun v K169 N170 I171 P172 z173 => am_iv v fun x174 =>
        am_C (d - 1) m_L_route [am_r a1, am_i x168, am_i x174] K169 N170 I171 P172 z173 (fun v K175 N176 I177 P178 z179 => am_iv v fun x180 =>
        Q (am_i x180) K175 N176 I177 P178 z179) am_nx) am_nx) am_nx) ∧
      (x162 = 0 →
      am_C (d - 1) m_L_low [am_i (am_wr (Int.tdiv a3 6)), am_i 5] K157 N158 I159 P160 z161 (fun v K181 N182 I183 P184 z185 => am_iv v fun x186 =>
        am_C (d - 1) m_L_route [am_r a1, am_i 1000, am_i x186] K181 N182 I183 P184 z185 (fun v K187 N188 I189 P190 z191 => am_iv v fun x192 =>
        Q (am_i x192) K187 N188 I189 P190 z191) am_nx) am_nx))) am_nx) ∧
    (x6 = 7 →
    am_C (d - 1) m_L_low [am_i a3, am_i 6] K1 N2 I3 P4 z5 (fun v K193 N194 I195 P196 z197 => am_iv v fun x198 =>
      am_C (d - 1) m_L_removeRoute [am_r a1, am_i x198] K193 N194 I195 P196 z197 (fun v K199 N200 I201 P202 z203 => am_iv v fun x204 =>
      Q (am_i x204) K199 N200 I201 P202 z203) am_nx) am_nx) ∧
    (x6 = 8 →
    am_C (d - 1) m_L_low [am_i a3, am_i 90] K1 N2 I3 P4 z5 (fun v K205 N206 I207 P208 z209 => am_iv v fun x210 =>
      am_C (d - 1) m_L_enter [am_r a1, am_i (am_wr (9 + x210))] K205 N206 I207 P208 z209 (fun v K211 N212 I213 P214 z215 => am_iv v fun x216 =>
      Q (am_i x216) K211 N212 I213 P214 z215) am_nx) am_nx) ∧
    (x6 = 9 →
    am_C (d - 1) m_L_low [am_i a3, am_i 90] K1 N2 I3 P4 z5 (fun v K217 N218 I219 P220 z221 => am_iv v fun x222 =>
      am_C (d - 1) m_L_enter [am_r a1, am_i (am_wr (9 + x222))] K217 N218 I219 P220 z221 (fun v K223 N224 I225 P226 z227 => am_iv v fun x228 =>
      Q (am_i x228) K223 N224 I225 P226 z227) am_nx) am_nx) ∧
    (x6 = 10 →
    am_C (d - 1) m_L_low [am_i a3, am_i 90] K1 N2 I3 P4 z5 (fun v K229 N230 I231 P232 z233 => am_iv v fun x234 =>
      am_C (d - 1) m_L_enter [am_r a1, am_i (am_wr (9 + x234))] K229 N230 I231 P232 z233 (fun v K235 N236 I237 P238 z239 => am_iv v fun x240 =>
      Q (am_i x240) K235 N236 I237 P238 z239) am_nx) am_nx) ∧
    (x6 = 11 →
    am_C (d - 1) m_L_low [am_i a3, am_i 90] K1 N2 I3 P4 z5 (fun v K241 N242 I243 P244 z245 => am_iv v fun x246 =>
      am_C (d - 1) m_L_enter [am_r a1, am_i (am_wr (9 + x246))] K241 N242 I243 P244 z245 (fun v K247 N248 I249 P250 z251 => am_iv v fun x252 =>
      Q (am_i x252) K247 N248 I249 P250 z251) am_nx) am_nx) ∧
    (x6 = 12 →
    am_C (d - 1) m_L_low [am_i a3, am_i 90] K1 N2 I3 P4 z5 (fun v K253 N254 I255 P256 z257 => am_iv v fun x258 =>
      am_C (d - 1) m_L_enter [am_r a1, am_i (am_wr (9 + x258))] K253 N254 I255 P256 z257 (fun v K259 N260 I261 P262 z263 => am_iv v fun x264 =>
      Q (am_i x264) K259 N260 I261 P262 z263) am_nx) am_nx) ∧
    (x6 = 13 →
    am_C (d - 1) m_L_low [am_i a3, am_i 6] K1 N2 I3 P4 z5 (fun v K265 N266 I267 P268 z269 => am_iv v fun x270 =>
      am_C (d - 1) m_L_read [am_r a1, am_i x270] K265 N266 I267 P268 z269 (fun v K271 N272 I273 P274 z275 => am_iv v fun x276 =>
      Q (am_i x276) K271 N272 I273 P274 z275) am_nx) am_nx) ∧
    (x6 = 14 →
    am_C (d - 1) m_L_low [am_i a3, am_i 6] K1 N2 I3 P4 z5 (fun v K277 N278 I279 P280 z281 => am_iv v fun x282 =>
      am_C (d - 1) m_L_read [am_r a1, am_i x282] K277 N278 I279 P280 z281 (fun v K283 N284 I285 P286 z287 => am_iv v fun x288 =>
      Q (am_i x288) K283 N284 I285 P286 z287) am_nx) am_nx) ∧
    (x6 = 15 →
    am_C (d - 1) m_L_low [am_i a3, am_i 6] K1 N2 I3 P4 z5 (fun v K289 N290 I291 P292 z293 => am_iv v fun x294 =>
      am_C (d - 1) m_L_read [am_r a1, am_i x294] K289 N290 I291 P292 z293 (fun v K295 N296 I297 P298 z299 => am_iv v fun x300 =>
      Q (am_i x300) K295 N296 I297 P298 z299) am_nx) am_nx) ∧
    (x6 = 16 →
    am_C (d - 1) m_L_low [am_i a3, am_i 6] K1 N2 I3 P4 z5 (fun v K301 N302 I303 P304 z305 => am_iv v fun x306 =>
      am_C (d - 1) m_L_read [am_r a1, am_i x306] K301 N302 I303 P304 z305 (fun v K307 N308 I309 P310 z311 => am_iv v fun x312 =>
      Q (am_i x312) K307 N308 I309 P310 z311) am_nx) am_nx) ∧
    (x6 = 17 →
    am_C (d - 1) m_L_low [am_i a3, am_i 12] K1 N2 I3 P4 z5 (fun v K313 N314 I315 P316 z317 => am_iv v fun x318 =>
      am_C (d - 1) m_L_takeOff [am_r a1, am_i x318] K313 N314 I315 P316 z317 (fun v K319 N320 I321 P322 z323 => am_iv v fun x324 =>
      Q (am_i x324) K319 N320 I321 P322 z323) am_nx) am_nx) ∧
    (x6 = 18 →
    am_C (d - 1) m_L_undo [am_r a1] K1 N2 I3 P4 z5 (fun v K325 N326 I327 P328 z329 => am_iv v fun x330 =>
      Q (am_i x330) K325 N326 I327 P328 z329) am_nx) ∧
    ((x6 < 0 ∨ 18 < x6) →
    am_C (d - 1) m_L_low [am_i a3, am_i 5] K1 N2 I3 P4 z5 (fun v K331 N332 I333 P334 z335 => am_iv v fun x336 =>
      ((¬ x336 = 0 →
      am_C (d - 1) m_L_low [am_i (am_wr (Int.tdiv a3 5)), am_i 90] K331 N332 I333 P334 z335 (fun v K337 N338 I339 P340 z341 => am_iv v fun x342 =>
        am_C (d - 1) m_L_move [am_r a1, am_i (am_wr (1 + x342))] K337 N338 I339 P340 z341 (fun v K343 N344 I345 P346 z347 => am_iv v fun x348 =>
        Q (am_i x348) K343 N344 I345 P346 z347) am_nx) am_nx) ∧
      (x336 = 0 →
      am_C (d - 1) m_L_low [am_i (am_wr (Int.tdiv a3 5)), am_i 500] K331 N332 I333 P334 z335 (fun v K349 N350 I351 P352 z353 => am_iv v fun x354 =>
        am_C (d - 1) m_L_move [am_r a1, am_i (am_wr (1 + x354))] K349 N350 I351 P352 z353 (fun v K355 N356 I357 P358 z359 => am_iv v fun x360 =>
        Q (am_i x360) K355 N356 I357 P358 z359) am_nx) am_nx))) am_nx))) am_nx) :
  am_C d m_L_change [am_r a1, am_i a2, am_i a3] K N I P z Q am_nx := by
  refine am_C_of ok_L_change (fun v hv => am_v1all _ rfl v hv) (Nat.le_of_ble_eq_true rfl) ?_
  show am_E d m_L_change 0 0 0 [some (am_r a1), some (am_i a2), some (am_i a3)] [] K N I P z Q am_nx
  refine e_iload_n dL_change_0 rfl ?_
  refine e_bipush dL_change_1 ?_
  refine e_callS (Mc := m_L_low) (vs := [am_i a2, am_i 24]) (st := []) dL_change_3 ok_L_low rfl mk_L_84 sm_L_low rfl rfl (by omega) (Nat.le_of_ble_eq_true rfl) (Nat.le_of_ble_eq_true rfl) (Nat.le_of_ble_eq_true rfl) am_xh_nx (am_C_mono h (fun v K1 N2 I3 P4 z5 h => ?_) (fun _ _ _ _ _ _ h => h))
  replace h := am_iv_or h
  obtain ⟨x6, rfl, h⟩ := h
  show am_E d m_L_change 6 _ _ _ [am_i x6] K1 N2 I3 P4 z5 Q am_nx
  refine e_tsw dL_change_6 (by decide) (by decide) (by decide) ?_ ?_
  · refine ⟨fun hc => ?_, ⟨fun hc => ?_, ⟨fun hc => ?_, ⟨fun hc => ?_, ⟨fun hc => ?_, ⟨fun hc => ?_, ⟨fun hc => ?_, ⟨fun hc => ?_, ⟨fun hc => ?_, ⟨fun hc => ?_, ⟨fun hc => ?_, ⟨fun hc => ?_, ⟨fun hc => ?_, ⟨fun hc => ?_, ⟨fun hc => ?_, ⟨fun hc => ?_, ⟨fun hc => ?_, ⟨fun hc => ?_, ⟨fun hc => ?_, trivial⟩⟩⟩⟩⟩⟩⟩⟩⟩⟩⟩⟩⟩⟩⟩⟩⟩⟩⟩
    · have h := h.1 (by omega)
      show am_E _ _ 96 _ _ _ _ _ _ _ _ _ _ _
      refine e_aload_n dL_change_96 rfl trivial ?_
      refine e_iload_n dL_change_97 rfl ?_
      refine e_bipush dL_change_98 ?_
      refine e_callS (Mc := m_L_low) (vs := [am_i a3, am_i 7]) (st := [am_r a1]) dL_change_100 ok_L_low rfl mk_L_84 sm_L_low rfl rfl (by omega) (Nat.le_of_ble_eq_true rfl) (Nat.le_of_ble_eq_true rfl) (Nat.le_of_ble_eq_true rfl) am_xh_nx (am_C_mono h (fun v K7 N8 I9 P10 z11 h => ?_) (fun _ _ _ _ _ _ h => h))
      replace h := am_iv_or h
      obtain ⟨x12, rfl, h⟩ := h
      show am_E d m_L_change 103 _ _ _ [am_i x12, am_r a1] K7 N8 I9 P10 z11 Q am_nx
      refine e_iload_n dL_change_103 rfl ?_
      refine e_bipush dL_change_104 ?_
      refine e_idiv dL_change_106 (by decide) ?_
      refine e_sipush dL_change_107 ?_
      refine e_callS (Mc := m_L_low) (vs := [am_i (am_wr (Int.tdiv a3 7)), am_i 400]) (st := [am_i x12, am_r a1]) dL_change_110 ok_L_low rfl mk_L_84 sm_L_low rfl rfl (by omega) (Nat.le_of_ble_eq_true rfl) (Nat.le_of_ble_eq_true rfl) (Nat.le_of_ble_eq_true rfl) am_xh_nx (am_C_mono h (fun v K13 N14 I15 P16 z17 h => ?_) (fun _ _ _ _ _ _ h => h))
      replace h := am_iv_or h
      obtain ⟨x18, rfl, h⟩ := h
      show am_E d m_L_change 113 _ _ _ [am_i x18, am_i x12, am_r a1] K13 N14 I15 P16 z17 Q am_nx
      refine e_callSX (Mc := m_L_set) (vs := [am_r a1, am_i x12, am_i x18]) (st := []) dL_change_113 ok_L_set rfl mk_L_89 sm_L_set rfl rfl (by omega) (Nat.le_of_ble_eq_true rfl) (Nat.le_of_ble_eq_true rfl) (Nat.le_of_ble_eq_true rfl) am_xh_nx (am_C_mono h (fun v K19 N20 I21 P22 z23 h => ?_) (fun _ _ _ _ _ _ h => h))
      replace h := am_iv_or h
      obtain ⟨x24, rfl, h⟩ := h
      show am_E d m_L_change 116 _ _ _ [am_i x24] K19 N20 I21 P22 z23 Q am_nx
      exact e_ret_i dL_change_116 rfl (Nat.le_of_ble_eq_true rfl) (Nat.le_of_ble_eq_true rfl) h
    · have h := h.2.1 (by omega)
      show am_E _ _ 117 _ _ _ _ _ _ _ _ _ _ _
      refine e_aload_n dL_change_117 rfl trivial ?_
      refine e_sipush dL_change_118 ?_
      refine e_iload_n dL_change_121 rfl ?_
      refine e_sipush dL_change_122 ?_
      refine e_callS (Mc := m_L_low) (vs := [am_i a3, am_i 500]) (st := [am_i 320, am_r a1]) dL_change_125 ok_L_low rfl mk_L_84 sm_L_low rfl rfl (by omega) (Nat.le_of_ble_eq_true rfl) (Nat.le_of_ble_eq_true rfl) (Nat.le_of_ble_eq_true rfl) am_xh_nx (am_C_mono h (fun v K25 N26 I27 P28 z29 h => ?_) (fun _ _ _ _ _ _ h => h))
      replace h := am_iv_or h
      obtain ⟨x30, rfl, h⟩ := h
      show am_E d m_L_change 128 _ _ _ [am_i x30, am_i 320, am_r a1] K25 N26 I27 P28 z29 Q am_nx
      refine e_iadd dL_change_128 ?_
      refine e_iconst dL_change_129 ?_
      refine e_iload_n dL_change_130 rfl ?_
      refine e_sipush dL_change_131 ?_
      refine e_idiv dL_change_134 (by decide) ?_
      refine e_sipush dL_change_135 ?_
      refine e_callS (Mc := m_L_low) (vs := [am_i (am_wr (Int.tdiv a3 500)), am_i 201]) (st := [am_i 1, am_i (am_wr (320 + x30)), am_r a1]) dL_change_138 ok_L_low rfl mk_L_84 sm_L_low rfl rfl (by omega) (Nat.le_of_ble_eq_true rfl) (Nat.le_of_ble_eq_true rfl) (Nat.le_of_ble_eq_true rfl) am_xh_nx (am_C_mono h (fun v K31 N32 I33 P34 z35 h => ?_) (fun _ _ _ _ _ _ h => h))
      replace h := am_iv_or h
      obtain ⟨x36, rfl, h⟩ := h
      show am_E d m_L_change 141 _ _ _ [am_i x36, am_i 1, am_i (am_wr (320 + x30)), am_r a1] K31 N32 I33 P34 z35 Q am_nx
      refine e_iadd dL_change_141 ?_
      refine e_iload_n dL_change_142 rfl ?_
      refine e_bipush dL_change_143 ?_
      refine e_idiv dL_change_145 (by decide) ?_
      refine e_iconst dL_change_146 ?_
      refine e_callS (Mc := m_L_low) (vs := [am_i (am_wr (Int.tdiv a3 99)), am_i 5]) (st := [am_i (am_wr (1 + x36)), am_i (am_wr (320 + x30)), am_r a1]) dL_change_147 ok_L_low rfl mk_L_84 sm_L_low rfl rfl (by omega) (Nat.le_of_ble_eq_true rfl) (Nat.le_of_ble_eq_true rfl) (Nat.le_of_ble_eq_true rfl) am_xh_nx (am_C_mono h (fun v K37 N38 I39 P40 z41 h => ?_) (fun _ _ _ _ _ _ h => h))
      replace h := am_iv_or h
      obtain ⟨x42, rfl, h⟩ := h
      show am_E d m_L_change 150 _ _ _ [am_i x42, am_i (am_wr (1 + x36)), am_i (am_wr (320 + x30)), am_r a1] K37 N38 I39 P40 z41 Q am_nx
      refine e_callSX (Mc := m_L_addLane) (vs := [am_r a1, am_i (am_wr (320 + x30)), am_i (am_wr (1 + x36)), am_i x42]) (st := []) dL_change_150 ok_L_addLane rfl mk_L_92 sm_L_addLane rfl rfl (by omega) (Nat.le_of_ble_eq_true rfl) (Nat.le_of_ble_eq_true rfl) (Nat.le_of_ble_eq_true rfl) am_xh_nx (am_C_mono h (fun v K43 N44 I45 P46 z47 h => ?_) (fun _ _ _ _ _ _ h => h))
      replace h := am_iv_or h
      obtain ⟨x48, rfl, h⟩ := h
      show am_E d m_L_change 153 _ _ _ [am_i x48] K43 N44 I45 P46 z47 Q am_nx
      exact e_ret_i dL_change_153 rfl (Nat.le_of_ble_eq_true rfl) (Nat.le_of_ble_eq_true rfl) h
    · have h := h.2.2.1 (by omega)
      show am_E _ _ 117 _ _ _ _ _ _ _ _ _ _ _
      refine e_aload_n dL_change_117 rfl trivial ?_
      refine e_sipush dL_change_118 ?_
      refine e_iload_n dL_change_121 rfl ?_
      refine e_sipush dL_change_122 ?_
      refine e_callS (Mc := m_L_low) (vs := [am_i a3, am_i 500]) (st := [am_i 320, am_r a1]) dL_change_125 ok_L_low rfl mk_L_84 sm_L_low rfl rfl (by omega) (Nat.le_of_ble_eq_true rfl) (Nat.le_of_ble_eq_true rfl) (Nat.le_of_ble_eq_true rfl) am_xh_nx (am_C_mono h (fun v K49 N50 I51 P52 z53 h => ?_) (fun _ _ _ _ _ _ h => h))
      replace h := am_iv_or h
      obtain ⟨x54, rfl, h⟩ := h
      show am_E d m_L_change 128 _ _ _ [am_i x54, am_i 320, am_r a1] K49 N50 I51 P52 z53 Q am_nx
      refine e_iadd dL_change_128 ?_
      refine e_iconst dL_change_129 ?_
      refine e_iload_n dL_change_130 rfl ?_
      refine e_sipush dL_change_131 ?_
      refine e_idiv dL_change_134 (by decide) ?_
      refine e_sipush dL_change_135 ?_
      refine e_callS (Mc := m_L_low) (vs := [am_i (am_wr (Int.tdiv a3 500)), am_i 201]) (st := [am_i 1, am_i (am_wr (320 + x54)), am_r a1]) dL_change_138 ok_L_low rfl mk_L_84 sm_L_low rfl rfl (by omega) (Nat.le_of_ble_eq_true rfl) (Nat.le_of_ble_eq_true rfl) (Nat.le_of_ble_eq_true rfl) am_xh_nx (am_C_mono h (fun v K55 N56 I57 P58 z59 h => ?_) (fun _ _ _ _ _ _ h => h))
      replace h := am_iv_or h
      obtain ⟨x60, rfl, h⟩ := h
      show am_E d m_L_change 141 _ _ _ [am_i x60, am_i 1, am_i (am_wr (320 + x54)), am_r a1] K55 N56 I57 P58 z59 Q am_nx
      refine e_iadd dL_change_141 ?_
      refine e_iload_n dL_change_142 rfl ?_
      refine e_bipush dL_change_143 ?_
      refine e_idiv dL_change_145 (by decide) ?_
      refine e_iconst dL_change_146 ?_
      refine e_callS (Mc := m_L_low) (vs := [am_i (am_wr (Int.tdiv a3 99)), am_i 5]) (st := [am_i (am_wr (1 + x60)), am_i (am_wr (320 + x54)), am_r a1]) dL_change_147 ok_L_low rfl mk_L_84 sm_L_low rfl rfl (by omega) (Nat.le_of_ble_eq_true rfl) (Nat.le_of_ble_eq_true rfl) (Nat.le_of_ble_eq_true rfl) am_xh_nx (am_C_mono h (fun v K61 N62 I63 P64 z65 h => ?_) (fun _ _ _ _ _ _ h => h))
      replace h := am_iv_or h
      obtain ⟨x66, rfl, h⟩ := h
      show am_E d m_L_change 150 _ _ _ [am_i x66, am_i (am_wr (1 + x60)), am_i (am_wr (320 + x54)), am_r a1] K61 N62 I63 P64 z65 Q am_nx
      refine e_callSX (Mc := m_L_addLane) (vs := [am_r a1, am_i (am_wr (320 + x54)), am_i (am_wr (1 + x60)), am_i x66]) (st := []) dL_change_150 ok_L_addLane rfl mk_L_92 sm_L_addLane rfl rfl (by omega) (Nat.le_of_ble_eq_true rfl) (Nat.le_of_ble_eq_true rfl) (Nat.le_of_ble_eq_true rfl) am_xh_nx (am_C_mono h (fun v K67 N68 I69 P70 z71 h => ?_) (fun _ _ _ _ _ _ h => h))
      replace h := am_iv_or h
      obtain ⟨x72, rfl, h⟩ := h
      show am_E d m_L_change 153 _ _ _ [am_i x72] K67 N68 I69 P70 z71 Q am_nx
      exact e_ret_i dL_change_153 rfl (Nat.le_of_ble_eq_true rfl) (Nat.le_of_ble_eq_true rfl) h
    · have h := h.2.2.2.1 (by omega)
      show am_E _ _ 154 _ _ _ _ _ _ _ _ _ _ _
      refine e_aload_n dL_change_154 rfl trivial ?_
      refine e_iload_n dL_change_155 rfl ?_
      refine e_iconst dL_change_156 ?_
      refine e_callS (Mc := m_L_low) (vs := [am_i a3, am_i 4]) (st := [am_r a1]) dL_change_157 ok_L_low rfl mk_L_84 sm_L_low rfl rfl (by omega) (Nat.le_of_ble_eq_true rfl) (Nat.le_of_ble_eq_true rfl) (Nat.le_of_ble_eq_true rfl) am_xh_nx (am_C_mono h (fun v K73 N74 I75 P76 z77 h => ?_) (fun _ _ _ _ _ _ h => h))
      replace h := am_iv_or h
      obtain ⟨x78, rfl, h⟩ := h
      show am_E d m_L_change 160 _ _ _ [am_i x78, am_r a1] K73 N74 I75 P76 z77 Q am_nx
      refine e_callSX (Mc := m_L_emptyLane) (vs := [am_r a1, am_i x78]) (st := []) dL_change_160 ok_L_emptyLane rfl mk_L_95 sm_L_emptyLane rfl rfl (by omega) (Nat.le_of_ble_eq_true rfl) (Nat.le_of_ble_eq_true rfl) (Nat.le_of_ble_eq_true rfl) am_xh_nx (am_C_mono h (fun v K79 N80 I81 P82 z83 h => ?_) (fun _ _ _ _ _ _ h => h))
      replace h := am_iv_or h
      obtain ⟨x84, rfl, h⟩ := h
      show am_E d m_L_change 163 _ _ _ [am_i x84] K79 N80 I81 P82 z83 Q am_nx
      exact e_ret_i dL_change_163 rfl (Nat.le_of_ble_eq_true rfl) (Nat.le_of_ble_eq_true rfl) h
    · have h := h.2.2.2.2.1 (by omega)
      show am_E _ _ 164 _ _ _ _ _ _ _ _ _ _ _
      refine e_aload_n dL_change_164 rfl trivial ?_
      refine e_iload_n dL_change_165 rfl ?_
      refine e_bipush dL_change_166 ?_
      refine e_callS (Mc := m_L_low) (vs := [am_i a3, am_i 9]) (st := [am_r a1]) dL_change_168 ok_L_low rfl mk_L_84 sm_L_low rfl rfl (by omega) (Nat.le_of_ble_eq_true rfl) (Nat.le_of_ble_eq_true rfl) (Nat.le_of_ble_eq_true rfl) am_xh_nx (am_C_mono h (fun v K85 N86 I87 P88 z89 h => ?_) (fun _ _ _ _ _ _ h => h))
      replace h := am_iv_or h
      obtain ⟨x90, rfl, h⟩ := h
      show am_E d m_L_change 171 _ _ _ [am_i x90, am_r a1] K85 N86 I87 P88 z89 Q am_nx
      refine e_if_ne (tgt := 180) dL_change_171 (by decide) (fun hc => ?_) (fun hc => ?_)
      · replace h := h.1 hc
        refine e_iload_n dL_change_180 rfl ?_
        refine e_bipush dL_change_181 ?_
        refine e_callS (Mc := m_L_low) (vs := [am_i a3, am_i 6]) (st := [am_r a1]) dL_change_183 ok_L_low rfl mk_L_84 sm_L_low rfl rfl (by omega) (Nat.le_of_ble_eq_true rfl) (Nat.le_of_ble_eq_true rfl) (Nat.le_of_ble_eq_true rfl) am_xh_nx (am_C_mono h (fun v K91 N92 I93 P94 z95 h => ?_) (fun _ _ _ _ _ _ h => h))
        replace h := am_iv_or h
        obtain ⟨x96, rfl, h⟩ := h
        show am_E d m_L_change 186 _ _ _ [am_i x96, am_r a1] K91 N92 I93 P94 z95 Q am_nx
        refine e_iload_n dL_change_186 rfl ?_
        refine e_bipush dL_change_187 ?_
        refine e_idiv dL_change_189 (by decide) ?_
        refine e_iconst dL_change_190 ?_
        refine e_callS (Mc := m_L_low) (vs := [am_i (am_wr (Int.tdiv a3 6)), am_i 5]) (st := [am_i x96, am_r a1]) dL_change_191 ok_L_low rfl mk_L_84 sm_L_low rfl rfl (by omega) (Nat.le_of_ble_eq_true rfl) (Nat.le_of_ble_eq_true rfl) (Nat.le_of_ble_eq_true rfl) am_xh_nx (am_C_mono h (fun v K97 N98 I99 P100 z101 h => ?_) (fun _ _ _ _ _ _ h => h))
        replace h := am_iv_or h
        obtain ⟨x102, rfl, h⟩ := h
        show am_E d m_L_change 194 _ _ _ [am_i x102, am_i x96, am_r a1] K97 N98 I99 P100 z101 Q am_nx
        refine e_callSX (Mc := m_L_route) (vs := [am_r a1, am_i x96, am_i x102]) (st := []) dL_change_194 ok_L_route rfl mk_L_98 sm_L_route rfl rfl (by omega) (Nat.le_of_ble_eq_true rfl) (Nat.le_of_ble_eq_true rfl) (Nat.le_of_ble_eq_true rfl) am_xh_nx (am_C_mono h (fun v K103 N104 I105 P106 z107 h => ?_) (fun _ _ _ _ _ _ h => h))
        replace h := am_iv_or h
        obtain ⟨x108, rfl, h⟩ := h
        show am_E d m_L_change 197 _ _ _ [am_i x108] K103 N104 I105 P106 z107 Q am_nx
        exact e_ret_i dL_change_197 rfl (Nat.le_of_ble_eq_true rfl) (Nat.le_of_ble_eq_true rfl) h
      · replace h := h.2 hc
        refine e_sipush dL_change_174 ?_
        refine e_goto (tgt := 186) dL_change_177 (by decide) ?_
        refine e_iload_n dL_change_186 rfl ?_
        refine e_bipush dL_change_187 ?_
        refine e_idiv dL_change_189 (by decide) ?_
        refine e_iconst dL_change_190 ?_
        refine e_callS (Mc := m_L_low) (vs := [am_i (am_wr (Int.tdiv a3 6)), am_i 5]) (st := [am_i 1000, am_r a1]) dL_change_191 ok_L_low rfl mk_L_84 sm_L_low rfl rfl (by omega) (Nat.le_of_ble_eq_true rfl) (Nat.le_of_ble_eq_true rfl) (Nat.le_of_ble_eq_true rfl) am_xh_nx (am_C_mono h (fun v K109 N110 I111 P112 z113 h => ?_) (fun _ _ _ _ _ _ h => h))
        replace h := am_iv_or h
        obtain ⟨x114, rfl, h⟩ := h
        show am_E d m_L_change 194 _ _ _ [am_i x114, am_i 1000, am_r a1] K109 N110 I111 P112 z113 Q am_nx
        refine e_callSX (Mc := m_L_route) (vs := [am_r a1, am_i 1000, am_i x114]) (st := []) dL_change_194 ok_L_route rfl mk_L_98 sm_L_route rfl rfl (by omega) (Nat.le_of_ble_eq_true rfl) (Nat.le_of_ble_eq_true rfl) (Nat.le_of_ble_eq_true rfl) am_xh_nx (am_C_mono h (fun v K115 N116 I117 P118 z119 h => ?_) (fun _ _ _ _ _ _ h => h))
        replace h := am_iv_or h
        obtain ⟨x120, rfl, h⟩ := h
        show am_E d m_L_change 197 _ _ _ [am_i x120] K115 N116 I117 P118 z119 Q am_nx
        exact e_ret_i dL_change_197 rfl (Nat.le_of_ble_eq_true rfl) (Nat.le_of_ble_eq_true rfl) h
    · have h := h.2.2.2.2.2.1 (by omega)
      show am_E _ _ 164 _ _ _ _ _ _ _ _ _ _ _
      refine e_aload_n dL_change_164 rfl trivial ?_
      refine e_iload_n dL_change_165 rfl ?_
      refine e_bipush dL_change_166 ?_
      refine e_callS (Mc := m_L_low) (vs := [am_i a3, am_i 9]) (st := [am_r a1]) dL_change_168 ok_L_low rfl mk_L_84 sm_L_low rfl rfl (by omega) (Nat.le_of_ble_eq_true rfl) (Nat.le_of_ble_eq_true rfl) (Nat.le_of_ble_eq_true rfl) am_xh_nx (am_C_mono h (fun v K121 N122 I123 P124 z125 h => ?_) (fun _ _ _ _ _ _ h => h))
      replace h := am_iv_or h
      obtain ⟨x126, rfl, h⟩ := h
      show am_E d m_L_change 171 _ _ _ [am_i x126, am_r a1] K121 N122 I123 P124 z125 Q am_nx
      refine e_if_ne (tgt := 180) dL_change_171 (by decide) (fun hc => ?_) (fun hc => ?_)
      · replace h := h.1 hc
        refine e_iload_n dL_change_180 rfl ?_
        refine e_bipush dL_change_181 ?_
        refine e_callS (Mc := m_L_low) (vs := [am_i a3, am_i 6]) (st := [am_r a1]) dL_change_183 ok_L_low rfl mk_L_84 sm_L_low rfl rfl (by omega) (Nat.le_of_ble_eq_true rfl) (Nat.le_of_ble_eq_true rfl) (Nat.le_of_ble_eq_true rfl) am_xh_nx (am_C_mono h (fun v K127 N128 I129 P130 z131 h => ?_) (fun _ _ _ _ _ _ h => h))
        replace h := am_iv_or h
        obtain ⟨x132, rfl, h⟩ := h
        show am_E d m_L_change 186 _ _ _ [am_i x132, am_r a1] K127 N128 I129 P130 z131 Q am_nx
        refine e_iload_n dL_change_186 rfl ?_
        refine e_bipush dL_change_187 ?_
        refine e_idiv dL_change_189 (by decide) ?_
        refine e_iconst dL_change_190 ?_
        refine e_callS (Mc := m_L_low) (vs := [am_i (am_wr (Int.tdiv a3 6)), am_i 5]) (st := [am_i x132, am_r a1]) dL_change_191 ok_L_low rfl mk_L_84 sm_L_low rfl rfl (by omega) (Nat.le_of_ble_eq_true rfl) (Nat.le_of_ble_eq_true rfl) (Nat.le_of_ble_eq_true rfl) am_xh_nx (am_C_mono h (fun v K133 N134 I135 P136 z137 h => ?_) (fun _ _ _ _ _ _ h => h))
        replace h := am_iv_or h
        obtain ⟨x138, rfl, h⟩ := h
        show am_E d m_L_change 194 _ _ _ [am_i x138, am_i x132, am_r a1] K133 N134 I135 P136 z137 Q am_nx
        refine e_callSX (Mc := m_L_route) (vs := [am_r a1, am_i x132, am_i x138]) (st := []) dL_change_194 ok_L_route rfl mk_L_98 sm_L_route rfl rfl (by omega) (Nat.le_of_ble_eq_true rfl) (Nat.le_of_ble_eq_true rfl) (Nat.le_of_ble_eq_true rfl) am_xh_nx (am_C_mono h (fun v K139 N140 I141 P142 z143 h => ?_) (fun _ _ _ _ _ _ h => h))
        replace h := am_iv_or h
        obtain ⟨x144, rfl, h⟩ := h
        show am_E d m_L_change 197 _ _ _ [am_i x144] K139 N140 I141 P142 z143 Q am_nx
        exact e_ret_i dL_change_197 rfl (Nat.le_of_ble_eq_true rfl) (Nat.le_of_ble_eq_true rfl) h
      · replace h := h.2 hc
        refine e_sipush dL_change_174 ?_
        refine e_goto (tgt := 186) dL_change_177 (by decide) ?_
        refine e_iload_n dL_change_186 rfl ?_
        refine e_bipush dL_change_187 ?_
        refine e_idiv dL_change_189 (by decide) ?_
        refine e_iconst dL_change_190 ?_
        refine e_callS (Mc := m_L_low) (vs := [am_i (am_wr (Int.tdiv a3 6)), am_i 5]) (st := [am_i 1000, am_r a1]) dL_change_191 ok_L_low rfl mk_L_84 sm_L_low rfl rfl (by omega) (Nat.le_of_ble_eq_true rfl) (Nat.le_of_ble_eq_true rfl) (Nat.le_of_ble_eq_true rfl) am_xh_nx (am_C_mono h (fun v K145 N146 I147 P148 z149 h => ?_) (fun _ _ _ _ _ _ h => h))
        replace h := am_iv_or h
        obtain ⟨x150, rfl, h⟩ := h
        show am_E d m_L_change 194 _ _ _ [am_i x150, am_i 1000, am_r a1] K145 N146 I147 P148 z149 Q am_nx
        refine e_callSX (Mc := m_L_route) (vs := [am_r a1, am_i 1000, am_i x150]) (st := []) dL_change_194 ok_L_route rfl mk_L_98 sm_L_route rfl rfl (by omega) (Nat.le_of_ble_eq_true rfl) (Nat.le_of_ble_eq_true rfl) (Nat.le_of_ble_eq_true rfl) am_xh_nx (am_C_mono h (fun v K151 N152 I153 P154 z155 h => ?_) (fun _ _ _ _ _ _ h => h))
        replace h := am_iv_or h
        obtain ⟨x156, rfl, h⟩ := h
        show am_E d m_L_change 197 _ _ _ [am_i x156] K151 N152 I153 P154 z155 Q am_nx
        exact e_ret_i dL_change_197 rfl (Nat.le_of_ble_eq_true rfl) (Nat.le_of_ble_eq_true rfl) h
    · have h := h.2.2.2.2.2.2.1 (by omega)
      show am_E _ _ 164 _ _ _ _ _ _ _ _ _ _ _
      refine e_aload_n dL_change_164 rfl trivial ?_
      refine e_iload_n dL_change_165 rfl ?_
      refine e_bipush dL_change_166 ?_
      refine e_callS (Mc := m_L_low) (vs := [am_i a3, am_i 9]) (st := [am_r a1]) dL_change_168 ok_L_low rfl mk_L_84 sm_L_low rfl rfl (by omega) (Nat.le_of_ble_eq_true rfl) (Nat.le_of_ble_eq_true rfl) (Nat.le_of_ble_eq_true rfl) am_xh_nx (am_C_mono h (fun v K157 N158 I159 P160 z161 h => ?_) (fun _ _ _ _ _ _ h => h))
      replace h := am_iv_or h
      obtain ⟨x162, rfl, h⟩ := h
      show am_E d m_L_change 171 _ _ _ [am_i x162, am_r a1] K157 N158 I159 P160 z161 Q am_nx
      refine e_if_ne (tgt := 180) dL_change_171 (by decide) (fun hc => ?_) (fun hc => ?_)
      · replace h := h.1 hc
        refine e_iload_n dL_change_180 rfl ?_
        refine e_bipush dL_change_181 ?_
        refine e_callS (Mc := m_L_low) (vs := [am_i a3, am_i 6]) (st := [am_r a1]) dL_change_183 ok_L_low rfl mk_L_84 sm_L_low rfl rfl (by omega) (Nat.le_of_ble_eq_true rfl) (Nat.le_of_ble_eq_true rfl) (Nat.le_of_ble_eq_true rfl) am_xh_nx (am_C_mono h (fun v K163 N164 I165 P166 z167 h => ?_) (fun _ _ _ _ _ _ h => h))
        replace h := am_iv_or h
        obtain ⟨x168, rfl, h⟩ := h
        show am_E d m_L_change 186 _ _ _ [am_i x168, am_r a1] K163 N164 I165 P166 z167 Q am_nx
        refine e_iload_n dL_change_186 rfl ?_
        refine e_bipush dL_change_187 ?_
        refine e_idiv dL_change_189 (by decide) ?_
        refine e_iconst dL_change_190 ?_
        refine e_callS (Mc := m_L_low) (vs := [am_i (am_wr (Int.tdiv a3 6)), am_i 5]) (st := [am_i x168, am_r a1]) dL_change_191 ok_L_low rfl mk_L_84 sm_L_low rfl rfl (by omega) (Nat.le_of_ble_eq_true rfl) (Nat.le_of_ble_eq_true rfl) (Nat.le_of_ble_eq_true rfl) am_xh_nx (am_C_mono h (fun v K169 N170 I171 P172 z173 h => ?_) (fun _ _ _ _ _ _ h => h))
        replace h := am_iv_or h
        obtain ⟨x174, rfl, h⟩ := h
        show am_E d m_L_change 194 _ _ _ [am_i x174, am_i x168, am_r a1] K169 N170 I171 P172 z173 Q am_nx
        refine e_callSX (Mc := m_L_route) (vs := [am_r a1, am_i x168, am_i x174]) (st := []) dL_change_194 ok_L_route rfl mk_L_98 sm_L_route rfl rfl (by omega) (Nat.le_of_ble_eq_true rfl) (Nat.le_of_ble_eq_true rfl) (Nat.le_of_ble_eq_true rfl) am_xh_nx (am_C_mono h (fun v K175 N176 I177 P178 z179 h => ?_) (fun _ _ _ _ _ _ h => h))
        replace h := am_iv_or h
        obtain ⟨x180, rfl, h⟩ := h
        show am_E d m_L_change 197 _ _ _ [am_i x180] K175 N176 I177 P178 z179 Q am_nx
        exact e_ret_i dL_change_197 rfl (Nat.le_of_ble_eq_true rfl) (Nat.le_of_ble_eq_true rfl) h
      · replace h := h.2 hc
        refine e_sipush dL_change_174 ?_
        refine e_goto (tgt := 186) dL_change_177 (by decide) ?_
        refine e_iload_n dL_change_186 rfl ?_
        refine e_bipush dL_change_187 ?_
        refine e_idiv dL_change_189 (by decide) ?_
        refine e_iconst dL_change_190 ?_
        refine e_callS (Mc := m_L_low) (vs := [am_i (am_wr (Int.tdiv a3 6)), am_i 5]) (st := [am_i 1000, am_r a1]) dL_change_191 ok_L_low rfl mk_L_84 sm_L_low rfl rfl (by omega) (Nat.le_of_ble_eq_true rfl) (Nat.le_of_ble_eq_true rfl) (Nat.le_of_ble_eq_true rfl) am_xh_nx (am_C_mono h (fun v K181 N182 I183 P184 z185 h => ?_) (fun _ _ _ _ _ _ h => h))
        replace h := am_iv_or h
        obtain ⟨x186, rfl, h⟩ := h
        show am_E d m_L_change 194 _ _ _ [am_i x186, am_i 1000, am_r a1] K181 N182 I183 P184 z185 Q am_nx
        refine e_callSX (Mc := m_L_route) (vs := [am_r a1, am_i 1000, am_i x186]) (st := []) dL_change_194 ok_L_route rfl mk_L_98 sm_L_route rfl rfl (by omega) (Nat.le_of_ble_eq_true rfl) (Nat.le_of_ble_eq_true rfl) (Nat.le_of_ble_eq_true rfl) am_xh_nx (am_C_mono h (fun v K187 N188 I189 P190 z191 h => ?_) (fun _ _ _ _ _ _ h => h))
        replace h := am_iv_or h
        obtain ⟨x192, rfl, h⟩ := h
        show am_E d m_L_change 197 _ _ _ [am_i x192] K187 N188 I189 P190 z191 Q am_nx
        exact e_ret_i dL_change_197 rfl (Nat.le_of_ble_eq_true rfl) (Nat.le_of_ble_eq_true rfl) h
    · have h := h.2.2.2.2.2.2.2.1 (by omega)
      show am_E _ _ 198 _ _ _ _ _ _ _ _ _ _ _
      refine e_aload_n dL_change_198 rfl trivial ?_
      refine e_iload_n dL_change_199 rfl ?_
      refine e_bipush dL_change_200 ?_
      refine e_callS (Mc := m_L_low) (vs := [am_i a3, am_i 6]) (st := [am_r a1]) dL_change_202 ok_L_low rfl mk_L_84 sm_L_low rfl rfl (by omega) (Nat.le_of_ble_eq_true rfl) (Nat.le_of_ble_eq_true rfl) (Nat.le_of_ble_eq_true rfl) am_xh_nx (am_C_mono h (fun v K193 N194 I195 P196 z197 h => ?_) (fun _ _ _ _ _ _ h => h))
      replace h := am_iv_or h
      obtain ⟨x198, rfl, h⟩ := h
      show am_E d m_L_change 205 _ _ _ [am_i x198, am_r a1] K193 N194 I195 P196 z197 Q am_nx
      refine e_callSX (Mc := m_L_removeRoute) (vs := [am_r a1, am_i x198]) (st := []) dL_change_205 ok_L_removeRoute rfl mk_L_100 sm_L_removeRoute rfl rfl (by omega) (Nat.le_of_ble_eq_true rfl) (Nat.le_of_ble_eq_true rfl) (Nat.le_of_ble_eq_true rfl) am_xh_nx (am_C_mono h (fun v K199 N200 I201 P202 z203 h => ?_) (fun _ _ _ _ _ _ h => h))
      replace h := am_iv_or h
      obtain ⟨x204, rfl, h⟩ := h
      show am_E d m_L_change 208 _ _ _ [am_i x204] K199 N200 I201 P202 z203 Q am_nx
      exact e_ret_i dL_change_208 rfl (Nat.le_of_ble_eq_true rfl) (Nat.le_of_ble_eq_true rfl) h
    · have h := h.2.2.2.2.2.2.2.2.1 (by omega)
      show am_E _ _ 209 _ _ _ _ _ _ _ _ _ _ _
      refine e_aload_n dL_change_209 rfl trivial ?_
      refine e_bipush dL_change_210 ?_
      refine e_iload_n dL_change_212 rfl ?_
      refine e_bipush dL_change_213 ?_
      refine e_callS (Mc := m_L_low) (vs := [am_i a3, am_i 90]) (st := [am_i 9, am_r a1]) dL_change_215 ok_L_low rfl mk_L_84 sm_L_low rfl rfl (by omega) (Nat.le_of_ble_eq_true rfl) (Nat.le_of_ble_eq_true rfl) (Nat.le_of_ble_eq_true rfl) am_xh_nx (am_C_mono h (fun v K205 N206 I207 P208 z209 h => ?_) (fun _ _ _ _ _ _ h => h))
      replace h := am_iv_or h
      obtain ⟨x210, rfl, h⟩ := h
      show am_E d m_L_change 218 _ _ _ [am_i x210, am_i 9, am_r a1] K205 N206 I207 P208 z209 Q am_nx
      refine e_iadd dL_change_218 ?_
      refine e_callSX (Mc := m_L_enter) (vs := [am_r a1, am_i (am_wr (9 + x210))]) (st := []) dL_change_219 ok_L_enter rfl mk_L_102 sm_L_enter rfl rfl (by omega) (Nat.le_of_ble_eq_true rfl) (Nat.le_of_ble_eq_true rfl) (Nat.le_of_ble_eq_true rfl) am_xh_nx (am_C_mono h (fun v K211 N212 I213 P214 z215 h => ?_) (fun _ _ _ _ _ _ h => h))
      replace h := am_iv_or h
      obtain ⟨x216, rfl, h⟩ := h
      show am_E d m_L_change 222 _ _ _ [am_i x216] K211 N212 I213 P214 z215 Q am_nx
      exact e_ret_i dL_change_222 rfl (Nat.le_of_ble_eq_true rfl) (Nat.le_of_ble_eq_true rfl) h
    · have h := h.2.2.2.2.2.2.2.2.2.1 (by omega)
      show am_E _ _ 209 _ _ _ _ _ _ _ _ _ _ _
      refine e_aload_n dL_change_209 rfl trivial ?_
      refine e_bipush dL_change_210 ?_
      refine e_iload_n dL_change_212 rfl ?_
      refine e_bipush dL_change_213 ?_
      refine e_callS (Mc := m_L_low) (vs := [am_i a3, am_i 90]) (st := [am_i 9, am_r a1]) dL_change_215 ok_L_low rfl mk_L_84 sm_L_low rfl rfl (by omega) (Nat.le_of_ble_eq_true rfl) (Nat.le_of_ble_eq_true rfl) (Nat.le_of_ble_eq_true rfl) am_xh_nx (am_C_mono h (fun v K217 N218 I219 P220 z221 h => ?_) (fun _ _ _ _ _ _ h => h))
      replace h := am_iv_or h
      obtain ⟨x222, rfl, h⟩ := h
      show am_E d m_L_change 218 _ _ _ [am_i x222, am_i 9, am_r a1] K217 N218 I219 P220 z221 Q am_nx
      refine e_iadd dL_change_218 ?_
      refine e_callSX (Mc := m_L_enter) (vs := [am_r a1, am_i (am_wr (9 + x222))]) (st := []) dL_change_219 ok_L_enter rfl mk_L_102 sm_L_enter rfl rfl (by omega) (Nat.le_of_ble_eq_true rfl) (Nat.le_of_ble_eq_true rfl) (Nat.le_of_ble_eq_true rfl) am_xh_nx (am_C_mono h (fun v K223 N224 I225 P226 z227 h => ?_) (fun _ _ _ _ _ _ h => h))
      replace h := am_iv_or h
      obtain ⟨x228, rfl, h⟩ := h
      show am_E d m_L_change 222 _ _ _ [am_i x228] K223 N224 I225 P226 z227 Q am_nx
      exact e_ret_i dL_change_222 rfl (Nat.le_of_ble_eq_true rfl) (Nat.le_of_ble_eq_true rfl) h
    · have h := h.2.2.2.2.2.2.2.2.2.2.1 (by omega)
      show am_E _ _ 209 _ _ _ _ _ _ _ _ _ _ _
      refine e_aload_n dL_change_209 rfl trivial ?_
      refine e_bipush dL_change_210 ?_
      refine e_iload_n dL_change_212 rfl ?_
      refine e_bipush dL_change_213 ?_
      refine e_callS (Mc := m_L_low) (vs := [am_i a3, am_i 90]) (st := [am_i 9, am_r a1]) dL_change_215 ok_L_low rfl mk_L_84 sm_L_low rfl rfl (by omega) (Nat.le_of_ble_eq_true rfl) (Nat.le_of_ble_eq_true rfl) (Nat.le_of_ble_eq_true rfl) am_xh_nx (am_C_mono h (fun v K229 N230 I231 P232 z233 h => ?_) (fun _ _ _ _ _ _ h => h))
      replace h := am_iv_or h
      obtain ⟨x234, rfl, h⟩ := h
      show am_E d m_L_change 218 _ _ _ [am_i x234, am_i 9, am_r a1] K229 N230 I231 P232 z233 Q am_nx
      refine e_iadd dL_change_218 ?_
      refine e_callSX (Mc := m_L_enter) (vs := [am_r a1, am_i (am_wr (9 + x234))]) (st := []) dL_change_219 ok_L_enter rfl mk_L_102 sm_L_enter rfl rfl (by omega) (Nat.le_of_ble_eq_true rfl) (Nat.le_of_ble_eq_true rfl) (Nat.le_of_ble_eq_true rfl) am_xh_nx (am_C_mono h (fun v K235 N236 I237 P238 z239 h => ?_) (fun _ _ _ _ _ _ h => h))
      replace h := am_iv_or h
      obtain ⟨x240, rfl, h⟩ := h
      show am_E d m_L_change 222 _ _ _ [am_i x240] K235 N236 I237 P238 z239 Q am_nx
      exact e_ret_i dL_change_222 rfl (Nat.le_of_ble_eq_true rfl) (Nat.le_of_ble_eq_true rfl) h
    · have h := h.2.2.2.2.2.2.2.2.2.2.2.1 (by omega)
      show am_E _ _ 209 _ _ _ _ _ _ _ _ _ _ _
      refine e_aload_n dL_change_209 rfl trivial ?_
      refine e_bipush dL_change_210 ?_
      refine e_iload_n dL_change_212 rfl ?_
      refine e_bipush dL_change_213 ?_
      refine e_callS (Mc := m_L_low) (vs := [am_i a3, am_i 90]) (st := [am_i 9, am_r a1]) dL_change_215 ok_L_low rfl mk_L_84 sm_L_low rfl rfl (by omega) (Nat.le_of_ble_eq_true rfl) (Nat.le_of_ble_eq_true rfl) (Nat.le_of_ble_eq_true rfl) am_xh_nx (am_C_mono h (fun v K241 N242 I243 P244 z245 h => ?_) (fun _ _ _ _ _ _ h => h))
      replace h := am_iv_or h
      obtain ⟨x246, rfl, h⟩ := h
      show am_E d m_L_change 218 _ _ _ [am_i x246, am_i 9, am_r a1] K241 N242 I243 P244 z245 Q am_nx
      refine e_iadd dL_change_218 ?_
      refine e_callSX (Mc := m_L_enter) (vs := [am_r a1, am_i (am_wr (9 + x246))]) (st := []) dL_change_219 ok_L_enter rfl mk_L_102 sm_L_enter rfl rfl (by omega) (Nat.le_of_ble_eq_true rfl) (Nat.le_of_ble_eq_true rfl) (Nat.le_of_ble_eq_true rfl) am_xh_nx (am_C_mono h (fun v K247 N248 I249 P250 z251 h => ?_) (fun _ _ _ _ _ _ h => h))
      replace h := am_iv_or h
      obtain ⟨x252, rfl, h⟩ := h
      show am_E d m_L_change 222 _ _ _ [am_i x252] K247 N248 I249 P250 z251 Q am_nx
      exact e_ret_i dL_change_222 rfl (Nat.le_of_ble_eq_true rfl) (Nat.le_of_ble_eq_true rfl) h
    · have h := h.2.2.2.2.2.2.2.2.2.2.2.2.1 (by omega)
      show am_E _ _ 209 _ _ _ _ _ _ _ _ _ _ _
      refine e_aload_n dL_change_209 rfl trivial ?_
      refine e_bipush dL_change_210 ?_
      refine e_iload_n dL_change_212 rfl ?_
      refine e_bipush dL_change_213 ?_
      refine e_callS (Mc := m_L_low) (vs := [am_i a3, am_i 90]) (st := [am_i 9, am_r a1]) dL_change_215 ok_L_low rfl mk_L_84 sm_L_low rfl rfl (by omega) (Nat.le_of_ble_eq_true rfl) (Nat.le_of_ble_eq_true rfl) (Nat.le_of_ble_eq_true rfl) am_xh_nx (am_C_mono h (fun v K253 N254 I255 P256 z257 h => ?_) (fun _ _ _ _ _ _ h => h))
      replace h := am_iv_or h
      obtain ⟨x258, rfl, h⟩ := h
      show am_E d m_L_change 218 _ _ _ [am_i x258, am_i 9, am_r a1] K253 N254 I255 P256 z257 Q am_nx
      refine e_iadd dL_change_218 ?_
      refine e_callSX (Mc := m_L_enter) (vs := [am_r a1, am_i (am_wr (9 + x258))]) (st := []) dL_change_219 ok_L_enter rfl mk_L_102 sm_L_enter rfl rfl (by omega) (Nat.le_of_ble_eq_true rfl) (Nat.le_of_ble_eq_true rfl) (Nat.le_of_ble_eq_true rfl) am_xh_nx (am_C_mono h (fun v K259 N260 I261 P262 z263 h => ?_) (fun _ _ _ _ _ _ h => h))
      replace h := am_iv_or h
      obtain ⟨x264, rfl, h⟩ := h
      show am_E d m_L_change 222 _ _ _ [am_i x264] K259 N260 I261 P262 z263 Q am_nx
      exact e_ret_i dL_change_222 rfl (Nat.le_of_ble_eq_true rfl) (Nat.le_of_ble_eq_true rfl) h
    · have h := h.2.2.2.2.2.2.2.2.2.2.2.2.2.1 (by omega)
      show am_E _ _ 223 _ _ _ _ _ _ _ _ _ _ _
      refine e_aload_n dL_change_223 rfl trivial ?_
      refine e_iload_n dL_change_224 rfl ?_
      refine e_bipush dL_change_225 ?_
      refine e_callS (Mc := m_L_low) (vs := [am_i a3, am_i 6]) (st := [am_r a1]) dL_change_227 ok_L_low rfl mk_L_84 sm_L_low rfl rfl (by omega) (Nat.le_of_ble_eq_true rfl) (Nat.le_of_ble_eq_true rfl) (Nat.le_of_ble_eq_true rfl) am_xh_nx (am_C_mono h (fun v K265 N266 I267 P268 z269 h => ?_) (fun _ _ _ _ _ _ h => h))
      replace h := am_iv_or h
      obtain ⟨x270, rfl, h⟩ := h
      show am_E d m_L_change 230 _ _ _ [am_i x270, am_r a1] K265 N266 I267 P268 z269 Q am_nx
      refine e_callSX (Mc := m_L_read) (vs := [am_r a1, am_i x270]) (st := []) dL_change_230 ok_L_read rfl mk_L_104 sm_L_read rfl rfl (by omega) (Nat.le_of_ble_eq_true rfl) (Nat.le_of_ble_eq_true rfl) (Nat.le_of_ble_eq_true rfl) am_xh_nx (am_C_mono h (fun v K271 N272 I273 P274 z275 h => ?_) (fun _ _ _ _ _ _ h => h))
      replace h := am_iv_or h
      obtain ⟨x276, rfl, h⟩ := h
      show am_E d m_L_change 233 _ _ _ [am_i x276] K271 N272 I273 P274 z275 Q am_nx
      exact e_ret_i dL_change_233 rfl (Nat.le_of_ble_eq_true rfl) (Nat.le_of_ble_eq_true rfl) h
    · have h := h.2.2.2.2.2.2.2.2.2.2.2.2.2.2.1 (by omega)
      show am_E _ _ 223 _ _ _ _ _ _ _ _ _ _ _
      refine e_aload_n dL_change_223 rfl trivial ?_
      refine e_iload_n dL_change_224 rfl ?_
      refine e_bipush dL_change_225 ?_
      refine e_callS (Mc := m_L_low) (vs := [am_i a3, am_i 6]) (st := [am_r a1]) dL_change_227 ok_L_low rfl mk_L_84 sm_L_low rfl rfl (by omega) (Nat.le_of_ble_eq_true rfl) (Nat.le_of_ble_eq_true rfl) (Nat.le_of_ble_eq_true rfl) am_xh_nx (am_C_mono h (fun v K277 N278 I279 P280 z281 h => ?_) (fun _ _ _ _ _ _ h => h))
      replace h := am_iv_or h
      obtain ⟨x282, rfl, h⟩ := h
      show am_E d m_L_change 230 _ _ _ [am_i x282, am_r a1] K277 N278 I279 P280 z281 Q am_nx
      refine e_callSX (Mc := m_L_read) (vs := [am_r a1, am_i x282]) (st := []) dL_change_230 ok_L_read rfl mk_L_104 sm_L_read rfl rfl (by omega) (Nat.le_of_ble_eq_true rfl) (Nat.le_of_ble_eq_true rfl) (Nat.le_of_ble_eq_true rfl) am_xh_nx (am_C_mono h (fun v K283 N284 I285 P286 z287 h => ?_) (fun _ _ _ _ _ _ h => h))
      replace h := am_iv_or h
      obtain ⟨x288, rfl, h⟩ := h
      show am_E d m_L_change 233 _ _ _ [am_i x288] K283 N284 I285 P286 z287 Q am_nx
      exact e_ret_i dL_change_233 rfl (Nat.le_of_ble_eq_true rfl) (Nat.le_of_ble_eq_true rfl) h
    · have h := h.2.2.2.2.2.2.2.2.2.2.2.2.2.2.2.1 (by omega)
      show am_E _ _ 223 _ _ _ _ _ _ _ _ _ _ _
      refine e_aload_n dL_change_223 rfl trivial ?_
      refine e_iload_n dL_change_224 rfl ?_
      refine e_bipush dL_change_225 ?_
      refine e_callS (Mc := m_L_low) (vs := [am_i a3, am_i 6]) (st := [am_r a1]) dL_change_227 ok_L_low rfl mk_L_84 sm_L_low rfl rfl (by omega) (Nat.le_of_ble_eq_true rfl) (Nat.le_of_ble_eq_true rfl) (Nat.le_of_ble_eq_true rfl) am_xh_nx (am_C_mono h (fun v K289 N290 I291 P292 z293 h => ?_) (fun _ _ _ _ _ _ h => h))
      replace h := am_iv_or h
      obtain ⟨x294, rfl, h⟩ := h
      show am_E d m_L_change 230 _ _ _ [am_i x294, am_r a1] K289 N290 I291 P292 z293 Q am_nx
      refine e_callSX (Mc := m_L_read) (vs := [am_r a1, am_i x294]) (st := []) dL_change_230 ok_L_read rfl mk_L_104 sm_L_read rfl rfl (by omega) (Nat.le_of_ble_eq_true rfl) (Nat.le_of_ble_eq_true rfl) (Nat.le_of_ble_eq_true rfl) am_xh_nx (am_C_mono h (fun v K295 N296 I297 P298 z299 h => ?_) (fun _ _ _ _ _ _ h => h))
      replace h := am_iv_or h
      obtain ⟨x300, rfl, h⟩ := h
      show am_E d m_L_change 233 _ _ _ [am_i x300] K295 N296 I297 P298 z299 Q am_nx
      exact e_ret_i dL_change_233 rfl (Nat.le_of_ble_eq_true rfl) (Nat.le_of_ble_eq_true rfl) h
    · have h := h.2.2.2.2.2.2.2.2.2.2.2.2.2.2.2.2.1 (by omega)
      show am_E _ _ 223 _ _ _ _ _ _ _ _ _ _ _
      refine e_aload_n dL_change_223 rfl trivial ?_
      refine e_iload_n dL_change_224 rfl ?_
      refine e_bipush dL_change_225 ?_
      refine e_callS (Mc := m_L_low) (vs := [am_i a3, am_i 6]) (st := [am_r a1]) dL_change_227 ok_L_low rfl mk_L_84 sm_L_low rfl rfl (by omega) (Nat.le_of_ble_eq_true rfl) (Nat.le_of_ble_eq_true rfl) (Nat.le_of_ble_eq_true rfl) am_xh_nx (am_C_mono h (fun v K301 N302 I303 P304 z305 h => ?_) (fun _ _ _ _ _ _ h => h))
      replace h := am_iv_or h
      obtain ⟨x306, rfl, h⟩ := h
      show am_E d m_L_change 230 _ _ _ [am_i x306, am_r a1] K301 N302 I303 P304 z305 Q am_nx
      refine e_callSX (Mc := m_L_read) (vs := [am_r a1, am_i x306]) (st := []) dL_change_230 ok_L_read rfl mk_L_104 sm_L_read rfl rfl (by omega) (Nat.le_of_ble_eq_true rfl) (Nat.le_of_ble_eq_true rfl) (Nat.le_of_ble_eq_true rfl) am_xh_nx (am_C_mono h (fun v K307 N308 I309 P310 z311 h => ?_) (fun _ _ _ _ _ _ h => h))
      replace h := am_iv_or h
      obtain ⟨x312, rfl, h⟩ := h
      show am_E d m_L_change 233 _ _ _ [am_i x312] K307 N308 I309 P310 z311 Q am_nx
      exact e_ret_i dL_change_233 rfl (Nat.le_of_ble_eq_true rfl) (Nat.le_of_ble_eq_true rfl) h
    · have h := h.2.2.2.2.2.2.2.2.2.2.2.2.2.2.2.2.2.1 (by omega)
      show am_E _ _ 234 _ _ _ _ _ _ _ _ _ _ _
      refine e_aload_n dL_change_234 rfl trivial ?_
      refine e_iload_n dL_change_235 rfl ?_
      refine e_bipush dL_change_236 ?_
      refine e_callS (Mc := m_L_low) (vs := [am_i a3, am_i 12]) (st := [am_r a1]) dL_change_238 ok_L_low rfl mk_L_84 sm_L_low rfl rfl (by omega) (Nat.le_of_ble_eq_true rfl) (Nat.le_of_ble_eq_true rfl) (Nat.le_of_ble_eq_true rfl) am_xh_nx (am_C_mono h (fun v K313 N314 I315 P316 z317 h => ?_) (fun _ _ _ _ _ _ h => h))
      replace h := am_iv_or h
      obtain ⟨x318, rfl, h⟩ := h
      show am_E d m_L_change 241 _ _ _ [am_i x318, am_r a1] K313 N314 I315 P316 z317 Q am_nx
      refine e_callSX (Mc := m_L_takeOff) (vs := [am_r a1, am_i x318]) (st := []) dL_change_241 ok_L_takeOff rfl mk_L_106 sm_L_takeOff rfl rfl (by omega) (Nat.le_of_ble_eq_true rfl) (Nat.le_of_ble_eq_true rfl) (Nat.le_of_ble_eq_true rfl) am_xh_nx (am_C_mono h (fun v K319 N320 I321 P322 z323 h => ?_) (fun _ _ _ _ _ _ h => h))
      replace h := am_iv_or h
      obtain ⟨x324, rfl, h⟩ := h
      show am_E d m_L_change 244 _ _ _ [am_i x324] K319 N320 I321 P322 z323 Q am_nx
      exact e_ret_i dL_change_244 rfl (Nat.le_of_ble_eq_true rfl) (Nat.le_of_ble_eq_true rfl) h
    · have h := h.2.2.2.2.2.2.2.2.2.2.2.2.2.2.2.2.2.2.1 (by omega)
      show am_E _ _ 245 _ _ _ _ _ _ _ _ _ _ _
      refine e_aload_n dL_change_245 rfl trivial ?_
      refine e_callSX (Mc := m_L_undo) (vs := [am_r a1]) (st := []) dL_change_246 ok_L_undo rfl mk_L_108 sm_L_undo rfl rfl (by omega) (Nat.le_of_ble_eq_true rfl) (Nat.le_of_ble_eq_true rfl) (Nat.le_of_ble_eq_true rfl) am_xh_nx (am_C_mono h (fun v K325 N326 I327 P328 z329 h => ?_) (fun _ _ _ _ _ _ h => h))
      replace h := am_iv_or h
      obtain ⟨x330, rfl, h⟩ := h
      show am_E d m_L_change 249 _ _ _ [am_i x330] K325 N326 I327 P328 z329 Q am_nx
      exact e_ret_i dL_change_249 rfl (Nat.le_of_ble_eq_true rfl) (Nat.le_of_ble_eq_true rfl) h
  · intro hc
    have h := h.2.2.2.2.2.2.2.2.2.2.2.2.2.2.2.2.2.2.2 hc
    show am_E _ _ 250 _ _ _ _ _ _ _ _ _ _ _
    refine e_aload_n dL_change_250 rfl trivial ?_
    refine e_iload_n dL_change_251 rfl ?_
    refine e_iconst dL_change_252 ?_
    refine e_callS (Mc := m_L_low) (vs := [am_i a3, am_i 5]) (st := [am_r a1]) dL_change_253 ok_L_low rfl mk_L_84 sm_L_low rfl rfl (by omega) (Nat.le_of_ble_eq_true rfl) (Nat.le_of_ble_eq_true rfl) (Nat.le_of_ble_eq_true rfl) am_xh_nx (am_C_mono h (fun v K331 N332 I333 P334 z335 h => ?_) (fun _ _ _ _ _ _ h => h))
    replace h := am_iv_or h
    obtain ⟨x336, rfl, h⟩ := h
    show am_E d m_L_change 256 _ _ _ [am_i x336, am_r a1] K331 N332 I333 P334 z335 Q am_nx
    refine e_if_ne (tgt := 273) dL_change_256 (by decide) (fun hc => ?_) (fun hc => ?_)
    · replace h := h.1 hc
      refine e_iconst dL_change_273 ?_
      refine e_iload_n dL_change_274 rfl ?_
      refine e_iconst dL_change_275 ?_
      refine e_idiv dL_change_276 (by decide) ?_
      refine e_bipush dL_change_277 ?_
      refine e_callS (Mc := m_L_low) (vs := [am_i (am_wr (Int.tdiv a3 5)), am_i 90]) (st := [am_i 1, am_r a1]) dL_change_279 ok_L_low rfl mk_L_84 sm_L_low rfl rfl (by omega) (Nat.le_of_ble_eq_true rfl) (Nat.le_of_ble_eq_true rfl) (Nat.le_of_ble_eq_true rfl) am_xh_nx (am_C_mono h (fun v K337 N338 I339 P340 z341 h => ?_) (fun _ _ _ _ _ _ h => h))
      replace h := am_iv_or h
      obtain ⟨x342, rfl, h⟩ := h
      show am_E d m_L_change 282 _ _ _ [am_i x342, am_i 1, am_r a1] K337 N338 I339 P340 z341 Q am_nx
      refine e_iadd dL_change_282 ?_
      refine e_callSX (Mc := m_L_move) (vs := [am_r a1, am_i (am_wr (1 + x342))]) (st := []) dL_change_283 ok_L_move rfl mk_L_111 sm_L_move rfl rfl (by omega) (Nat.le_of_ble_eq_true rfl) (Nat.le_of_ble_eq_true rfl) (Nat.le_of_ble_eq_true rfl) am_xh_nx (am_C_mono h (fun v K343 N344 I345 P346 z347 h => ?_) (fun _ _ _ _ _ _ h => h))
      replace h := am_iv_or h
      obtain ⟨x348, rfl, h⟩ := h
      show am_E d m_L_change 286 _ _ _ [am_i x348] K343 N344 I345 P346 z347 Q am_nx
      exact e_ret_i dL_change_286 rfl (Nat.le_of_ble_eq_true rfl) (Nat.le_of_ble_eq_true rfl) h
    · replace h := h.2 hc
      refine e_iconst dL_change_259 ?_
      refine e_iload_n dL_change_260 rfl ?_
      refine e_iconst dL_change_261 ?_
      refine e_idiv dL_change_262 (by decide) ?_
      refine e_sipush dL_change_263 ?_
      refine e_callS (Mc := m_L_low) (vs := [am_i (am_wr (Int.tdiv a3 5)), am_i 500]) (st := [am_i 1, am_r a1]) dL_change_266 ok_L_low rfl mk_L_84 sm_L_low rfl rfl (by omega) (Nat.le_of_ble_eq_true rfl) (Nat.le_of_ble_eq_true rfl) (Nat.le_of_ble_eq_true rfl) am_xh_nx (am_C_mono h (fun v K349 N350 I351 P352 z353 h => ?_) (fun _ _ _ _ _ _ h => h))
      replace h := am_iv_or h
      obtain ⟨x354, rfl, h⟩ := h
      show am_E d m_L_change 269 _ _ _ [am_i x354, am_i 1, am_r a1] K349 N350 I351 P352 z353 Q am_nx
      refine e_iadd dL_change_269 ?_
      refine e_goto (tgt := 283) dL_change_270 (by decide) ?_
      refine e_callSX (Mc := m_L_move) (vs := [am_r a1, am_i (am_wr (1 + x354))]) (st := []) dL_change_283 ok_L_move rfl mk_L_111 sm_L_move rfl rfl (by omega) (Nat.le_of_ble_eq_true rfl) (Nat.le_of_ble_eq_true rfl) (Nat.le_of_ble_eq_true rfl) am_xh_nx (am_C_mono h (fun v K355 N356 I357 P358 z359 h => ?_) (fun _ _ _ _ _ _ h => h))
      replace h := am_iv_or h
      obtain ⟨x360, rfl, h⟩ := h
      show am_E d m_L_change 286 _ _ _ [am_i x360] K355 N356 I357 P358 z359 Q am_nx
      exact e_ret_i dL_change_286 rfl (Nat.le_of_ble_eq_true rfl) (Nat.le_of_ble_eq_true rfl) h
set_option maxRecDepth 100000 in
set_option maxHeartbeats 4000000 in
theorem wf_L_ask {d : Nat} (hd : 1 ≤ d) {a1 : Nat} {a2 : Int} {a3 : Int} {K N : Nat → Nat} {I : Nat → Nat → Int} {P : Nat → Nat → Option Nat} {z : Nat} {Q : am_V → am_T} (h :
  am_C (d - 1) m_L_low [am_i a2, am_i 8] K N I P z (fun v K1 N2 I3 P4 z5 => am_iv v fun x6 =>
    ((x6 = 0 →
    am_C (d - 1) m_L_low [am_i a3, am_i 9] K1 N2 I3 P4 z5 (fun v K7 N8 I9 P10 z11 => am_iv v fun x12 =>
      am_C (d - 1) m_L_fateOf [am_r a1, am_i x12] K7 N8 I9 P10 z11 (fun v K13 N14 I15 P16 z17 => am_iv v fun x18 =>
      Q (am_i x18) K13 N14 I15 P16 z17) am_nx) am_nx) ∧
    (x6 = 1 →
    K1 a1 = 7 ∧ am_C (d - 1) m_X7_entryIn [am_r a1] K1 N2 I3 P4 z5 (fun v K19 N20 I21 P22 z23 => am_iv v fun x25 =>
      Q (am_i x25) K19 N20 I21 P22 z23) am_nx) ∧
    (x6 = 2 →
    K1 a1 = 7 ∧ am_C (d - 1) m_X7_nextLeaving [am_r a1] K1 N2 I3 P4 z5 (fun v K26 N27 I28 P29 z30 => am_iv v fun x32 =>
      Q (am_i x32) K26 N27 I28 P29 z30) am_nx) ∧
    (x6 = 3 →
    am_C (d - 1) m_L_low [am_i a3, am_i 1001] K1 N2 I3 P4 z5 (fun v K33 N34 I35 P36 z37 => am_iv v fun x38 =>
      am_C (d - 1) m_L_low [am_i (am_wr (Int.tdiv a3 7)), am_i 393] K33 N34 I35 P36 z37 (fun v K39 N40 I41 P42 z43 => am_iv v fun x44 =>
      am_C (d - 1) m_L_laneFor [am_r a1, am_i x38, am_i (am_wr (9 + x44))] K39 N40 I41 P42 z43 (fun v K45 N46 I47 P48 z49 => am_iv v fun x50 =>
      Q (am_i x50) K45 N46 I47 P48 z49) am_nx) am_nx) am_nx) ∧
    (x6 = 4 →
    am_C (d - 1) m_L_low [am_i a3, am_i 6] K1 N2 I3 P4 z5 (fun v K51 N52 I53 P54 z55 => am_iv v fun x56 =>
      am_C (d - 1) m_L_ranked [am_r a1, am_i (am_wr (x56 - 1))] K51 N52 I53 P54 z55 (fun v K57 N58 I59 P60 z61 => am_iv v fun x62 =>
      Q (am_i x62) K57 N58 I59 P60 z61) am_nx) am_nx) ∧
    (x6 = 5 →
    am_C (d - 1) m_L_low [am_i a3, am_i 9] K1 N2 I3 P4 z5 (fun v K63 N64 I65 P66 z67 => am_iv v fun x68 =>
      am_C (d - 1) m_L_gapAhead [am_r a1, am_i x68] K63 N64 I65 P66 z67 (fun v K69 N70 I71 P72 z73 => am_iv v fun x74 =>
      Q (am_i x74) K69 N70 I71 P72 z73) am_nx) am_nx) ∧
    (x6 = 6 →
    am_C (d - 1) m_L_low [am_i a3, am_i 8] K1 N2 I3 P4 z5 (fun v K75 N76 I77 P78 z79 => am_iv v fun x80 =>
      am_C (d - 1) m_L_routeAt [am_r a1, am_i (am_wr (x80 - 1))] K75 N76 I77 P78 z79 (fun v K81 N82 I83 P84 z85 => am_iv v fun x86 =>
      Q (am_i x86) K81 N82 I83 P84 z85) am_nx) am_nx) ∧
    ((x6 < 0 ∨ 6 < x6) →
    K1 a1 = 7 ∧ am_C (d - 1) m_X7_errorPosition [am_r a1] K1 N2 I3 P4 z5 (fun v K87 N88 I89 P90 z91 => am_iv v fun x93 =>
      Q (am_i x93) K87 N88 I89 P90 z91) am_nx))) am_nx) :
  am_C d m_L_ask [am_r a1, am_i a2, am_i a3] K N I P z Q am_nx := by
  refine am_C_of ok_L_ask (fun v hv => am_v1all _ rfl v hv) (Nat.le_of_ble_eq_true rfl) ?_
  show am_E d m_L_ask 0 0 0 [some (am_r a1), some (am_i a2), some (am_i a3)] [] K N I P z Q am_nx
  refine e_iload_n dL_ask_0 rfl ?_
  refine e_bipush dL_ask_1 ?_
  refine e_callS (Mc := m_L_low) (vs := [am_i a2, am_i 8]) (st := []) dL_ask_3 ok_L_low rfl mk_L_84 sm_L_low rfl rfl (by omega) (Nat.le_of_ble_eq_true rfl) (Nat.le_of_ble_eq_true rfl) (Nat.le_of_ble_eq_true rfl) am_xh_nx (am_C_mono h (fun v K1 N2 I3 P4 z5 h => ?_) (fun _ _ _ _ _ _ h => h))
  replace h := am_iv_or h
  obtain ⟨x6, rfl, h⟩ := h
  show am_E d m_L_ask 6 _ _ _ [am_i x6] K1 N2 I3 P4 z5 Q am_nx
  refine e_tsw dL_ask_6 (by decide) (by decide) (by decide) ?_ ?_
  · refine ⟨fun hc => ?_, ⟨fun hc => ?_, ⟨fun hc => ?_, ⟨fun hc => ?_, ⟨fun hc => ?_, ⟨fun hc => ?_, ⟨fun hc => ?_, trivial⟩⟩⟩⟩⟩⟩⟩
    · have h := h.1 (by omega)
      show am_E _ _ 48 _ _ _ _ _ _ _ _ _ _ _
      refine e_aload_n dL_ask_48 rfl trivial ?_
      refine e_iload_n dL_ask_49 rfl ?_
      refine e_bipush dL_ask_50 ?_
      refine e_callS (Mc := m_L_low) (vs := [am_i a3, am_i 9]) (st := [am_r a1]) dL_ask_52 ok_L_low rfl mk_L_84 sm_L_low rfl rfl (by omega) (Nat.le_of_ble_eq_true rfl) (Nat.le_of_ble_eq_true rfl) (Nat.le_of_ble_eq_true rfl) am_xh_nx (am_C_mono h (fun v K7 N8 I9 P10 z11 h => ?_) (fun _ _ _ _ _ _ h => h))
      replace h := am_iv_or h
      obtain ⟨x12, rfl, h⟩ := h
      show am_E d m_L_ask 55 _ _ _ [am_i x12, am_r a1] K7 N8 I9 P10 z11 Q am_nx
      refine e_callSX (Mc := m_L_fateOf) (vs := [am_r a1, am_i x12]) (st := []) dL_ask_55 ok_L_fateOf rfl mk_L_113 sm_L_fateOf rfl rfl (by omega) (Nat.le_of_ble_eq_true rfl) (Nat.le_of_ble_eq_true rfl) (Nat.le_of_ble_eq_true rfl) am_xh_nx (am_C_mono h (fun v K13 N14 I15 P16 z17 h => ?_) (fun _ _ _ _ _ _ h => h))
      replace h := am_iv_or h
      obtain ⟨x18, rfl, h⟩ := h
      show am_E d m_L_ask 58 _ _ _ [am_i x18] K13 N14 I15 P16 z17 Q am_nx
      exact e_ret_i dL_ask_58 rfl (Nat.le_of_ble_eq_true rfl) (Nat.le_of_ble_eq_true rfl) h
    · have h := h.2.1 (by omega)
      show am_E _ _ 59 _ _ _ _ _ _ _ _ _ _ _
      refine e_aload_n dL_ask_59 rfl trivial ?_
      obtain ⟨hK24, h⟩ := h
      refine e_callV (Mc := m_X7_entryIn) (vs := []) (st := []) dL_ask_60 ok_X7_entryIn rfl ⟨by decide, rfl⟩ mk_L_115 im_X7_entryIn sl_X7_entryIn rfl rfl hK24 (by omega) (Nat.le_of_ble_eq_true rfl) (Nat.le_of_ble_eq_true rfl) (Nat.le_of_ble_eq_true rfl) am_xh_nx (am_C_mono h (fun v K19 N20 I21 P22 z23 h => ?_) (fun _ _ _ _ _ _ h => h))
      replace h := am_iv_or h
      obtain ⟨x25, rfl, h⟩ := h
      show am_E d m_L_ask 63 _ _ _ [am_i x25] K19 N20 I21 P22 z23 Q am_nx
      exact e_ret_i dL_ask_63 rfl (Nat.le_of_ble_eq_true rfl) (Nat.le_of_ble_eq_true rfl) h
    · have h := h.2.2.1 (by omega)
      show am_E _ _ 64 _ _ _ _ _ _ _ _ _ _ _
      refine e_aload_n dL_ask_64 rfl trivial ?_
      obtain ⟨hK31, h⟩ := h
      refine e_callV (Mc := m_X7_nextLeaving) (vs := []) (st := []) dL_ask_65 ok_X7_nextLeaving rfl ⟨by decide, rfl⟩ mk_L_118 im_X7_nextLeaving sl_X7_nextLeaving rfl rfl hK31 (by omega) (Nat.le_of_ble_eq_true rfl) (Nat.le_of_ble_eq_true rfl) (Nat.le_of_ble_eq_true rfl) am_xh_nx (am_C_mono h (fun v K26 N27 I28 P29 z30 h => ?_) (fun _ _ _ _ _ _ h => h))
      replace h := am_iv_or h
      obtain ⟨x32, rfl, h⟩ := h
      show am_E d m_L_ask 68 _ _ _ [am_i x32] K26 N27 I28 P29 z30 Q am_nx
      exact e_ret_i dL_ask_68 rfl (Nat.le_of_ble_eq_true rfl) (Nat.le_of_ble_eq_true rfl) h
    · have h := h.2.2.2.1 (by omega)
      show am_E _ _ 69 _ _ _ _ _ _ _ _ _ _ _
      refine e_aload_n dL_ask_69 rfl trivial ?_
      refine e_iload_n dL_ask_70 rfl ?_
      refine e_sipush dL_ask_71 ?_
      refine e_callS (Mc := m_L_low) (vs := [am_i a3, am_i 1001]) (st := [am_r a1]) dL_ask_74 ok_L_low rfl mk_L_84 sm_L_low rfl rfl (by omega) (Nat.le_of_ble_eq_true rfl) (Nat.le_of_ble_eq_true rfl) (Nat.le_of_ble_eq_true rfl) am_xh_nx (am_C_mono h (fun v K33 N34 I35 P36 z37 h => ?_) (fun _ _ _ _ _ _ h => h))
      replace h := am_iv_or h
      obtain ⟨x38, rfl, h⟩ := h
      show am_E d m_L_ask 77 _ _ _ [am_i x38, am_r a1] K33 N34 I35 P36 z37 Q am_nx
      refine e_bipush dL_ask_77 ?_
      refine e_iload_n dL_ask_79 rfl ?_
      refine e_bipush dL_ask_80 ?_
      refine e_idiv dL_ask_82 (by decide) ?_
      refine e_sipush dL_ask_83 ?_
      refine e_callS (Mc := m_L_low) (vs := [am_i (am_wr (Int.tdiv a3 7)), am_i 393]) (st := [am_i 9, am_i x38, am_r a1]) dL_ask_86 ok_L_low rfl mk_L_84 sm_L_low rfl rfl (by omega) (Nat.le_of_ble_eq_true rfl) (Nat.le_of_ble_eq_true rfl) (Nat.le_of_ble_eq_true rfl) am_xh_nx (am_C_mono h (fun v K39 N40 I41 P42 z43 h => ?_) (fun _ _ _ _ _ _ h => h))
      replace h := am_iv_or h
      obtain ⟨x44, rfl, h⟩ := h
      show am_E d m_L_ask 89 _ _ _ [am_i x44, am_i 9, am_i x38, am_r a1] K39 N40 I41 P42 z43 Q am_nx
      refine e_iadd dL_ask_89 ?_
      refine e_callSX (Mc := m_L_laneFor) (vs := [am_r a1, am_i x38, am_i (am_wr (9 + x44))]) (st := []) dL_ask_90 ok_L_laneFor rfl mk_L_121 sm_L_laneFor rfl rfl (by omega) (Nat.le_of_ble_eq_true rfl) (Nat.le_of_ble_eq_true rfl) (Nat.le_of_ble_eq_true rfl) am_xh_nx (am_C_mono h (fun v K45 N46 I47 P48 z49 h => ?_) (fun _ _ _ _ _ _ h => h))
      replace h := am_iv_or h
      obtain ⟨x50, rfl, h⟩ := h
      show am_E d m_L_ask 93 _ _ _ [am_i x50] K45 N46 I47 P48 z49 Q am_nx
      exact e_ret_i dL_ask_93 rfl (Nat.le_of_ble_eq_true rfl) (Nat.le_of_ble_eq_true rfl) h
    · have h := h.2.2.2.2.1 (by omega)
      show am_E _ _ 94 _ _ _ _ _ _ _ _ _ _ _
      refine e_aload_n dL_ask_94 rfl trivial ?_
      refine e_iload_n dL_ask_95 rfl ?_
      refine e_bipush dL_ask_96 ?_
      refine e_callS (Mc := m_L_low) (vs := [am_i a3, am_i 6]) (st := [am_r a1]) dL_ask_98 ok_L_low rfl mk_L_84 sm_L_low rfl rfl (by omega) (Nat.le_of_ble_eq_true rfl) (Nat.le_of_ble_eq_true rfl) (Nat.le_of_ble_eq_true rfl) am_xh_nx (am_C_mono h (fun v K51 N52 I53 P54 z55 h => ?_) (fun _ _ _ _ _ _ h => h))
      replace h := am_iv_or h
      obtain ⟨x56, rfl, h⟩ := h
      show am_E d m_L_ask 101 _ _ _ [am_i x56, am_r a1] K51 N52 I53 P54 z55 Q am_nx
      refine e_iconst dL_ask_101 ?_
      refine e_isub dL_ask_102 ?_
      refine e_callSX (Mc := m_L_ranked) (vs := [am_r a1, am_i (am_wr (x56 - 1))]) (st := []) dL_ask_103 ok_L_ranked rfl mk_L_123 sm_L_ranked rfl rfl (by omega) (Nat.le_of_ble_eq_true rfl) (Nat.le_of_ble_eq_true rfl) (Nat.le_of_ble_eq_true rfl) am_xh_nx (am_C_mono h (fun v K57 N58 I59 P60 z61 h => ?_) (fun _ _ _ _ _ _ h => h))
      replace h := am_iv_or h
      obtain ⟨x62, rfl, h⟩ := h
      show am_E d m_L_ask 106 _ _ _ [am_i x62] K57 N58 I59 P60 z61 Q am_nx
      exact e_ret_i dL_ask_106 rfl (Nat.le_of_ble_eq_true rfl) (Nat.le_of_ble_eq_true rfl) h
    · have h := h.2.2.2.2.2.1 (by omega)
      show am_E _ _ 107 _ _ _ _ _ _ _ _ _ _ _
      refine e_aload_n dL_ask_107 rfl trivial ?_
      refine e_iload_n dL_ask_108 rfl ?_
      refine e_bipush dL_ask_109 ?_
      refine e_callS (Mc := m_L_low) (vs := [am_i a3, am_i 9]) (st := [am_r a1]) dL_ask_111 ok_L_low rfl mk_L_84 sm_L_low rfl rfl (by omega) (Nat.le_of_ble_eq_true rfl) (Nat.le_of_ble_eq_true rfl) (Nat.le_of_ble_eq_true rfl) am_xh_nx (am_C_mono h (fun v K63 N64 I65 P66 z67 h => ?_) (fun _ _ _ _ _ _ h => h))
      replace h := am_iv_or h
      obtain ⟨x68, rfl, h⟩ := h
      show am_E d m_L_ask 114 _ _ _ [am_i x68, am_r a1] K63 N64 I65 P66 z67 Q am_nx
      refine e_callSX (Mc := m_L_gapAhead) (vs := [am_r a1, am_i x68]) (st := []) dL_ask_114 ok_L_gapAhead rfl mk_L_125 sm_L_gapAhead rfl rfl (by omega) (Nat.le_of_ble_eq_true rfl) (Nat.le_of_ble_eq_true rfl) (Nat.le_of_ble_eq_true rfl) am_xh_nx (am_C_mono h (fun v K69 N70 I71 P72 z73 h => ?_) (fun _ _ _ _ _ _ h => h))
      replace h := am_iv_or h
      obtain ⟨x74, rfl, h⟩ := h
      show am_E d m_L_ask 117 _ _ _ [am_i x74] K69 N70 I71 P72 z73 Q am_nx
      exact e_ret_i dL_ask_117 rfl (Nat.le_of_ble_eq_true rfl) (Nat.le_of_ble_eq_true rfl) h
    · have h := h.2.2.2.2.2.2.1 (by omega)
      show am_E _ _ 118 _ _ _ _ _ _ _ _ _ _ _
      refine e_aload_n dL_ask_118 rfl trivial ?_
      refine e_iload_n dL_ask_119 rfl ?_
      refine e_bipush dL_ask_120 ?_
      refine e_callS (Mc := m_L_low) (vs := [am_i a3, am_i 8]) (st := [am_r a1]) dL_ask_122 ok_L_low rfl mk_L_84 sm_L_low rfl rfl (by omega) (Nat.le_of_ble_eq_true rfl) (Nat.le_of_ble_eq_true rfl) (Nat.le_of_ble_eq_true rfl) am_xh_nx (am_C_mono h (fun v K75 N76 I77 P78 z79 h => ?_) (fun _ _ _ _ _ _ h => h))
      replace h := am_iv_or h
      obtain ⟨x80, rfl, h⟩ := h
      show am_E d m_L_ask 125 _ _ _ [am_i x80, am_r a1] K75 N76 I77 P78 z79 Q am_nx
      refine e_iconst dL_ask_125 ?_
      refine e_isub dL_ask_126 ?_
      refine e_callSX (Mc := m_L_routeAt) (vs := [am_r a1, am_i (am_wr (x80 - 1))]) (st := []) dL_ask_127 ok_L_routeAt rfl mk_L_127 sm_L_routeAt rfl rfl (by omega) (Nat.le_of_ble_eq_true rfl) (Nat.le_of_ble_eq_true rfl) (Nat.le_of_ble_eq_true rfl) am_xh_nx (am_C_mono h (fun v K81 N82 I83 P84 z85 h => ?_) (fun _ _ _ _ _ _ h => h))
      replace h := am_iv_or h
      obtain ⟨x86, rfl, h⟩ := h
      show am_E d m_L_ask 130 _ _ _ [am_i x86] K81 N82 I83 P84 z85 Q am_nx
      exact e_ret_i dL_ask_130 rfl (Nat.le_of_ble_eq_true rfl) (Nat.le_of_ble_eq_true rfl) h
  · intro hc
    have h := h.2.2.2.2.2.2.2 hc
    show am_E _ _ 131 _ _ _ _ _ _ _ _ _ _ _
    refine e_aload_n dL_ask_131 rfl trivial ?_
    obtain ⟨hK92, h⟩ := h
    refine e_callV (Mc := m_X7_errorPosition) (vs := []) (st := []) dL_ask_132 ok_X7_errorPosition rfl ⟨by decide, rfl⟩ mk_L_129 im_X7_errorPosition sl_X7_errorPosition rfl rfl hK92 (by omega) (Nat.le_of_ble_eq_true rfl) (Nat.le_of_ble_eq_true rfl) (Nat.le_of_ble_eq_true rfl) am_xh_nx (am_C_mono h (fun v K87 N88 I89 P90 z91 h => ?_) (fun _ _ _ _ _ _ h => h))
    replace h := am_iv_or h
    obtain ⟨x93, rfl, h⟩ := h
    show am_E d m_L_ask 135 _ _ _ [am_i x93] K87 N88 I89 P90 z91 Q am_nx
    exact e_ret_i dL_ask_135 rfl (Nat.le_of_ble_eq_true rfl) (Nat.le_of_ble_eq_true rfl) h
def L_L_isCounted_4 (d : Nat) (k n : Nat) (l0 : Nat) (l1 : Int) (l2 : Int) (K N : Nat → Nat) (I : Nat → Nat → Int) (P : Nat → Nat → Option Nat) (z : Nat) (Q : am_V → am_T) : Prop := am_E d m_L_isCounted 4 k n [some (am_r l0), some (am_i l1), some (am_i l2), none] [] K N I P z Q am_nx
def L_L_isCounted_28 (d : Nat) (k n : Nat) (l0 : Nat) (l1 : Int) (l2 : Int) (l3 : Int) (K N : Nat → Nat) (I : Nat → Nat → Int) (P : Nat → Nat → Option Nat) (z : Nat) (Q : am_V → am_T) : Prop := am_E d m_L_isCounted 28 k n [some (am_r l0), some (am_i l1), some (am_i l2), some (am_i l3)] [] K N I P z Q am_nx
set_option maxRecDepth 100000 in
set_option maxHeartbeats 4000000 in
theorem wf_L_isCounted {d : Nat} {a1 : Nat} {K N : Nat → Nat} {I : Nat → Nat → Int} {P : Nat → Nat → Option Nat} {z : Nat} {Q : am_V → am_T} (h :
  L_L_isCounted_4 d 0 0 a1 0 1 K N I P z Q) :
  am_C d m_L_isCounted [am_r a1] K N I P z Q am_nx := by
  refine am_C_of ok_L_isCounted (fun v hv => am_v1all _ rfl v hv) (Nat.le_of_ble_eq_true rfl) ?_
  show am_E d m_L_isCounted 0 0 0 [some (am_r a1), none, none, none] [] K N I P z Q am_nx
  refine e_iconst dL_isCounted_0 ?_
  refine e_istore_n dL_isCounted_1 ?_
  refine e_iconst dL_isCounted_2 ?_
  refine e_istore_n dL_isCounted_3 ?_
  exact e_forget (am_sub_k (am_sub_k (am_sub_k (am_sub_d am_sub_nil)))) h
set_option maxRecDepth 100000 in
set_option maxHeartbeats 4000000 in
theorem wf_L_isCounted_4 {d : Nat} (hd : 1 ≤ d) {k n : Nat} {l0 : Nat} {l1 : Int} {l2 : Int} {K N : Nat → Nat} {I : Nat → Nat → Int} {P : Nat → Nat → Option Nat} {z : Nat} {Q : am_V → am_T} (h :
  ((7 ≤ l2 →
    L_L_isCounted_28 d k n l0 l1 0 0 K N I P z Q) ∧
    (¬ (7 ≤ l2) →
    (k + 1 ≤ 100 ∧ n + 6 ≤ 600) ∧ am_C (d - 1) m_L_lost [am_r l0, am_i l2] K N I P z (fun v K1 N2 I3 P4 z5 => am_iv v fun x6 =>
      L_L_isCounted_4 d (k + 1) (n + 6) l0 (am_wr (l1 + x6)) (am_wr (l2 + 1)) K1 N2 I3 P4 z5 Q) am_nx))) :
  L_L_isCounted_4 d k n l0 l1 l2 K N I P z Q := by
  unfold L_L_isCounted_4
  refine e_iload_n dL_isCounted_4 rfl ?_
  refine e_bipush dL_isCounted_5 ?_
  refine e_icmp_ge (tgt := 24) dL_isCounted_7 (by decide) (fun hc => ?_) (fun hc => ?_)
  · replace h := h.1 hc
    refine e_iconst dL_isCounted_24 ?_
    refine e_istore_n dL_isCounted_25 ?_
    refine e_iconst dL_isCounted_26 ?_
    refine e_istore_n dL_isCounted_27 ?_
    exact e_forget (am_sub_k (am_sub_k (am_sub_k (am_sub_k am_sub_nil)))) h
  · replace h := h.2 hc
    refine e_iload_n dL_isCounted_10 rfl ?_
    refine e_aload_n dL_isCounted_11 rfl trivial ?_
    refine e_iload_n dL_isCounted_12 rfl ?_
    obtain ⟨⟨hk9, hn9⟩, h⟩ := h
    refine e_callSX (Mc := m_L_lost) (vs := [am_r l0, am_i l2]) (st := [am_i l1]) dL_isCounted_13 ok_L_lost rfl mk_L_132 sm_L_lost rfl rfl (by omega) (Nat.le_of_ble_eq_true rfl) hk9 hn9 am_xh_nx (am_C_mono h (fun v K1 N2 I3 P4 z5 h => ?_) (fun _ _ _ _ _ _ h => h))
    replace h := am_iv_or h
    obtain ⟨x6, rfl, h⟩ := h
    show am_E d m_L_isCounted 16 (k + 1) (n + 6) _ [am_i x6, am_i l1] K1 N2 I3 P4 z5 Q am_nx
    refine e_iadd dL_isCounted_16 ?_
    refine e_istore_n dL_isCounted_17 ?_
    refine e_iinc dL_isCounted_18 rfl ?_
    refine e_goto (tgt := 4) dL_isCounted_21 (by decide) ?_
    exact e_forget (am_sub_k (am_sub_k (am_sub_k (am_sub_d am_sub_nil)))) h
set_option maxRecDepth 100000 in
set_option maxHeartbeats 4000000 in
theorem wf_L_isCounted_28 {d : Nat} (hd : 1 ≤ d) {k n : Nat} {l0 : Nat} {l1 : Int} {l2 : Int} {l3 : Int} {K N : Nat → Nat} {I : Nat → Nat → Int} {P : Nat → Nat → Option Nat} {z : Nat} {Q : am_V → am_T} (h :
  (k + 1 ≤ 100 ∧ n + 6 ≤ 600) ∧ am_C (d - 1) m_L_total [am_r l0, am_i 6] K N I P z (fun v K1 N2 I3 P4 z5 => am_iv v fun x6 =>
    ((x6 ≤ l3 →
    (k + 1 + 1 ≤ 100 ∧ n + 6 + 6 ≤ 600) ∧ am_C (d - 1) m_L_total [am_r l0, am_i 4] K1 N2 I3 P4 z5 (fun v K7 N8 I9 P10 z11 => am_iv v fun x12 =>
      ((¬ l1 = x12 →
      (k + 1 + 1 ≤ 100 ∧ n + 6 + 6 ≤ 600) ∧ Q (am_i 0) K7 N8 I9 P10 z11) ∧
      (l1 = x12 →
      (k + 1 + 1 + 1 ≤ 100 ∧ n + 6 + 6 + 6 ≤ 600) ∧ am_C (d - 1) m_L_total [am_r l0, am_i 3] K7 N8 I9 P10 z11 (fun v K13 N14 I15 P16 z17 => am_iv v fun x18 =>
        ((¬ l2 = x18 →
        (k + 1 + 1 + 1 ≤ 100 ∧ n + 6 + 6 + 6 ≤ 600) ∧ Q (am_i 0) K13 N14 I15 P16 z17) ∧
        (l2 = x18 →
        (k + 1 + 1 + 1 + 1 ≤ 100 ∧ n + 6 + 6 + 6 + 6 ≤ 600) ∧ am_C (d - 1) m_L_total [am_r l0, am_i 1] K13 N14 I15 P16 z17 (fun v K19 N20 I21 P22 z23 => am_iv v fun x24 =>
          (k + 1 + 1 + 1 + 1 + 1 ≤ 100 ∧ n + 6 + 6 + 6 + 6 + 6 ≤ 600) ∧ am_C (d - 1) m_L_total [am_r l0, am_i 2] K19 N20 I21 P22 z23 (fun v K25 N26 I27 P28 z29 => am_iv v fun x30 =>
          (k + 1 + 1 + 1 + 1 + 1 + 1 ≤ 100 ∧ n + 6 + 6 + 6 + 6 + 6 + 6 ≤ 600) ∧ am_C (d - 1) m_L_total [am_r l0, am_i 3] K25 N26 I27 P28 z29 (fun v K31 N32 I33 P34 z35 => am_iv v fun x36 =>
          (k + 1 + 1 + 1 + 1 + 1 + 1 + 1 ≤ 100 ∧ n + 6 + 6 + 6 + 6 + 6 + 6 + 6 ≤ 600) ∧ am_C (d - 1) m_L_total [am_r l0, am_i 4] K31 N32 I33 P34 z35 (fun v K37 N38 I39 P40 z41 => am_iv v fun x42 =>
          (k + 1 + 1 + 1 + 1 + 1 + 1 + 1 + 1 ≤ 100 ∧ n + 6 + 6 + 6 + 6 + 6 + 6 + 6 + 6 ≤ 600) ∧ am_C (d - 1) m_L_total [am_r l0, am_i 5] K37 N38 I39 P40 z41 (fun v K43 N44 I45 P46 z47 => am_iv v fun x48 =>
          ((¬ x24 = am_wr ((am_wr ((am_wr (x30 + x36)) + x42)) + x48) →
          (k + 1 + 1 + 1 + 1 + 1 + 1 + 1 + 1 ≤ 100 ∧ n + 6 + 6 + 6 + 6 + 6 + 6 + 6 + 6 ≤ 600) ∧ Q (am_i 0) K43 N44 I45 P46 z47) ∧
          (x24 = am_wr ((am_wr ((am_wr (x30 + x36)) + x42)) + x48) →
          (k + 1 + 1 + 1 + 1 + 1 + 1 + 1 + 1 ≤ 100 ∧ n + 6 + 6 + 6 + 6 + 6 + 6 + 6 + 6 ≤ 600) ∧ Q (am_i 1) K43 N44 I45 P46 z47))) am_nx) am_nx) am_nx) am_nx) am_nx))) am_nx))) am_nx) ∧
    (¬ (x6 ≤ l3) →
    (k + 1 + 1 ≤ 100 ∧ n + 6 + 6 ≤ 600) ∧ am_C (d - 1) m_L_lane [am_r l0, am_i l3, am_i 4] K1 N2 I3 P4 z5 (fun v K49 N50 I51 P52 z53 => am_iv v fun x54 =>
      (k + 1 + 1 + 1 ≤ 100 ∧ n + 6 + 6 + 6 ≤ 600) ∧ am_C (d - 1) m_L_lane [am_r l0, am_i l3, am_i 3] K49 N50 I51 P52 z53 (fun v K55 N56 I57 P58 z59 => am_iv v fun x60 =>
      (k + 1 + 1 + 1 + 1 ≤ 100 ∧ n + 6 + 6 + 6 + 6 ≤ 600) ∧ am_C (d - 1) m_L_lane [am_r l0, am_i l3, am_i 2] K55 N56 I57 P58 z59 (fun v K61 N62 I63 P64 z65 => am_iv v fun x66 =>
      ((x60 ≤ x66 →
      L_L_isCounted_28 d (k + 1 + 1 + 1 + 1) (n + 6 + 6 + 6 + 6) l0 l1 (am_wr (l2 + x54)) (am_wr (l3 + 1)) K61 N62 I63 P64 z65 Q) ∧
      (¬ (x60 ≤ x66) →
      (k + 1 + 1 + 1 + 1 ≤ 100 ∧ n + 6 + 6 + 6 + 6 ≤ 600) ∧ Q (am_i 0) K61 N62 I63 P64 z65))) am_nx) am_nx) am_nx))) am_nx) :
  L_L_isCounted_28 d k n l0 l1 l2 l3 K N I P z Q := by
  unfold L_L_isCounted_28
  refine e_iload_n dL_isCounted_28 rfl ?_
  refine e_aload_n dL_isCounted_29 rfl trivial ?_
  refine e_bipush dL_isCounted_30 ?_
  obtain ⟨⟨hk9, hn9⟩, h⟩ := h
  refine e_callSX (Mc := m_L_total) (vs := [am_r l0, am_i 6]) (st := [am_i l3]) dL_isCounted_32 ok_L_total rfl mk_L_134 sm_L_total rfl rfl (by omega) (Nat.le_of_ble_eq_true rfl) hk9 hn9 am_xh_nx (am_C_mono h (fun v K1 N2 I3 P4 z5 h => ?_) (fun _ _ _ _ _ _ h => h))
  replace h := am_iv_or h
  obtain ⟨x6, rfl, h⟩ := h
  show am_E d m_L_isCounted 35 (k + 1) (n + 6) _ [am_i x6, am_i l3] K1 N2 I3 P4 z5 Q am_nx
  refine e_icmp_ge (tgt := 70) dL_isCounted_35 (by decide) (fun hc => ?_) (fun hc => ?_)
  · replace h := h.1 hc
    refine e_iload_n dL_isCounted_70 rfl ?_
    refine e_aload_n dL_isCounted_71 rfl trivial ?_
    refine e_iconst dL_isCounted_72 ?_
    obtain ⟨⟨hk9, hn9⟩, h⟩ := h
    refine e_callSX (Mc := m_L_total) (vs := [am_r l0, am_i 4]) (st := [am_i l1]) dL_isCounted_73 ok_L_total rfl mk_L_134 sm_L_total rfl rfl (by omega) (Nat.le_of_ble_eq_true rfl) hk9 hn9 am_xh_nx (am_C_mono h (fun v K7 N8 I9 P10 z11 h => ?_) (fun _ _ _ _ _ _ h => h))
    replace h := am_iv_or h
    obtain ⟨x12, rfl, h⟩ := h
    show am_E d m_L_isCounted 76 (k + 1 + 1) (n + 6 + 6) _ [am_i x12, am_i l1] K7 N8 I9 P10 z11 Q am_nx
    refine e_icmp_ne (tgt := 123) dL_isCounted_76 (by decide) (fun hc => ?_) (fun hc => ?_)
    · replace h := h.1 hc
      refine e_iconst dL_isCounted_123 ?_
      obtain ⟨⟨hk9, hn9⟩, h⟩ := h
      exact e_ret_z dL_isCounted_124 rfl (by decide) hk9 hn9 h
    · replace h := h.2 hc
      refine e_iload_n dL_isCounted_79 rfl ?_
      refine e_aload_n dL_isCounted_80 rfl trivial ?_
      refine e_iconst dL_isCounted_81 ?_
      obtain ⟨⟨hk9, hn9⟩, h⟩ := h
      refine e_callSX (Mc := m_L_total) (vs := [am_r l0, am_i 3]) (st := [am_i l2]) dL_isCounted_82 ok_L_total rfl mk_L_134 sm_L_total rfl rfl (by omega) (Nat.le_of_ble_eq_true rfl) hk9 hn9 am_xh_nx (am_C_mono h (fun v K13 N14 I15 P16 z17 h => ?_) (fun _ _ _ _ _ _ h => h))
      replace h := am_iv_or h
      obtain ⟨x18, rfl, h⟩ := h
      show am_E d m_L_isCounted 85 (k + 1 + 1 + 1) (n + 6 + 6 + 6) _ [am_i x18, am_i l2] K13 N14 I15 P16 z17 Q am_nx
      refine e_icmp_ne (tgt := 123) dL_isCounted_85 (by decide) (fun hc => ?_) (fun hc => ?_)
      · replace h := h.1 hc
        refine e_iconst dL_isCounted_123 ?_
        obtain ⟨⟨hk9, hn9⟩, h⟩ := h
        exact e_ret_z dL_isCounted_124 rfl (by decide) hk9 hn9 h
      · replace h := h.2 hc
        refine e_aload_n dL_isCounted_88 rfl trivial ?_
        refine e_iconst dL_isCounted_89 ?_
        obtain ⟨⟨hk9, hn9⟩, h⟩ := h
        refine e_callSX (Mc := m_L_total) (vs := [am_r l0, am_i 1]) (st := []) dL_isCounted_90 ok_L_total rfl mk_L_134 sm_L_total rfl rfl (by omega) (Nat.le_of_ble_eq_true rfl) hk9 hn9 am_xh_nx (am_C_mono h (fun v K19 N20 I21 P22 z23 h => ?_) (fun _ _ _ _ _ _ h => h))
        replace h := am_iv_or h
        obtain ⟨x24, rfl, h⟩ := h
        show am_E d m_L_isCounted 93 (k + 1 + 1 + 1 + 1) (n + 6 + 6 + 6 + 6) _ [am_i x24] K19 N20 I21 P22 z23 Q am_nx
        refine e_aload_n dL_isCounted_93 rfl trivial ?_
        refine e_iconst dL_isCounted_94 ?_
        obtain ⟨⟨hk9, hn9⟩, h⟩ := h
        refine e_callSX (Mc := m_L_total) (vs := [am_r l0, am_i 2]) (st := [am_i x24]) dL_isCounted_95 ok_L_total rfl mk_L_134 sm_L_total rfl rfl (by omega) (Nat.le_of_ble_eq_true rfl) hk9 hn9 am_xh_nx (am_C_mono h (fun v K25 N26 I27 P28 z29 h => ?_) (fun _ _ _ _ _ _ h => h))
        replace h := am_iv_or h
        obtain ⟨x30, rfl, h⟩ := h
        show am_E d m_L_isCounted 98 (k + 1 + 1 + 1 + 1 + 1) (n + 6 + 6 + 6 + 6 + 6) _ [am_i x30, am_i x24] K25 N26 I27 P28 z29 Q am_nx
        refine e_aload_n dL_isCounted_98 rfl trivial ?_
        refine e_iconst dL_isCounted_99 ?_
        obtain ⟨⟨hk9, hn9⟩, h⟩ := h
        refine e_callSX (Mc := m_L_total) (vs := [am_r l0, am_i 3]) (st := [am_i x30, am_i x24]) dL_isCounted_100 ok_L_total rfl mk_L_134 sm_L_total rfl rfl (by omega) (Nat.le_of_ble_eq_true rfl) hk9 hn9 am_xh_nx (am_C_mono h (fun v K31 N32 I33 P34 z35 h => ?_) (fun _ _ _ _ _ _ h => h))
        replace h := am_iv_or h
        obtain ⟨x36, rfl, h⟩ := h
        show am_E d m_L_isCounted 103 (k + 1 + 1 + 1 + 1 + 1 + 1) (n + 6 + 6 + 6 + 6 + 6 + 6) _ [am_i x36, am_i x30, am_i x24] K31 N32 I33 P34 z35 Q am_nx
        refine e_iadd dL_isCounted_103 ?_
        refine e_aload_n dL_isCounted_104 rfl trivial ?_
        refine e_iconst dL_isCounted_105 ?_
        obtain ⟨⟨hk9, hn9⟩, h⟩ := h
        refine e_callSX (Mc := m_L_total) (vs := [am_r l0, am_i 4]) (st := [am_i (am_wr (x30 + x36)), am_i x24]) dL_isCounted_106 ok_L_total rfl mk_L_134 sm_L_total rfl rfl (by omega) (Nat.le_of_ble_eq_true rfl) hk9 hn9 am_xh_nx (am_C_mono h (fun v K37 N38 I39 P40 z41 h => ?_) (fun _ _ _ _ _ _ h => h))
        replace h := am_iv_or h
        obtain ⟨x42, rfl, h⟩ := h
        show am_E d m_L_isCounted 109 (k + 1 + 1 + 1 + 1 + 1 + 1 + 1) (n + 6 + 6 + 6 + 6 + 6 + 6 + 6) _ [am_i x42, am_i (am_wr (x30 + x36)), am_i x24] K37 N38 I39 P40 z41 Q am_nx
        refine e_iadd dL_isCounted_109 ?_
        refine e_aload_n dL_isCounted_110 rfl trivial ?_
        refine e_iconst dL_isCounted_111 ?_
        obtain ⟨⟨hk9, hn9⟩, h⟩ := h
        refine e_callSX (Mc := m_L_total) (vs := [am_r l0, am_i 5]) (st := [am_i (am_wr ((am_wr (x30 + x36)) + x42)), am_i x24]) dL_isCounted_112 ok_L_total rfl mk_L_134 sm_L_total rfl rfl (by omega) (Nat.le_of_ble_eq_true rfl) hk9 hn9 am_xh_nx (am_C_mono h (fun v K43 N44 I45 P46 z47 h => ?_) (fun _ _ _ _ _ _ h => h))
        replace h := am_iv_or h
        obtain ⟨x48, rfl, h⟩ := h
        show am_E d m_L_isCounted 115 (k + 1 + 1 + 1 + 1 + 1 + 1 + 1 + 1) (n + 6 + 6 + 6 + 6 + 6 + 6 + 6 + 6) _ [am_i x48, am_i (am_wr ((am_wr (x30 + x36)) + x42)), am_i x24] K43 N44 I45 P46 z47 Q am_nx
        refine e_iadd dL_isCounted_115 ?_
        refine e_icmp_ne (tgt := 123) dL_isCounted_116 (by decide) (fun hc => ?_) (fun hc => ?_)
        · replace h := h.1 hc
          refine e_iconst dL_isCounted_123 ?_
          obtain ⟨⟨hk9, hn9⟩, h⟩ := h
          exact e_ret_z dL_isCounted_124 rfl (by decide) hk9 hn9 h
        · replace h := h.2 hc
          refine e_iconst dL_isCounted_119 ?_
          refine e_goto (tgt := 124) dL_isCounted_120 (by decide) ?_
          obtain ⟨⟨hk9, hn9⟩, h⟩ := h
          exact e_ret_z dL_isCounted_124 rfl (by decide) hk9 hn9 h
  · replace h := h.2 hc
    refine e_iload_n dL_isCounted_38 rfl ?_
    refine e_aload_n dL_isCounted_39 rfl trivial ?_
    refine e_iload_n dL_isCounted_40 rfl ?_
    refine e_iconst dL_isCounted_41 ?_
    obtain ⟨⟨hk9, hn9⟩, h⟩ := h
    refine e_callSX (Mc := m_L_lane) (vs := [am_r l0, am_i l3, am_i 4]) (st := [am_i l2]) dL_isCounted_42 ok_L_lane rfl mk_L_136 sm_L_lane rfl rfl (by omega) (Nat.le_of_ble_eq_true rfl) hk9 hn9 am_xh_nx (am_C_mono h (fun v K49 N50 I51 P52 z53 h => ?_) (fun _ _ _ _ _ _ h => h))
    replace h := am_iv_or h
    obtain ⟨x54, rfl, h⟩ := h
    show am_E d m_L_isCounted 45 (k + 1 + 1) (n + 6 + 6) _ [am_i x54, am_i l2] K49 N50 I51 P52 z53 Q am_nx
    refine e_iadd dL_isCounted_45 ?_
    refine e_istore_n dL_isCounted_46 ?_
    refine e_aload_n dL_isCounted_47 rfl trivial ?_
    refine e_iload_n dL_isCounted_48 rfl ?_
    refine e_iconst dL_isCounted_49 ?_
    obtain ⟨⟨hk9, hn9⟩, h⟩ := h
    refine e_callSX (Mc := m_L_lane) (vs := [am_r l0, am_i l3, am_i 3]) (st := []) dL_isCounted_50 ok_L_lane rfl mk_L_136 sm_L_lane rfl rfl (by omega) (Nat.le_of_ble_eq_true rfl) hk9 hn9 am_xh_nx (am_C_mono h (fun v K55 N56 I57 P58 z59 h => ?_) (fun _ _ _ _ _ _ h => h))
    replace h := am_iv_or h
    obtain ⟨x60, rfl, h⟩ := h
    show am_E d m_L_isCounted 53 (k + 1 + 1 + 1) (n + 6 + 6 + 6) _ [am_i x60] K55 N56 I57 P58 z59 Q am_nx
    refine e_aload_n dL_isCounted_53 rfl trivial ?_
    refine e_iload_n dL_isCounted_54 rfl ?_
    refine e_iconst dL_isCounted_55 ?_
    obtain ⟨⟨hk9, hn9⟩, h⟩ := h
    refine e_callSX (Mc := m_L_lane) (vs := [am_r l0, am_i l3, am_i 2]) (st := [am_i x60]) dL_isCounted_56 ok_L_lane rfl mk_L_136 sm_L_lane rfl rfl (by omega) (Nat.le_of_ble_eq_true rfl) hk9 hn9 am_xh_nx (am_C_mono h (fun v K61 N62 I63 P64 z65 h => ?_) (fun _ _ _ _ _ _ h => h))
    replace h := am_iv_or h
    obtain ⟨x66, rfl, h⟩ := h
    show am_E d m_L_isCounted 59 (k + 1 + 1 + 1 + 1) (n + 6 + 6 + 6 + 6) _ [am_i x66, am_i x60] K61 N62 I63 P64 z65 Q am_nx
    refine e_icmp_le (tgt := 64) dL_isCounted_59 (by decide) (fun hc => ?_) (fun hc => ?_)
    · replace h := h.1 hc
      refine e_iinc dL_isCounted_64 rfl ?_
      refine e_goto (tgt := 28) dL_isCounted_67 (by decide) ?_
      exact e_forget (am_sub_k (am_sub_k (am_sub_k (am_sub_k am_sub_nil)))) h
    · replace h := h.2 hc
      refine e_iconst dL_isCounted_62 ?_
      obtain ⟨⟨hk9, hn9⟩, h⟩ := h
      exact e_ret_z dL_isCounted_63 rfl (by decide) hk9 hn9 h
def L_L_areApart_5 (d : Nat) (k n : Nat) (l0 : Nat) (l1 : Int) (l2 : Int) (K N : Nat → Nat) (I : Nat → Nat → Int) (P : Nat → Nat → Option Nat) (z : Nat) (Q : am_V → am_T) : Prop := am_E d m_L_areApart 5 k n [some (am_r l0), some (am_i l1), some (am_i l2), none] [] K N I P z Q am_nx
set_option maxRecDepth 100000 in
set_option maxHeartbeats 4000000 in
theorem wf_L_areApart {d : Nat} {a1 : Nat} {K N : Nat → Nat} {I : Nat → Nat → Int} {P : Nat → Nat → Option Nat} {z : Nat} {Q : am_V → am_T} (h :
  L_L_areApart_5 d 0 0 a1 99999 0 K N I P z Q) :
  am_C d m_L_areApart [am_r a1] K N I P z Q am_nx := by
  refine am_C_of ok_L_areApart (fun v hv => am_v1all _ rfl v hv) (Nat.le_of_ble_eq_true rfl) ?_
  show am_E d m_L_areApart 0 0 0 [some (am_r a1), none, none, none] [] K N I P z Q am_nx
  refine e_ldc dL_areApart_0 lc_L_138 ?_
  refine e_istore_n dL_areApart_2 ?_
  refine e_iconst dL_areApart_3 ?_
  refine e_istore_n dL_areApart_4 ?_
  exact e_forget (am_sub_k (am_sub_k (am_sub_k (am_sub_d am_sub_nil)))) h
set_option maxRecDepth 100000 in
set_option maxHeartbeats 4000000 in
theorem wf_L_areApart_5 {d : Nat} (hd : 1 ≤ d) {k n : Nat} {l0 : Nat} {l1 : Int} {l2 : Int} {K N : Nat → Nat} {I : Nat → Nat → Int} {P : Nat → Nat → Option Nat} {z : Nat} {Q : am_V → am_T} (h :
  (k + 1 ≤ 3000 ∧ n + 6 ≤ 18000) ∧ am_C (d - 1) m_L_total [am_r l0, am_i 1] K N I P z (fun v K1 N2 I3 P4 z5 => am_iv v fun x6 =>
    ((x6 ≤ l2 →
    (k + 1 ≤ 3000 ∧ n + 6 ≤ 18000) ∧ Q (am_i 1) K1 N2 I3 P4 z5) ∧
    (¬ (x6 ≤ l2) →
    (k + 1 + 1 ≤ 3000 ∧ n + 6 + 6 ≤ 18000) ∧ am_C (d - 1) m_L_part [am_r l0, am_i l2, am_i 1] K1 N2 I3 P4 z5 (fun v K7 N8 I9 P10 z11 => am_iv v fun x12 =>
      ((¬ x12 = 0 →
      L_L_areApart_5 d (k + 1 + 1) (n + 6 + 6) l0 l1 (am_wr (l2 + 1)) K7 N8 I9 P10 z11 Q) ∧
      (x12 = 0 →
      (k + 1 + 1 + 1 ≤ 3000 ∧ n + 6 + 6 + 6 ≤ 18000) ∧ am_C (d - 1) m_L_gapAhead [am_r l0, am_i l2] K7 N8 I9 P10 z11 (fun v K13 N14 I15 P16 z17 => am_iv v fun x18 =>
        ((¬ l1 = 99999 →
        (k + 1 + 1 + 1 + 1 ≤ 3000 ∧ n + 6 + 6 + 6 + 6 ≤ 18000) ∧ am_C (d - 1) m_L_part [am_r l0, am_i l2, am_i 2] K13 N14 I15 P16 z17 (fun v K19 N20 I21 P22 z23 => am_iv v fun x24 =>
          ((¬ x18 = am_wr (l1 - x24) →
          (k + 1 + 1 + 1 + 1 ≤ 3000 ∧ n + 6 + 6 + 6 + 6 ≤ 18000) ∧ Q (am_i 0) K19 N20 I21 P22 z23) ∧
          (x18 = am_wr (l1 - x24) →
          (k + 1 + 1 + 1 + 1 + 1 ≤ 3000 ∧ n + 6 + 6 + 6 + 6 + 6 ≤ 18000) ∧ am_C (d - 1) m_L_part [am_r l0, am_i l2, am_i 2] K19 N20 I21 P22 z23 (fun v K25 N26 I27 P28 z29 => am_iv v fun x30 =>
            ((l1 < x30 →
            (k + 1 + 1 + 1 + 1 + 1 ≤ 3000 ∧ n + 6 + 6 + 6 + 6 + 6 ≤ 18000) ∧ Q (am_i 0) K25 N26 I27 P28 z29) ∧
            (¬ (l1 < x30) →
            (k + 1 + 1 + 1 + 1 + 1 + 1 ≤ 3000 ∧ n + 6 + 6 + 6 + 6 + 6 + 6 ≤ 18000) ∧ am_C (d - 1) m_L_part [am_r l0, am_i l2, am_i 2] K25 N26 I27 P28 z29 (fun v K31 N32 I33 P34 z35 => am_iv v fun x36 =>
              (k + 1 + 1 + 1 + 1 + 1 + 1 + 1 ≤ 3000 ∧ n + 6 + 6 + 6 + 6 + 6 + 6 + 6 ≤ 18000) ∧ am_C (d - 1) m_L_setting [am_r l0, am_i 4] K31 N32 I33 P34 z35 (fun v K37 N38 I39 P40 z41 => am_iv v fun x42 =>
              ((x36 < x42 →
              (k + 1 + 1 + 1 + 1 + 1 + 1 + 1 + 1 ≤ 3000 ∧ n + 6 + 6 + 6 + 6 + 6 + 6 + 6 + 6 ≤ 18000) ∧ am_C (d - 1) m_L_part [am_r l0, am_i l2, am_i 2] K37 N38 I39 P40 z41 (fun v K43 N44 I45 P46 z47 => am_iv v fun x48 =>
                (k + 1 + 1 + 1 + 1 + 1 + 1 + 1 + 1 + 1 ≤ 3000 ∧ n + 6 + 6 + 6 + 6 + 6 + 6 + 6 + 6 + 6 ≤ 18000) ∧ am_C (d - 1) m_L_part [am_r l0, am_i l2, am_i 0] K43 N44 I45 P46 z47 (fun v K49 N50 I51 P52 z53 => am_iv v fun x54 =>
                L_L_areApart_5 d (k + 1 + 1 + 1 + 1 + 1 + 1 + 1 + 1 + 1) (n + 6 + 6 + 6 + 6 + 6 + 6 + 6 + 6 + 6) l0 (am_wr (x48 - x54)) (am_wr (l2 + 1)) K49 N50 I51 P52 z53 Q) am_nx) am_nx) ∧
              (¬ (x36 < x42) →
              (k + 1 + 1 + 1 + 1 + 1 + 1 + 1 ≤ 3000 ∧ n + 6 + 6 + 6 + 6 + 6 + 6 + 6 ≤ 18000) ∧ Q (am_i 0) K37 N38 I39 P40 z41))) am_nx) am_nx))) am_nx))) am_nx) ∧
        (l1 = 99999 →
        ((¬ x18 = (-1) →
          (k + 1 + 1 + 1 ≤ 3000 ∧ n + 6 + 6 + 6 ≤ 18000) ∧ Q (am_i 0) K13 N14 I15 P16 z17) ∧
          (x18 = (-1) →
          (k + 1 + 1 + 1 + 1 ≤ 3000 ∧ n + 6 + 6 + 6 + 6 ≤ 18000) ∧ am_C (d - 1) m_L_part [am_r l0, am_i l2, am_i 2] K13 N14 I15 P16 z17 (fun v K55 N56 I57 P58 z59 => am_iv v fun x60 =>
            ((l1 < x60 →
            (k + 1 + 1 + 1 + 1 ≤ 3000 ∧ n + 6 + 6 + 6 + 6 ≤ 18000) ∧ Q (am_i 0) K55 N56 I57 P58 z59) ∧
            (¬ (l1 < x60) →
            (k + 1 + 1 + 1 + 1 + 1 ≤ 3000 ∧ n + 6 + 6 + 6 + 6 + 6 ≤ 18000) ∧ am_C (d - 1) m_L_part [am_r l0, am_i l2, am_i 2] K55 N56 I57 P58 z59 (fun v K61 N62 I63 P64 z65 => am_iv v fun x66 =>
              (k + 1 + 1 + 1 + 1 + 1 + 1 ≤ 3000 ∧ n + 6 + 6 + 6 + 6 + 6 + 6 ≤ 18000) ∧ am_C (d - 1) m_L_setting [am_r l0, am_i 4] K61 N62 I63 P64 z65 (fun v K67 N68 I69 P70 z71 => am_iv v fun x72 =>
              ((x66 < x72 →
              (k + 1 + 1 + 1 + 1 + 1 + 1 + 1 ≤ 3000 ∧ n + 6 + 6 + 6 + 6 + 6 + 6 + 6 ≤ 18000) ∧ am_C (d - 1) m_L_part [am_r l0, am_i l2, am_i 2] K67 N68 I69 P70 z71 (fun v K73 N74 I75 P76 z77 => am_iv v fun x78 =>
                (k + 1 + 1 + 1 + 1 + 1 + 1 + 1 + 1 ≤ 3000 ∧ n + 6 + 6 + 6 + 6 + 6 + 6 + 6 + 6 ≤ 18000) ∧ am_C (d - 1) m_L_part [am_r l0, am_i l2, am_i 0] K73 N74 I75 P76 z77 (fun v K79 N80 I81 P82 z83 => am_iv v fun x84 =>
                L_L_areApart_5 d (k + 1 + 1 + 1 + 1 + 1 + 1 + 1 + 1) (n + 6 + 6 + 6 + 6 + 6 + 6 + 6 + 6) l0 (am_wr (x78 - x84)) (am_wr (l2 + 1)) K79 N80 I81 P82 z83 Q) am_nx) am_nx) ∧
              (¬ (x66 < x72) →
              (k + 1 + 1 + 1 + 1 + 1 + 1 ≤ 3000 ∧ n + 6 + 6 + 6 + 6 + 6 + 6 ≤ 18000) ∧ Q (am_i 0) K67 N68 I69 P70 z71))) am_nx) am_nx))) am_nx))))) am_nx))) am_nx))) am_nx) :
  L_L_areApart_5 d k n l0 l1 l2 K N I P z Q := by
  unfold L_L_areApart_5
  refine e_iload_n dL_areApart_5 rfl ?_
  refine e_aload_n dL_areApart_6 rfl trivial ?_
  refine e_iconst dL_areApart_7 ?_
  obtain ⟨⟨hk9, hn9⟩, h⟩ := h
  refine e_callSX (Mc := m_L_total) (vs := [am_r l0, am_i 1]) (st := [am_i l2]) dL_areApart_8 ok_L_total rfl mk_L_134 sm_L_total rfl rfl (by omega) (Nat.le_of_ble_eq_true rfl) hk9 hn9 am_xh_nx (am_C_mono h (fun v K1 N2 I3 P4 z5 h => ?_) (fun _ _ _ _ _ _ h => h))
  replace h := am_iv_or h
  obtain ⟨x6, rfl, h⟩ := h
  show am_E d m_L_areApart 11 (k + 1) (n + 6) _ [am_i x6, am_i l2] K1 N2 I3 P4 z5 Q am_nx
  refine e_icmp_ge (tgt := 97) dL_areApart_11 (by decide) (fun hc => ?_) (fun hc => ?_)
  · replace h := h.1 hc
    refine e_iconst dL_areApart_97 ?_
    obtain ⟨⟨hk9, hn9⟩, h⟩ := h
    exact e_ret_z dL_areApart_98 rfl (by decide) hk9 hn9 h
  · replace h := h.2 hc
    refine e_aload_n dL_areApart_14 rfl trivial ?_
    refine e_iload_n dL_areApart_15 rfl ?_
    refine e_iconst dL_areApart_16 ?_
    obtain ⟨⟨hk9, hn9⟩, h⟩ := h
    refine e_callSX (Mc := m_L_part) (vs := [am_r l0, am_i l2, am_i 1]) (st := []) dL_areApart_17 ok_L_part rfl mk_L_139 sm_L_part rfl rfl (by omega) (Nat.le_of_ble_eq_true rfl) hk9 hn9 am_xh_nx (am_C_mono h (fun v K7 N8 I9 P10 z11 h => ?_) (fun _ _ _ _ _ _ h => h))
    replace h := am_iv_or h
    obtain ⟨x12, rfl, h⟩ := h
    show am_E d m_L_areApart 20 (k + 1 + 1) (n + 6 + 6) _ [am_i x12] K7 N8 I9 P10 z11 Q am_nx
    refine e_if_ne (tgt := 91) dL_areApart_20 (by decide) (fun hc => ?_) (fun hc => ?_)
    · replace h := h.1 hc
      refine e_iinc dL_areApart_91 rfl ?_
      refine e_goto (tgt := 5) dL_areApart_94 (by decide) ?_
      exact e_forget (am_sub_k (am_sub_k (am_sub_k (am_sub_d am_sub_nil)))) h
    · replace h := h.2 hc
      refine e_aload_n dL_areApart_23 rfl trivial ?_
      refine e_iload_n dL_areApart_24 rfl ?_
      obtain ⟨⟨hk9, hn9⟩, h⟩ := h
      refine e_callSX (Mc := m_L_gapAhead) (vs := [am_r l0, am_i l2]) (st := []) dL_areApart_25 ok_L_gapAhead rfl mk_L_125 sm_L_gapAhead rfl rfl (by omega) (Nat.le_of_ble_eq_true rfl) hk9 hn9 am_xh_nx (am_C_mono h (fun v K13 N14 I15 P16 z17 h => ?_) (fun _ _ _ _ _ _ h => h))
      replace h := am_iv_or h
      obtain ⟨x18, rfl, h⟩ := h
      show am_E d m_L_areApart 28 (k + 1 + 1 + 1) (n + 6 + 6 + 6) _ [am_i x18] K13 N14 I15 P16 z17 Q am_nx
      refine e_istore_n dL_areApart_28 ?_
      refine e_iload_n dL_areApart_29 rfl ?_
      refine e_iload_n dL_areApart_30 rfl ?_
      refine e_ldc dL_areApart_31 lc_L_138 ?_
      refine e_icmp_ne (tgt := 40) dL_areApart_33 (by decide) (fun hc => ?_) (fun hc => ?_)
      · replace h := h.1 hc
        refine e_iload_n dL_areApart_40 rfl ?_
        refine e_aload_n dL_areApart_41 rfl trivial ?_
        refine e_iload_n dL_areApart_42 rfl ?_
        refine e_iconst dL_areApart_43 ?_
        obtain ⟨⟨hk9, hn9⟩, h⟩ := h
        refine e_callSX (Mc := m_L_part) (vs := [am_r l0, am_i l2, am_i 2]) (st := [am_i l1, am_i x18]) dL_areApart_44 ok_L_part rfl mk_L_139 sm_L_part rfl rfl (by omega) (Nat.le_of_ble_eq_true rfl) hk9 hn9 am_xh_nx (am_C_mono h (fun v K19 N20 I21 P22 z23 h => ?_) (fun _ _ _ _ _ _ h => h))
        replace h := am_iv_or h
        obtain ⟨x24, rfl, h⟩ := h
        show am_E d m_L_areApart 47 (k + 1 + 1 + 1 + 1) (n + 6 + 6 + 6 + 6) _ [am_i x24, am_i l1, am_i x18] K19 N20 I21 P22 z23 Q am_nx
        refine e_isub dL_areApart_47 ?_
        refine e_icmp_ne (tgt := 75) dL_areApart_48 (by decide) (fun hc => ?_) (fun hc => ?_)
        · replace h := h.1 hc
          refine e_iconst dL_areApart_75 ?_
          obtain ⟨⟨hk9, hn9⟩, h⟩ := h
          exact e_ret_z dL_areApart_76 rfl (by decide) hk9 hn9 h
        · replace h := h.2 hc
          refine e_iload_n dL_areApart_51 rfl ?_
          refine e_aload_n dL_areApart_52 rfl trivial ?_
          refine e_iload_n dL_areApart_53 rfl ?_
          refine e_iconst dL_areApart_54 ?_
          obtain ⟨⟨hk9, hn9⟩, h⟩ := h
          refine e_callSX (Mc := m_L_part) (vs := [am_r l0, am_i l2, am_i 2]) (st := [am_i l1]) dL_areApart_55 ok_L_part rfl mk_L_139 sm_L_part rfl rfl (by omega) (Nat.le_of_ble_eq_true rfl) hk9 hn9 am_xh_nx (am_C_mono h (fun v K25 N26 I27 P28 z29 h => ?_) (fun _ _ _ _ _ _ h => h))
          replace h := am_iv_or h
          obtain ⟨x30, rfl, h⟩ := h
          show am_E d m_L_areApart 58 (k + 1 + 1 + 1 + 1 + 1) (n + 6 + 6 + 6 + 6 + 6) _ [am_i x30, am_i l1] K25 N26 I27 P28 z29 Q am_nx
          refine e_icmp_lt (tgt := 75) dL_areApart_58 (by decide) (fun hc => ?_) (fun hc => ?_)
          · replace h := h.1 hc
            refine e_iconst dL_areApart_75 ?_
            obtain ⟨⟨hk9, hn9⟩, h⟩ := h
            exact e_ret_z dL_areApart_76 rfl (by decide) hk9 hn9 h
          · replace h := h.2 hc
            refine e_aload_n dL_areApart_61 rfl trivial ?_
            refine e_iload_n dL_areApart_62 rfl ?_
            refine e_iconst dL_areApart_63 ?_
            obtain ⟨⟨hk9, hn9⟩, h⟩ := h
            refine e_callSX (Mc := m_L_part) (vs := [am_r l0, am_i l2, am_i 2]) (st := []) dL_areApart_64 ok_L_part rfl mk_L_139 sm_L_part rfl rfl (by omega) (Nat.le_of_ble_eq_true rfl) hk9 hn9 am_xh_nx (am_C_mono h (fun v K31 N32 I33 P34 z35 h => ?_) (fun _ _ _ _ _ _ h => h))
            replace h := am_iv_or h
            obtain ⟨x36, rfl, h⟩ := h
            show am_E d m_L_areApart 67 (k + 1 + 1 + 1 + 1 + 1 + 1) (n + 6 + 6 + 6 + 6 + 6 + 6) _ [am_i x36] K31 N32 I33 P34 z35 Q am_nx
            refine e_aload_n dL_areApart_67 rfl trivial ?_
            refine e_iconst dL_areApart_68 ?_
            obtain ⟨⟨hk9, hn9⟩, h⟩ := h
            refine e_callSX (Mc := m_L_setting) (vs := [am_r l0, am_i 4]) (st := [am_i x36]) dL_areApart_69 ok_L_setting rfl mk_L_141 sm_L_setting rfl rfl (by omega) (Nat.le_of_ble_eq_true rfl) hk9 hn9 am_xh_nx (am_C_mono h (fun v K37 N38 I39 P40 z41 h => ?_) (fun _ _ _ _ _ _ h => h))
            replace h := am_iv_or h
            obtain ⟨x42, rfl, h⟩ := h
            show am_E d m_L_areApart 72 (k + 1 + 1 + 1 + 1 + 1 + 1 + 1) (n + 6 + 6 + 6 + 6 + 6 + 6 + 6) _ [am_i x42, am_i x36] K37 N38 I39 P40 z41 Q am_nx
            refine e_icmp_lt (tgt := 77) dL_areApart_72 (by decide) (fun hc => ?_) (fun hc => ?_)
            · replace h := h.1 hc
              refine e_aload_n dL_areApart_77 rfl trivial ?_
              refine e_iload_n dL_areApart_78 rfl ?_
              refine e_iconst dL_areApart_79 ?_
              obtain ⟨⟨hk9, hn9⟩, h⟩ := h
              refine e_callSX (Mc := m_L_part) (vs := [am_r l0, am_i l2, am_i 2]) (st := []) dL_areApart_80 ok_L_part rfl mk_L_139 sm_L_part rfl rfl (by omega) (Nat.le_of_ble_eq_true rfl) hk9 hn9 am_xh_nx (am_C_mono h (fun v K43 N44 I45 P46 z47 h => ?_) (fun _ _ _ _ _ _ h => h))
              replace h := am_iv_or h
              obtain ⟨x48, rfl, h⟩ := h
              show am_E d m_L_areApart 83 (k + 1 + 1 + 1 + 1 + 1 + 1 + 1 + 1) (n + 6 + 6 + 6 + 6 + 6 + 6 + 6 + 6) _ [am_i x48] K43 N44 I45 P46 z47 Q am_nx
              refine e_aload_n dL_areApart_83 rfl trivial ?_
              refine e_iload_n dL_areApart_84 rfl ?_
              refine e_iconst dL_areApart_85 ?_
              obtain ⟨⟨hk9, hn9⟩, h⟩ := h
              refine e_callSX (Mc := m_L_part) (vs := [am_r l0, am_i l2, am_i 0]) (st := [am_i x48]) dL_areApart_86 ok_L_part rfl mk_L_139 sm_L_part rfl rfl (by omega) (Nat.le_of_ble_eq_true rfl) hk9 hn9 am_xh_nx (am_C_mono h (fun v K49 N50 I51 P52 z53 h => ?_) (fun _ _ _ _ _ _ h => h))
              replace h := am_iv_or h
              obtain ⟨x54, rfl, h⟩ := h
              show am_E d m_L_areApart 89 (k + 1 + 1 + 1 + 1 + 1 + 1 + 1 + 1 + 1) (n + 6 + 6 + 6 + 6 + 6 + 6 + 6 + 6 + 6) _ [am_i x54, am_i x48] K49 N50 I51 P52 z53 Q am_nx
              refine e_isub dL_areApart_89 ?_
              refine e_istore_n dL_areApart_90 ?_
              refine e_iinc dL_areApart_91 rfl ?_
              refine e_goto (tgt := 5) dL_areApart_94 (by decide) ?_
              exact e_forget (am_sub_k (am_sub_k (am_sub_k (am_sub_d am_sub_nil)))) h
            · replace h := h.2 hc
              refine e_iconst dL_areApart_75 ?_
              obtain ⟨⟨hk9, hn9⟩, h⟩ := h
              exact e_ret_z dL_areApart_76 rfl (by decide) hk9 hn9 h
      · replace h := h.2 hc
        refine e_iconst dL_areApart_36 ?_
        refine e_goto (tgt := 48) dL_areApart_37 (by decide) ?_
        refine e_icmp_ne (tgt := 75) dL_areApart_48 (by decide) (fun hc => ?_) (fun hc => ?_)
        · replace h := h.1 hc
          refine e_iconst dL_areApart_75 ?_
          obtain ⟨⟨hk9, hn9⟩, h⟩ := h
          exact e_ret_z dL_areApart_76 rfl (by decide) hk9 hn9 h
        · replace h := h.2 hc
          refine e_iload_n dL_areApart_51 rfl ?_
          refine e_aload_n dL_areApart_52 rfl trivial ?_
          refine e_iload_n dL_areApart_53 rfl ?_
          refine e_iconst dL_areApart_54 ?_
          obtain ⟨⟨hk9, hn9⟩, h⟩ := h
          refine e_callSX (Mc := m_L_part) (vs := [am_r l0, am_i l2, am_i 2]) (st := [am_i l1]) dL_areApart_55 ok_L_part rfl mk_L_139 sm_L_part rfl rfl (by omega) (Nat.le_of_ble_eq_true rfl) hk9 hn9 am_xh_nx (am_C_mono h (fun v K55 N56 I57 P58 z59 h => ?_) (fun _ _ _ _ _ _ h => h))
          replace h := am_iv_or h
          obtain ⟨x60, rfl, h⟩ := h
          show am_E d m_L_areApart 58 (k + 1 + 1 + 1 + 1) (n + 6 + 6 + 6 + 6) _ [am_i x60, am_i l1] K55 N56 I57 P58 z59 Q am_nx
          refine e_icmp_lt (tgt := 75) dL_areApart_58 (by decide) (fun hc => ?_) (fun hc => ?_)
          · replace h := h.1 hc
            refine e_iconst dL_areApart_75 ?_
            obtain ⟨⟨hk9, hn9⟩, h⟩ := h
            exact e_ret_z dL_areApart_76 rfl (by decide) hk9 hn9 h
          · replace h := h.2 hc
            refine e_aload_n dL_areApart_61 rfl trivial ?_
            refine e_iload_n dL_areApart_62 rfl ?_
            refine e_iconst dL_areApart_63 ?_
            obtain ⟨⟨hk9, hn9⟩, h⟩ := h
            refine e_callSX (Mc := m_L_part) (vs := [am_r l0, am_i l2, am_i 2]) (st := []) dL_areApart_64 ok_L_part rfl mk_L_139 sm_L_part rfl rfl (by omega) (Nat.le_of_ble_eq_true rfl) hk9 hn9 am_xh_nx (am_C_mono h (fun v K61 N62 I63 P64 z65 h => ?_) (fun _ _ _ _ _ _ h => h))
            replace h := am_iv_or h
            obtain ⟨x66, rfl, h⟩ := h
            show am_E d m_L_areApart 67 (k + 1 + 1 + 1 + 1 + 1) (n + 6 + 6 + 6 + 6 + 6) _ [am_i x66] K61 N62 I63 P64 z65 Q am_nx
            refine e_aload_n dL_areApart_67 rfl trivial ?_
            refine e_iconst dL_areApart_68 ?_
            obtain ⟨⟨hk9, hn9⟩, h⟩ := h
            refine e_callSX (Mc := m_L_setting) (vs := [am_r l0, am_i 4]) (st := [am_i x66]) dL_areApart_69 ok_L_setting rfl mk_L_141 sm_L_setting rfl rfl (by omega) (Nat.le_of_ble_eq_true rfl) hk9 hn9 am_xh_nx (am_C_mono h (fun v K67 N68 I69 P70 z71 h => ?_) (fun _ _ _ _ _ _ h => h))
            replace h := am_iv_or h
            obtain ⟨x72, rfl, h⟩ := h
            show am_E d m_L_areApart 72 (k + 1 + 1 + 1 + 1 + 1 + 1) (n + 6 + 6 + 6 + 6 + 6 + 6) _ [am_i x72, am_i x66] K67 N68 I69 P70 z71 Q am_nx
            refine e_icmp_lt (tgt := 77) dL_areApart_72 (by decide) (fun hc => ?_) (fun hc => ?_)
            · replace h := h.1 hc
              refine e_aload_n dL_areApart_77 rfl trivial ?_
              refine e_iload_n dL_areApart_78 rfl ?_
              refine e_iconst dL_areApart_79 ?_
              obtain ⟨⟨hk9, hn9⟩, h⟩ := h
              refine e_callSX (Mc := m_L_part) (vs := [am_r l0, am_i l2, am_i 2]) (st := []) dL_areApart_80 ok_L_part rfl mk_L_139 sm_L_part rfl rfl (by omega) (Nat.le_of_ble_eq_true rfl) hk9 hn9 am_xh_nx (am_C_mono h (fun v K73 N74 I75 P76 z77 h => ?_) (fun _ _ _ _ _ _ h => h))
              replace h := am_iv_or h
              obtain ⟨x78, rfl, h⟩ := h
              show am_E d m_L_areApart 83 (k + 1 + 1 + 1 + 1 + 1 + 1 + 1) (n + 6 + 6 + 6 + 6 + 6 + 6 + 6) _ [am_i x78] K73 N74 I75 P76 z77 Q am_nx
              refine e_aload_n dL_areApart_83 rfl trivial ?_
              refine e_iload_n dL_areApart_84 rfl ?_
              refine e_iconst dL_areApart_85 ?_
              obtain ⟨⟨hk9, hn9⟩, h⟩ := h
              refine e_callSX (Mc := m_L_part) (vs := [am_r l0, am_i l2, am_i 0]) (st := [am_i x78]) dL_areApart_86 ok_L_part rfl mk_L_139 sm_L_part rfl rfl (by omega) (Nat.le_of_ble_eq_true rfl) hk9 hn9 am_xh_nx (am_C_mono h (fun v K79 N80 I81 P82 z83 h => ?_) (fun _ _ _ _ _ _ h => h))
              replace h := am_iv_or h
              obtain ⟨x84, rfl, h⟩ := h
              show am_E d m_L_areApart 89 (k + 1 + 1 + 1 + 1 + 1 + 1 + 1 + 1) (n + 6 + 6 + 6 + 6 + 6 + 6 + 6 + 6) _ [am_i x84, am_i x78] K79 N80 I81 P82 z83 Q am_nx
              refine e_isub dL_areApart_89 ?_
              refine e_istore_n dL_areApart_90 ?_
              refine e_iinc dL_areApart_91 rfl ?_
              refine e_goto (tgt := 5) dL_areApart_94 (by decide) ?_
              exact e_forget (am_sub_k (am_sub_k (am_sub_k (am_sub_d am_sub_nil)))) h
            · replace h := h.2 hc
              refine e_iconst dL_areApart_75 ?_
              obtain ⟨⟨hk9, hn9⟩, h⟩ := h
              exact e_ret_z dL_areApart_76 rfl (by decide) hk9 hn9 h
def L_L_areAlike_42 (d : Nat) (k n : Nat) (l0 : Nat) (l1 : Nat) (l2 : Int) (l3 : Int) (K N : Nat → Nat) (I : Nat → Nat → Int) (P : Nat → Nat → Option Nat) (z : Nat) (Q : am_V → am_T) : Prop := am_E d m_L_areAlike 42 k n [some (am_r l0), some (am_r l1), some (am_i l2), some (am_i l3)] [] K N I P z Q am_nx
def L_L_areAlike_79 (d : Nat) (k n : Nat) (l0 : Nat) (l1 : Nat) (l2 : Int) (l3 : Int) (K N : Nat → Nat) (I : Nat → Nat → Int) (P : Nat → Nat → Option Nat) (z : Nat) (Q : am_V → am_T) : Prop := am_E d m_L_areAlike 79 k n [some (am_r l0), some (am_r l1), some (am_i l2), some (am_i l3)] [] K N I P z Q am_nx
set_option maxRecDepth 100000 in
set_option maxHeartbeats 4000000 in
theorem wf_L_areAlike {d : Nat} (hd : 1 ≤ d) {a1 : Nat} {a2 : Nat} {K N : Nat → Nat} {I : Nat → Nat → Int} {P : Nat → Nat → Option Nat} {z : Nat} {Q : am_V → am_T} (h :
  (0 + 0 ≤ 200 ∧ 0 + 0 ≤ 1200) ∧ K a1 = 7 ∧ am_C (d - 1) m_X7_share [am_r a1] K N I P z (fun v K1 N2 I3 P4 z5 => am_dv v fun x7 =>
    (0 + 0 ≤ 200 ∧ 0 + 0 ≤ 1200) ∧ K1 a2 = 7 ∧ am_C (d - 1) m_X7_share [am_r a2] K1 N2 I3 P4 z5 (fun v K8 N9 I10 P11 z12 => am_dv v fun x14 =>
    ((¬ (Op.cmpValue (FP.dcmp x7 x14) CmpOp.l).toInt = 0 →
    L_L_areAlike_42 d 0 0 a1 a2 0 0 K8 N9 I10 P11 z12 Q) ∧
    ((Op.cmpValue (FP.dcmp x7 x14) CmpOp.l).toInt = 0 →
    (0 + 0 ≤ 200 ∧ 0 + 0 ≤ 1200) ∧ K8 a1 = 7 ∧ am_C (d - 1) m_X7_entryIn [am_r a1] K8 N9 I10 P11 z12 (fun v K15 N16 I17 P18 z19 => am_iv v fun x21 =>
      (0 + 0 ≤ 200 ∧ 0 + 0 ≤ 1200) ∧ K15 a2 = 7 ∧ am_C (d - 1) m_X7_entryIn [am_r a2] K15 N16 I17 P18 z19 (fun v K22 N23 I24 P25 z26 => am_iv v fun x28 =>
      ((¬ x21 = x28 →
      L_L_areAlike_42 d 0 0 a1 a2 0 0 K22 N23 I24 P25 z26 Q) ∧
      (x21 = x28 →
      (0 + 0 ≤ 200 ∧ 0 + 0 ≤ 1200) ∧ K22 a1 = 7 ∧ am_C (d - 1) m_X7_nextLeaving [am_r a1] K22 N23 I24 P25 z26 (fun v K29 N30 I31 P32 z33 => am_iv v fun x35 =>
        (0 + 0 ≤ 200 ∧ 0 + 0 ≤ 1200) ∧ K29 a2 = 7 ∧ am_C (d - 1) m_X7_nextLeaving [am_r a2] K29 N30 I31 P32 z33 (fun v K36 N37 I38 P39 z40 => am_iv v fun x42 =>
        ((¬ x35 = x42 →
        L_L_areAlike_42 d 0 0 a1 a2 0 0 K36 N37 I38 P39 z40 Q) ∧
        (x35 = x42 →
        L_L_areAlike_42 d 0 0 a1 a2 1 0 K36 N37 I38 P39 z40 Q))) am_nx) am_nx))) am_nx) am_nx))) am_nx) am_nx) :
  am_C d m_L_areAlike [am_r a1, am_r a2] K N I P z Q am_nx := by
  refine am_C_of ok_L_areAlike (fun v hv => am_v1all _ rfl v hv) (Nat.le_of_ble_eq_true rfl) ?_
  show am_E d m_L_areAlike 0 0 0 [some (am_r a1), some (am_r a2), none, none] [] K N I P z Q am_nx
  refine e_aload_n dL_areAlike_0 rfl trivial ?_
  obtain ⟨⟨hk9, hn9⟩, h⟩ := h
  obtain ⟨hK6, h⟩ := h
  refine e_callV (Mc := m_X7_share) (vs := []) (st := []) dL_areAlike_1 ok_X7_share rfl ⟨by decide, rfl⟩ mk_L_143 im_X7_share sl_X7_share rfl rfl hK6 (by omega) (Nat.le_of_ble_eq_true rfl) hk9 hn9 am_xh_nx (am_C_mono h (fun v K1 N2 I3 P4 z5 h => ?_) (fun _ _ _ _ _ _ h => h))
  replace h := am_dv_or h
  obtain ⟨x7, rfl, h⟩ := h
  show am_E d m_L_areAlike 4 0 0 _ [am_d x7] K1 N2 I3 P4 z5 Q am_nx
  refine e_aload_n dL_areAlike_4 rfl trivial ?_
  obtain ⟨⟨hk9, hn9⟩, h⟩ := h
  obtain ⟨hK13, h⟩ := h
  refine e_callV (Mc := m_X7_share) (vs := []) (st := [am_d x7]) dL_areAlike_5 ok_X7_share rfl ⟨by decide, rfl⟩ mk_L_143 im_X7_share sl_X7_share rfl rfl hK13 (by omega) (Nat.le_of_ble_eq_true rfl) hk9 hn9 am_xh_nx (am_C_mono h (fun v K8 N9 I10 P11 z12 h => ?_) (fun _ _ _ _ _ _ h => h))
  replace h := am_dv_or h
  obtain ⟨x14, rfl, h⟩ := h
  show am_E d m_L_areAlike 8 0 0 _ [am_d x14, am_d x7] K8 N9 I10 P11 z12 Q am_nx
  refine e_dcmp dL_areAlike_8 ?_
  refine e_if_ne (tgt := 38) dL_areAlike_9 (by decide) (fun hc => ?_) (fun hc => ?_)
  · replace h := h.1 hc
    refine e_iconst dL_areAlike_38 ?_
    refine e_istore_n dL_areAlike_39 ?_
    refine e_iconst dL_areAlike_40 ?_
    refine e_istore_n dL_areAlike_41 ?_
    exact e_forget (am_sub_k (am_sub_k (am_sub_k (am_sub_k am_sub_nil)))) h
  · replace h := h.2 hc
    refine e_aload_n dL_areAlike_12 rfl trivial ?_
    obtain ⟨⟨hk9, hn9⟩, h⟩ := h
    obtain ⟨hK20, h⟩ := h
    refine e_callV (Mc := m_X7_entryIn) (vs := []) (st := []) dL_areAlike_13 ok_X7_entryIn rfl ⟨by decide, rfl⟩ mk_L_115 im_X7_entryIn sl_X7_entryIn rfl rfl hK20 (by omega) (Nat.le_of_ble_eq_true rfl) hk9 hn9 am_xh_nx (am_C_mono h (fun v K15 N16 I17 P18 z19 h => ?_) (fun _ _ _ _ _ _ h => h))
    replace h := am_iv_or h
    obtain ⟨x21, rfl, h⟩ := h
    show am_E d m_L_areAlike 16 0 0 _ [am_i x21] K15 N16 I17 P18 z19 Q am_nx
    refine e_aload_n dL_areAlike_16 rfl trivial ?_
    obtain ⟨⟨hk9, hn9⟩, h⟩ := h
    obtain ⟨hK27, h⟩ := h
    refine e_callV (Mc := m_X7_entryIn) (vs := []) (st := [am_i x21]) dL_areAlike_17 ok_X7_entryIn rfl ⟨by decide, rfl⟩ mk_L_115 im_X7_entryIn sl_X7_entryIn rfl rfl hK27 (by omega) (Nat.le_of_ble_eq_true rfl) hk9 hn9 am_xh_nx (am_C_mono h (fun v K22 N23 I24 P25 z26 h => ?_) (fun _ _ _ _ _ _ h => h))
    replace h := am_iv_or h
    obtain ⟨x28, rfl, h⟩ := h
    show am_E d m_L_areAlike 20 0 0 _ [am_i x28, am_i x21] K22 N23 I24 P25 z26 Q am_nx
    refine e_icmp_ne (tgt := 38) dL_areAlike_20 (by decide) (fun hc => ?_) (fun hc => ?_)
    · replace h := h.1 hc
      refine e_iconst dL_areAlike_38 ?_
      refine e_istore_n dL_areAlike_39 ?_
      refine e_iconst dL_areAlike_40 ?_
      refine e_istore_n dL_areAlike_41 ?_
      exact e_forget (am_sub_k (am_sub_k (am_sub_k (am_sub_k am_sub_nil)))) h
    · replace h := h.2 hc
      refine e_aload_n dL_areAlike_23 rfl trivial ?_
      obtain ⟨⟨hk9, hn9⟩, h⟩ := h
      obtain ⟨hK34, h⟩ := h
      refine e_callV (Mc := m_X7_nextLeaving) (vs := []) (st := []) dL_areAlike_24 ok_X7_nextLeaving rfl ⟨by decide, rfl⟩ mk_L_118 im_X7_nextLeaving sl_X7_nextLeaving rfl rfl hK34 (by omega) (Nat.le_of_ble_eq_true rfl) hk9 hn9 am_xh_nx (am_C_mono h (fun v K29 N30 I31 P32 z33 h => ?_) (fun _ _ _ _ _ _ h => h))
      replace h := am_iv_or h
      obtain ⟨x35, rfl, h⟩ := h
      show am_E d m_L_areAlike 27 0 0 _ [am_i x35] K29 N30 I31 P32 z33 Q am_nx
      refine e_aload_n dL_areAlike_27 rfl trivial ?_
      obtain ⟨⟨hk9, hn9⟩, h⟩ := h
      obtain ⟨hK41, h⟩ := h
      refine e_callV (Mc := m_X7_nextLeaving) (vs := []) (st := [am_i x35]) dL_areAlike_28 ok_X7_nextLeaving rfl ⟨by decide, rfl⟩ mk_L_118 im_X7_nextLeaving sl_X7_nextLeaving rfl rfl hK41 (by omega) (Nat.le_of_ble_eq_true rfl) hk9 hn9 am_xh_nx (am_C_mono h (fun v K36 N37 I38 P39 z40 h => ?_) (fun _ _ _ _ _ _ h => h))
      replace h := am_iv_or h
      obtain ⟨x42, rfl, h⟩ := h
      show am_E d m_L_areAlike 31 0 0 _ [am_i x42, am_i x35] K36 N37 I38 P39 z40 Q am_nx
      refine e_icmp_ne (tgt := 38) dL_areAlike_31 (by decide) (fun hc => ?_) (fun hc => ?_)
      · replace h := h.1 hc
        refine e_iconst dL_areAlike_38 ?_
        refine e_istore_n dL_areAlike_39 ?_
        refine e_iconst dL_areAlike_40 ?_
        refine e_istore_n dL_areAlike_41 ?_
        exact e_forget (am_sub_k (am_sub_k (am_sub_k (am_sub_k am_sub_nil)))) h
      · replace h := h.2 hc
        refine e_iconst dL_areAlike_34 ?_
        refine e_goto (tgt := 39) dL_areAlike_35 (by decide) ?_
        refine e_istore_n dL_areAlike_39 ?_
        refine e_iconst dL_areAlike_40 ?_
        refine e_istore_n dL_areAlike_41 ?_
        exact e_forget (am_sub_k (am_sub_k (am_sub_k (am_sub_k am_sub_nil)))) h
set_option maxRecDepth 100000 in
set_option maxHeartbeats 4000000 in
theorem wf_L_areAlike_42 {d : Nat} (hd : 1 ≤ d) {k n : Nat} {l0 : Nat} {l1 : Nat} {l2 : Int} {l3 : Int} {K N : Nat → Nat} {I : Nat → Nat → Int} {P : Nat → Nat → Option Nat} {z : Nat} {Q : am_V → am_T} (h :
  ((15 ≤ l3 →
    L_L_areAlike_79 d k n l0 l1 l2 0 K N I P z Q) ∧
    (¬ (15 ≤ l3) →
    ((l2 = 0 →
      L_L_areAlike_42 d k n l0 l1 0 (am_wr (l3 + 1)) K N I P z Q) ∧
      (¬ (l2 = 0) →
      (k + 1 ≤ 200 ∧ n + 6 ≤ 1200) ∧ am_C (d - 1) m_L_total [am_r l0, am_i l3] K N I P z (fun v K1 N2 I3 P4 z5 => am_iv v fun x6 =>
        (k + 1 + 1 ≤ 200 ∧ n + 6 + 6 ≤ 1200) ∧ am_C (d - 1) m_L_total [am_r l1, am_i l3] K1 N2 I3 P4 z5 (fun v K7 N8 I9 P10 z11 => am_iv v fun x12 =>
        ((¬ x6 = x12 →
        L_L_areAlike_42 d (k + 1 + 1) (n + 6 + 6) l0 l1 0 (am_wr (l3 + 1)) K7 N8 I9 P10 z11 Q) ∧
        (x6 = x12 →
        L_L_areAlike_42 d (k + 1 + 1) (n + 6 + 6) l0 l1 1 (am_wr (l3 + 1)) K7 N8 I9 P10 z11 Q))) am_nx) am_nx))))) :
  L_L_areAlike_42 d k n l0 l1 l2 l3 K N I P z Q := by
  unfold L_L_areAlike_42
  refine e_iload_n dL_areAlike_42 rfl ?_
  refine e_bipush dL_areAlike_43 ?_
  refine e_icmp_ge (tgt := 77) dL_areAlike_45 (by decide) (fun hc => ?_) (fun hc => ?_)
  · replace h := h.1 hc
    refine e_iconst dL_areAlike_77 ?_
    refine e_istore_n dL_areAlike_78 ?_
    exact e_forget (am_sub_k (am_sub_k (am_sub_k (am_sub_k am_sub_nil)))) h
  · replace h := h.2 hc
    refine e_iload_n dL_areAlike_48 rfl ?_
    refine e_if_eq (tgt := 69) dL_areAlike_49 (by decide) (fun hc => ?_) (fun hc => ?_)
    · replace h := h.1 hc
      refine e_iconst dL_areAlike_69 ?_
      refine e_istore_n dL_areAlike_70 ?_
      refine e_iinc dL_areAlike_71 rfl ?_
      refine e_goto (tgt := 42) dL_areAlike_74 (by decide) ?_
      exact e_forget (am_sub_k (am_sub_k (am_sub_k (am_sub_k am_sub_nil)))) h
    · replace h := h.2 hc
      refine e_aload_n dL_areAlike_52 rfl trivial ?_
      refine e_iload_n dL_areAlike_53 rfl ?_
      obtain ⟨⟨hk9, hn9⟩, h⟩ := h
      refine e_callSX (Mc := m_L_total) (vs := [am_r l0, am_i l3]) (st := []) dL_areAlike_54 ok_L_total rfl mk_L_134 sm_L_total rfl rfl (by omega) (Nat.le_of_ble_eq_true rfl) hk9 hn9 am_xh_nx (am_C_mono h (fun v K1 N2 I3 P4 z5 h => ?_) (fun _ _ _ _ _ _ h => h))
      replace h := am_iv_or h
      obtain ⟨x6, rfl, h⟩ := h
      show am_E d m_L_areAlike 57 (k + 1) (n + 6) _ [am_i x6] K1 N2 I3 P4 z5 Q am_nx
      refine e_aload_n dL_areAlike_57 rfl trivial ?_
      refine e_iload_n dL_areAlike_58 rfl ?_
      obtain ⟨⟨hk9, hn9⟩, h⟩ := h
      refine e_callSX (Mc := m_L_total) (vs := [am_r l1, am_i l3]) (st := [am_i x6]) dL_areAlike_59 ok_L_total rfl mk_L_134 sm_L_total rfl rfl (by omega) (Nat.le_of_ble_eq_true rfl) hk9 hn9 am_xh_nx (am_C_mono h (fun v K7 N8 I9 P10 z11 h => ?_) (fun _ _ _ _ _ _ h => h))
      replace h := am_iv_or h
      obtain ⟨x12, rfl, h⟩ := h
      show am_E d m_L_areAlike 62 (k + 1 + 1) (n + 6 + 6) _ [am_i x12, am_i x6] K7 N8 I9 P10 z11 Q am_nx
      refine e_icmp_ne (tgt := 69) dL_areAlike_62 (by decide) (fun hc => ?_) (fun hc => ?_)
      · replace h := h.1 hc
        refine e_iconst dL_areAlike_69 ?_
        refine e_istore_n dL_areAlike_70 ?_
        refine e_iinc dL_areAlike_71 rfl ?_
        refine e_goto (tgt := 42) dL_areAlike_74 (by decide) ?_
        exact e_forget (am_sub_k (am_sub_k (am_sub_k (am_sub_k am_sub_nil)))) h
      · replace h := h.2 hc
        refine e_iconst dL_areAlike_65 ?_
        refine e_goto (tgt := 70) dL_areAlike_66 (by decide) ?_
        refine e_istore_n dL_areAlike_70 ?_
        refine e_iinc dL_areAlike_71 rfl ?_
        refine e_goto (tgt := 42) dL_areAlike_74 (by decide) ?_
        exact e_forget (am_sub_k (am_sub_k (am_sub_k (am_sub_k am_sub_nil)))) h
set_option maxRecDepth 100000 in
set_option maxHeartbeats 4000000 in
theorem wf_L_areAlike_79 {d : Nat} (hd : 1 ≤ d) {k n : Nat} {l0 : Nat} {l1 : Nat} {l2 : Int} {l3 : Int} {K N : Nat → Nat} {I : Nat → Nat → Int} {P : Nat → Nat → Option Nat} {z : Nat} {Q : am_V → am_T} (h :
  ((6 ≤ l3 →
    (k ≤ 200 ∧ n ≤ 1200) ∧ (l2 = 0 ∨ l2 = 1) ∧ Q (am_i l2) K N I P z) ∧
    (¬ (6 ≤ l3) →
    ((l2 = 0 →
      L_L_areAlike_79 d k n l0 l1 0 (am_wr (l3 + 1)) K N I P z Q) ∧
      (¬ (l2 = 0) →
      (k + 1 ≤ 200 ∧ n + 6 ≤ 1200) ∧ am_C (d - 1) m_L_part [am_r l0, am_i l3, am_i 1] K N I P z (fun v K1 N2 I3 P4 z5 => am_iv v fun x6 =>
        (k + 1 + 1 ≤ 200 ∧ n + 6 + 6 ≤ 1200) ∧ am_C (d - 1) m_L_part [am_r l1, am_i l3, am_i 1] K1 N2 I3 P4 z5 (fun v K7 N8 I9 P10 z11 => am_iv v fun x12 =>
        ((¬ x6 = x12 →
        L_L_areAlike_79 d (k + 1 + 1) (n + 6 + 6) l0 l1 0 (am_wr (l3 + 1)) K7 N8 I9 P10 z11 Q) ∧
        (x6 = x12 →
        (k + 1 + 1 + 1 ≤ 200 ∧ n + 6 + 6 + 6 ≤ 1200) ∧ am_C (d - 1) m_L_part [am_r l0, am_i l3, am_i 2] K7 N8 I9 P10 z11 (fun v K13 N14 I15 P16 z17 => am_iv v fun x18 =>
          (k + 1 + 1 + 1 + 1 ≤ 200 ∧ n + 6 + 6 + 6 + 6 ≤ 1200) ∧ am_C (d - 1) m_L_part [am_r l1, am_i l3, am_i 2] K13 N14 I15 P16 z17 (fun v K19 N20 I21 P22 z23 => am_iv v fun x24 =>
          ((¬ x18 = x24 →
          L_L_areAlike_79 d (k + 1 + 1 + 1 + 1) (n + 6 + 6 + 6 + 6) l0 l1 0 (am_wr (l3 + 1)) K19 N20 I21 P22 z23 Q) ∧
          (x18 = x24 →
          (k + 1 + 1 + 1 + 1 + 1 ≤ 200 ∧ n + 6 + 6 + 6 + 6 + 6 ≤ 1200) ∧ am_C (d - 1) m_L_part [am_r l0, am_i l3, am_i 8] K19 N20 I21 P22 z23 (fun v K25 N26 I27 P28 z29 => am_iv v fun x30 =>
            (k + 1 + 1 + 1 + 1 + 1 + 1 ≤ 200 ∧ n + 6 + 6 + 6 + 6 + 6 + 6 ≤ 1200) ∧ am_C (d - 1) m_L_part [am_r l1, am_i l3, am_i 8] K25 N26 I27 P28 z29 (fun v K31 N32 I33 P34 z35 => am_iv v fun x36 =>
            ((¬ x30 = x36 →
            L_L_areAlike_79 d (k + 1 + 1 + 1 + 1 + 1 + 1) (n + 6 + 6 + 6 + 6 + 6 + 6) l0 l1 0 (am_wr (l3 + 1)) K31 N32 I33 P34 z35 Q) ∧
            (x30 = x36 →
            (k + 1 + 1 + 1 + 1 + 1 + 1 + 1 ≤ 200 ∧ n + 6 + 6 + 6 + 6 + 6 + 6 + 6 ≤ 1200) ∧ am_C (d - 1) m_L_fateOf [am_r l0, am_i l3] K31 N32 I33 P34 z35 (fun v K37 N38 I39 P40 z41 => am_iv v fun x42 =>
              (k + 1 + 1 + 1 + 1 + 1 + 1 + 1 + 1 ≤ 200 ∧ n + 6 + 6 + 6 + 6 + 6 + 6 + 6 + 6 ≤ 1200) ∧ am_C (d - 1) m_L_fateOf [am_r l1, am_i l3] K37 N38 I39 P40 z41 (fun v K43 N44 I45 P46 z47 => am_iv v fun x48 =>
              ((¬ x42 = x48 →
              L_L_areAlike_79 d (k + 1 + 1 + 1 + 1 + 1 + 1 + 1 + 1) (n + 6 + 6 + 6 + 6 + 6 + 6 + 6 + 6) l0 l1 0 (am_wr (l3 + 1)) K43 N44 I45 P46 z47 Q) ∧
              (x42 = x48 →
              L_L_areAlike_79 d (k + 1 + 1 + 1 + 1 + 1 + 1 + 1 + 1) (n + 6 + 6 + 6 + 6 + 6 + 6 + 6 + 6) l0 l1 1 (am_wr (l3 + 1)) K43 N44 I45 P46 z47 Q))) am_nx) am_nx))) am_nx) am_nx))) am_nx) am_nx))) am_nx) am_nx))))) :
  L_L_areAlike_79 d k n l0 l1 l2 l3 K N I P z Q := by
  unfold L_L_areAlike_79
  refine e_iload_n dL_areAlike_79 rfl ?_
  refine e_bipush dL_areAlike_80 ?_
  refine e_icmp_ge (tgt := 161) dL_areAlike_82 (by decide) (fun hc => ?_) (fun hc => ?_)
  · replace h := h.1 hc
    refine e_iload_n dL_areAlike_161 rfl ?_
    obtain ⟨⟨hk9, hn9⟩, h⟩ := h
    obtain ⟨hz01, h⟩ := h
    exact e_ret_z dL_areAlike_162 rfl hz01 hk9 hn9 h
  · replace h := h.2 hc
    refine e_iload_n dL_areAlike_85 rfl ?_
    refine e_if_eq (tgt := 153) dL_areAlike_86 (by decide) (fun hc => ?_) (fun hc => ?_)
    · replace h := h.1 hc
      refine e_iconst dL_areAlike_153 ?_
      refine e_istore_n dL_areAlike_154 ?_
      refine e_iinc dL_areAlike_155 rfl ?_
      refine e_goto (tgt := 79) dL_areAlike_158 (by decide) ?_
      exact e_forget (am_sub_k (am_sub_k (am_sub_k (am_sub_k am_sub_nil)))) h
    · replace h := h.2 hc
      refine e_aload_n dL_areAlike_89 rfl trivial ?_
      refine e_iload_n dL_areAlike_90 rfl ?_
      refine e_iconst dL_areAlike_91 ?_
      obtain ⟨⟨hk9, hn9⟩, h⟩ := h
      refine e_callSX (Mc := m_L_part) (vs := [am_r l0, am_i l3, am_i 1]) (st := []) dL_areAlike_92 ok_L_part rfl mk_L_139 sm_L_part rfl rfl (by omega) (Nat.le_of_ble_eq_true rfl) hk9 hn9 am_xh_nx (am_C_mono h (fun v K1 N2 I3 P4 z5 h => ?_) (fun _ _ _ _ _ _ h => h))
      replace h := am_iv_or h
      obtain ⟨x6, rfl, h⟩ := h
      show am_E d m_L_areAlike 95 (k + 1) (n + 6) _ [am_i x6] K1 N2 I3 P4 z5 Q am_nx
      refine e_aload_n dL_areAlike_95 rfl trivial ?_
      refine e_iload_n dL_areAlike_96 rfl ?_
      refine e_iconst dL_areAlike_97 ?_
      obtain ⟨⟨hk9, hn9⟩, h⟩ := h
      refine e_callSX (Mc := m_L_part) (vs := [am_r l1, am_i l3, am_i 1]) (st := [am_i x6]) dL_areAlike_98 ok_L_part rfl mk_L_139 sm_L_part rfl rfl (by omega) (Nat.le_of_ble_eq_true rfl) hk9 hn9 am_xh_nx (am_C_mono h (fun v K7 N8 I9 P10 z11 h => ?_) (fun _ _ _ _ _ _ h => h))
      replace h := am_iv_or h
      obtain ⟨x12, rfl, h⟩ := h
      show am_E d m_L_areAlike 101 (k + 1 + 1) (n + 6 + 6) _ [am_i x12, am_i x6] K7 N8 I9 P10 z11 Q am_nx
      refine e_icmp_ne (tgt := 153) dL_areAlike_101 (by decide) (fun hc => ?_) (fun hc => ?_)
      · replace h := h.1 hc
        refine e_iconst dL_areAlike_153 ?_
        refine e_istore_n dL_areAlike_154 ?_
        refine e_iinc dL_areAlike_155 rfl ?_
        refine e_goto (tgt := 79) dL_areAlike_158 (by decide) ?_
        exact e_forget (am_sub_k (am_sub_k (am_sub_k (am_sub_k am_sub_nil)))) h
      · replace h := h.2 hc
        refine e_aload_n dL_areAlike_104 rfl trivial ?_
        refine e_iload_n dL_areAlike_105 rfl ?_
        refine e_iconst dL_areAlike_106 ?_
        obtain ⟨⟨hk9, hn9⟩, h⟩ := h
        refine e_callSX (Mc := m_L_part) (vs := [am_r l0, am_i l3, am_i 2]) (st := []) dL_areAlike_107 ok_L_part rfl mk_L_139 sm_L_part rfl rfl (by omega) (Nat.le_of_ble_eq_true rfl) hk9 hn9 am_xh_nx (am_C_mono h (fun v K13 N14 I15 P16 z17 h => ?_) (fun _ _ _ _ _ _ h => h))
        replace h := am_iv_or h
        obtain ⟨x18, rfl, h⟩ := h
        show am_E d m_L_areAlike 110 (k + 1 + 1 + 1) (n + 6 + 6 + 6) _ [am_i x18] K13 N14 I15 P16 z17 Q am_nx
        refine e_aload_n dL_areAlike_110 rfl trivial ?_
        refine e_iload_n dL_areAlike_111 rfl ?_
        refine e_iconst dL_areAlike_112 ?_
        obtain ⟨⟨hk9, hn9⟩, h⟩ := h
        refine e_callSX (Mc := m_L_part) (vs := [am_r l1, am_i l3, am_i 2]) (st := [am_i x18]) dL_areAlike_113 ok_L_part rfl mk_L_139 sm_L_part rfl rfl (by omega) (Nat.le_of_ble_eq_true rfl) hk9 hn9 am_xh_nx (am_C_mono h (fun v K19 N20 I21 P22 z23 h => ?_) (fun _ _ _ _ _ _ h => h))
        replace h := am_iv_or h
        obtain ⟨x24, rfl, h⟩ := h
        show am_E d m_L_areAlike 116 (k + 1 + 1 + 1 + 1) (n + 6 + 6 + 6 + 6) _ [am_i x24, am_i x18] K19 N20 I21 P22 z23 Q am_nx
        refine e_icmp_ne (tgt := 153) dL_areAlike_116 (by decide) (fun hc => ?_) (fun hc => ?_)
        · replace h := h.1 hc
          refine e_iconst dL_areAlike_153 ?_
          refine e_istore_n dL_areAlike_154 ?_
          refine e_iinc dL_areAlike_155 rfl ?_
          refine e_goto (tgt := 79) dL_areAlike_158 (by decide) ?_
          exact e_forget (am_sub_k (am_sub_k (am_sub_k (am_sub_k am_sub_nil)))) h
        · replace h := h.2 hc
          refine e_aload_n dL_areAlike_119 rfl trivial ?_
          refine e_iload_n dL_areAlike_120 rfl ?_
          refine e_bipush dL_areAlike_121 ?_
          obtain ⟨⟨hk9, hn9⟩, h⟩ := h
          refine e_callSX (Mc := m_L_part) (vs := [am_r l0, am_i l3, am_i 8]) (st := []) dL_areAlike_123 ok_L_part rfl mk_L_139 sm_L_part rfl rfl (by omega) (Nat.le_of_ble_eq_true rfl) hk9 hn9 am_xh_nx (am_C_mono h (fun v K25 N26 I27 P28 z29 h => ?_) (fun _ _ _ _ _ _ h => h))
          replace h := am_iv_or h
          obtain ⟨x30, rfl, h⟩ := h
          show am_E d m_L_areAlike 126 (k + 1 + 1 + 1 + 1 + 1) (n + 6 + 6 + 6 + 6 + 6) _ [am_i x30] K25 N26 I27 P28 z29 Q am_nx
          refine e_aload_n dL_areAlike_126 rfl trivial ?_
          refine e_iload_n dL_areAlike_127 rfl ?_
          refine e_bipush dL_areAlike_128 ?_
          obtain ⟨⟨hk9, hn9⟩, h⟩ := h
          refine e_callSX (Mc := m_L_part) (vs := [am_r l1, am_i l3, am_i 8]) (st := [am_i x30]) dL_areAlike_130 ok_L_part rfl mk_L_139 sm_L_part rfl rfl (by omega) (Nat.le_of_ble_eq_true rfl) hk9 hn9 am_xh_nx (am_C_mono h (fun v K31 N32 I33 P34 z35 h => ?_) (fun _ _ _ _ _ _ h => h))
          replace h := am_iv_or h
          obtain ⟨x36, rfl, h⟩ := h
          show am_E d m_L_areAlike 133 (k + 1 + 1 + 1 + 1 + 1 + 1) (n + 6 + 6 + 6 + 6 + 6 + 6) _ [am_i x36, am_i x30] K31 N32 I33 P34 z35 Q am_nx
          refine e_icmp_ne (tgt := 153) dL_areAlike_133 (by decide) (fun hc => ?_) (fun hc => ?_)
          · replace h := h.1 hc
            refine e_iconst dL_areAlike_153 ?_
            refine e_istore_n dL_areAlike_154 ?_
            refine e_iinc dL_areAlike_155 rfl ?_
            refine e_goto (tgt := 79) dL_areAlike_158 (by decide) ?_
            exact e_forget (am_sub_k (am_sub_k (am_sub_k (am_sub_k am_sub_nil)))) h
          · replace h := h.2 hc
            refine e_aload_n dL_areAlike_136 rfl trivial ?_
            refine e_iload_n dL_areAlike_137 rfl ?_
            obtain ⟨⟨hk9, hn9⟩, h⟩ := h
            refine e_callSX (Mc := m_L_fateOf) (vs := [am_r l0, am_i l3]) (st := []) dL_areAlike_138 ok_L_fateOf rfl mk_L_113 sm_L_fateOf rfl rfl (by omega) (Nat.le_of_ble_eq_true rfl) hk9 hn9 am_xh_nx (am_C_mono h (fun v K37 N38 I39 P40 z41 h => ?_) (fun _ _ _ _ _ _ h => h))
            replace h := am_iv_or h
            obtain ⟨x42, rfl, h⟩ := h
            show am_E d m_L_areAlike 141 (k + 1 + 1 + 1 + 1 + 1 + 1 + 1) (n + 6 + 6 + 6 + 6 + 6 + 6 + 6) _ [am_i x42] K37 N38 I39 P40 z41 Q am_nx
            refine e_aload_n dL_areAlike_141 rfl trivial ?_
            refine e_iload_n dL_areAlike_142 rfl ?_
            obtain ⟨⟨hk9, hn9⟩, h⟩ := h
            refine e_callSX (Mc := m_L_fateOf) (vs := [am_r l1, am_i l3]) (st := [am_i x42]) dL_areAlike_143 ok_L_fateOf rfl mk_L_113 sm_L_fateOf rfl rfl (by omega) (Nat.le_of_ble_eq_true rfl) hk9 hn9 am_xh_nx (am_C_mono h (fun v K43 N44 I45 P46 z47 h => ?_) (fun _ _ _ _ _ _ h => h))
            replace h := am_iv_or h
            obtain ⟨x48, rfl, h⟩ := h
            show am_E d m_L_areAlike 146 (k + 1 + 1 + 1 + 1 + 1 + 1 + 1 + 1) (n + 6 + 6 + 6 + 6 + 6 + 6 + 6 + 6) _ [am_i x48, am_i x42] K43 N44 I45 P46 z47 Q am_nx
            refine e_icmp_ne (tgt := 153) dL_areAlike_146 (by decide) (fun hc => ?_) (fun hc => ?_)
            · replace h := h.1 hc
              refine e_iconst dL_areAlike_153 ?_
              refine e_istore_n dL_areAlike_154 ?_
              refine e_iinc dL_areAlike_155 rfl ?_
              refine e_goto (tgt := 79) dL_areAlike_158 (by decide) ?_
              exact e_forget (am_sub_k (am_sub_k (am_sub_k (am_sub_k am_sub_nil)))) h
            · replace h := h.2 hc
              refine e_iconst dL_areAlike_149 ?_
              refine e_goto (tgt := 154) dL_areAlike_150 (by decide) ?_
              refine e_istore_n dL_areAlike_154 ?_
              refine e_iinc dL_areAlike_155 rfl ?_
              refine e_goto (tgt := 79) dL_areAlike_158 (by decide) ?_
              exact e_forget (am_sub_k (am_sub_k (am_sub_k (am_sub_k am_sub_nil)))) h
def L_L_law_18 (d : Nat) (k n : Nat) (l0 : Nat) (l1 : Nat) (l2 : Nat) (l3 : Int) (K N : Nat → Nat) (I : Nat → Nat → Int) (P : Nat → Nat → Option Nat) (z : Nat) (Q : am_V → am_T) : Prop := am_E d m_L_law 18 k n [some (am_r l0), some (am_r l1), some (am_r l2), some (am_i l3), none, none, none] [] K N I P z Q am_nx
set_option maxRecDepth 100000 in
set_option maxHeartbeats 4000000 in
theorem wf_L_law {d : Nat} (hd : 1 ≤ d) {a1 : Nat} {K N : Nat → Nat} {I : Nat → Nat → Int} {P : Nat → Nat → Option Nat} {z : Nat} {Q : am_V → am_T} (h :
  (0 + 1 ≤ 600130 ∧ 0 + 7 ≤ 7301080) ∧ ∀ K1 N2 b3 z4, K1 = am_u1 K (z + 4) 7 → N2 = am_u1 N (z + 4) 0 → b3 = z + 4 → z4 = z + 1 → (0 + 1 + 279 ≤ 600130 ∧ 0 + 7 + 6750 ≤ 7301080) ∧ am_C (d - 1) m_X7_init [am_r b3] K1 N2 I P z4 (fun _ K6 N7 I8 P9 z10 =>
    (0 + 1 + 279 + 1 ≤ 600130 ∧ 0 + 7 + 6750 + 7 ≤ 7301080) ∧ ∀ K11 N12 b13 z14, K11 = am_u1 K6 (z10 + 4) 7 → N12 = am_u1 N7 (z10 + 4) 0 → b13 = z10 + 4 → z14 = z10 + 1 → (0 + 1 + 279 + 1 + 279 ≤ 600130 ∧ 0 + 7 + 6750 + 7 + 6750 ≤ 7301080) ∧ am_C (d - 1) m_X7_init [am_r b13] K11 N12 I8 P9 z14 (fun _ K16 N17 I18 P19 z20 =>
    L_L_law_18 d (0 + 1 + 279 + 1 + 279) (0 + 7 + 6750 + 7 + 6750) a1 b3 b13 0 K16 N17 I18 P19 z20 Q) am_nx) am_nx) :
  am_E d m_L_law 0 0 0 [some (am_r a1), none, none, none, none, none, none] [] K N I P z Q am_nx := by
  obtain ⟨⟨hk9, hn9⟩, h⟩ := h
  refine e_new (cc := 7) dL_law_0 (by decide) ck_L_10 in_7 ii_7 hk9 hn9 ?_
  replace h := h _ _ _ _ rfl rfl rfl rfl
  have hK5 : (am_u1 K (z + 4) 7) (z + 4) = 7 := by simp [am_u1]
  generalize eK1 : am_u1 K (z + 4) 7 = K1 at h hK5 ⊢
  generalize eN2 : am_u1 N (z + 4) 0 = N2 at h ⊢
  generalize eb3 : z + 4 = b3 at h hK5 ⊢
  generalize ez4 : z + 1 = z4 at h ⊢
  refine e_dup dL_law_3 rfl ?_
  obtain ⟨⟨hk9, hn9⟩, h⟩ := h
  refine e_callI (Mc := m_X7_init) (vs := []) (st := [am_r b3]) dL_law_4 ok_X7_init rfl rfl mk_L_147 im_X7_init rfl rfl rfl (by omega) (Nat.le_of_ble_eq_true rfl) hk9 hn9 am_xh_nx (am_C_mono h (fun v K6 N7 I8 P9 z10 h => ?_) (fun _ _ _ _ _ _ h => h))
  show am_E d m_L_law 7 (0 + 1 + 279) (0 + 7 + 6750) _ [am_r b3] K6 N7 I8 P9 z10 Q am_nx
  refine e_astore_n dL_law_7 trivial ?_
  obtain ⟨⟨hk9, hn9⟩, h⟩ := h
  refine e_new (cc := 7) dL_law_8 (by decide) ck_L_10 in_7 ii_7 hk9 hn9 ?_
  replace h := h _ _ _ _ rfl rfl rfl rfl
  have hK15 : (am_u1 K6 (z10 + 4) 7) (z10 + 4) = 7 := by simp [am_u1]
  generalize eK11 : am_u1 K6 (z10 + 4) 7 = K11 at h hK15 ⊢
  generalize eN12 : am_u1 N7 (z10 + 4) 0 = N12 at h ⊢
  generalize eb13 : z10 + 4 = b13 at h hK15 ⊢
  generalize ez14 : z10 + 1 = z14 at h ⊢
  refine e_dup dL_law_11 rfl ?_
  obtain ⟨⟨hk9, hn9⟩, h⟩ := h
  refine e_callI (Mc := m_X7_init) (vs := []) (st := [am_r b13]) dL_law_12 ok_X7_init rfl rfl mk_L_147 im_X7_init rfl rfl rfl (by omega) (Nat.le_of_ble_eq_true rfl) hk9 hn9 am_xh_nx (am_C_mono h (fun v K16 N17 I18 P19 z20 h => ?_) (fun _ _ _ _ _ _ h => h))
  show am_E d m_L_law 15 (0 + 1 + 279 + 1 + 279) (0 + 7 + 6750 + 7 + 6750) _ [am_r b13] K16 N17 I18 P19 z20 Q am_nx
  refine e_astore_n dL_law_15 trivial ?_
  refine e_iconst dL_law_16 ?_
  refine e_istore_n dL_law_17 ?_
  exact e_forget (am_sub_k (am_sub_k (am_sub_k (am_sub_k (am_sub_d (am_sub_d (am_sub_d am_sub_nil))))))) h
set_option maxRecDepth 100000 in
set_option maxHeartbeats 4000000 in
theorem wf_L_law_18 {d : Nat} (hd : 1 ≤ d) {k n : Nat} {l0 : Nat} {l1 : Nat} {l2 : Nat} {l3 : Int} {K N : Nat → Nat} {I : Nat → Nat → Int} {P : Nat → Nat → Option Nat} {z : Nat} {Q : am_V → am_T} (h :
  ((32 ≤ l3 →
    (k + 200 ≤ 600130 ∧ n + 1200 ≤ 7301080) ∧ am_C (d - 1) m_L_areAlike [am_r l1, am_r l2] K N I P z (fun v K1 N2 I3 P4 z5 => am_iv v fun x6 =>
      (k + 200 ≤ 600130 ∧ n + 1200 ≤ 7301080) ∧ (x6 = 0 ∨ x6 = 1) ∧ Q (am_i x6) K1 N2 I3 P4 z5) am_nx) ∧
    (¬ (32 ≤ l3) →
    (k + 0 ≤ 600130 ∧ n + 0 ≤ 7301080) ∧ am_C (d - 1) m_L_cell [am_r l0, am_i (am_wr (2 * l3))] K N I P z (fun v K7 N8 I9 P10 z11 => am_iv v fun x12 =>
      (k + 0 ≤ 600130 ∧ n + 0 ≤ 7301080) ∧ am_C (d - 1) m_L_cell [am_r l0, am_i (am_wr ((am_wr (2 * l3)) + 1))] K7 N8 I9 P10 z11 (fun v K13 N14 I15 P16 z17 => am_iv v fun x18 =>
      (k + 1 ≤ 600130 ∧ n + 6 ≤ 7301080) ∧ am_C (d - 1) m_L_ask [am_r l1, am_i x18, am_i x12] K13 N14 I15 P16 z17 (fun v K19 N20 I21 P22 z23 => am_iv v fun x24 =>
      (k + 1 + 1 ≤ 600130 ∧ n + 6 + 6 ≤ 7301080) ∧ am_C (d - 1) m_L_change [am_r l1, am_i x12, am_i x18] K19 N20 I21 P22 z23 (fun v K25 N26 I27 P28 z29 => am_iv v fun x30 =>
      (k + 1 + 1 + 1 ≤ 600130 ∧ n + 6 + 6 + 6 ≤ 7301080) ∧ am_C (d - 1) m_L_change [am_r l2, am_i x12, am_i x18] K25 N26 I27 P28 z29 (fun v K31 N32 I33 P34 z35 => am_iv v fun x36 =>
      ((¬ x30 = x36 →
      (k + 1 + 1 + 1 ≤ 600130 ∧ n + 6 + 6 + 6 ≤ 7301080) ∧ Q (am_i 0) K31 N32 I33 P34 z35) ∧
      (x30 = x36 →
      (k + 1 + 1 + 1 + 100 ≤ 600130 ∧ n + 6 + 6 + 6 + 600 ≤ 7301080) ∧ am_C (d - 1) m_L_isCounted [am_r l1] K31 N32 I33 P34 z35 (fun v K37 N38 I39 P40 z41 => am_iv v fun x42 =>
        ((x42 = 0 →
        (k + 1 + 1 + 1 + 100 ≤ 600130 ∧ n + 6 + 6 + 6 + 600 ≤ 7301080) ∧ Q (am_i 0) K37 N38 I39 P40 z41) ∧
        (¬ (x42 = 0) →
        (k + 1 + 1 + 1 + 100 + 3000 ≤ 600130 ∧ n + 6 + 6 + 6 + 600 + 18000 ≤ 7301080) ∧ am_C (d - 1) m_L_areApart [am_r l1] K37 N38 I39 P40 z41 (fun v K43 N44 I45 P46 z47 => am_iv v fun x48 =>
          ((¬ x48 = 0 →
          L_L_law_18 d (k + 1 + 1 + 1 + 100 + 3000) (n + 6 + 6 + 6 + 600 + 18000) l0 l1 l2 (am_wr (l3 + 1)) K43 N44 I45 P46 z47 Q) ∧
          (x48 = 0 →
          (k + 1 + 1 + 1 + 100 + 3000 ≤ 600130 ∧ n + 6 + 6 + 6 + 600 + 18000 ≤ 7301080) ∧ Q (am_i 0) K43 N44 I45 P46 z47))) am_nx))) am_nx))) am_nx) am_nx) am_nx) am_nx) am_nx))) :
  L_L_law_18 d k n l0 l1 l2 l3 K N I P z Q := by
  unfold L_L_law_18
  refine e_iload_n dL_law_18 rfl ?_
  refine e_bipush dL_law_19 ?_
  refine e_icmp_ge (tgt := 95) dL_law_21 (by decide) (fun hc => ?_) (fun hc => ?_)
  · replace h := h.1 hc
    refine e_aload_n dL_law_95 rfl trivial ?_
    refine e_aload_n dL_law_96 rfl trivial ?_
    obtain ⟨⟨hk9, hn9⟩, h⟩ := h
    refine e_callS (Mc := m_L_areAlike) (vs := [am_r l1, am_r l2]) (st := []) dL_law_97 ok_L_areAlike rfl mk_L_165 sm_L_areAlike rfl rfl (by omega) (Nat.le_of_ble_eq_true rfl) hk9 hn9 am_xh_nx (am_C_mono h (fun v K1 N2 I3 P4 z5 h => ?_) (fun _ _ _ _ _ _ h => h))
    replace h := am_iv_or h
    obtain ⟨x6, rfl, h⟩ := h
    show am_E d m_L_law 100 (k + 200) (n + 1200) _ [am_i x6] K1 N2 I3 P4 z5 Q am_nx
    obtain ⟨⟨hk9, hn9⟩, h⟩ := h
    obtain ⟨hz01, h⟩ := h
    exact e_ret_z dL_law_100 rfl hz01 hk9 hn9 h
  · replace h := h.2 hc
    refine e_aload_n dL_law_24 rfl trivial ?_
    refine e_iconst dL_law_25 ?_
    refine e_iload_n dL_law_26 rfl ?_
    refine e_imul dL_law_27 ?_
    obtain ⟨⟨hk9, hn9⟩, h⟩ := h
    refine e_callS (Mc := m_L_cell) (vs := [am_r l0, am_i (am_wr (2 * l3))]) (st := []) dL_law_28 ok_L_cell rfl mk_L_148 sm_L_cell rfl rfl (by omega) (Nat.le_of_ble_eq_true rfl) hk9 hn9 am_xh_nx (am_C_mono h (fun v K7 N8 I9 P10 z11 h => ?_) (fun _ _ _ _ _ _ h => h))
    replace h := am_iv_or h
    obtain ⟨x12, rfl, h⟩ := h
    show am_E d m_L_law 31 k n _ [am_i x12] K7 N8 I9 P10 z11 Q am_nx
    refine e_istore dL_law_31 ?_
    refine e_aload_n dL_law_33 rfl trivial ?_
    refine e_iconst dL_law_34 ?_
    refine e_iload_n dL_law_35 rfl ?_
    refine e_imul dL_law_36 ?_
    refine e_iconst dL_law_37 ?_
    refine e_iadd dL_law_38 ?_
    obtain ⟨⟨hk9, hn9⟩, h⟩ := h
    refine e_callS (Mc := m_L_cell) (vs := [am_r l0, am_i (am_wr ((am_wr (2 * l3)) + 1))]) (st := []) dL_law_39 ok_L_cell rfl mk_L_148 sm_L_cell rfl rfl (by omega) (Nat.le_of_ble_eq_true rfl) hk9 hn9 am_xh_nx (am_C_mono h (fun v K13 N14 I15 P16 z17 h => ?_) (fun _ _ _ _ _ _ h => h))
    replace h := am_iv_or h
    obtain ⟨x18, rfl, h⟩ := h
    show am_E d m_L_law 42 k n _ [am_i x18] K13 N14 I15 P16 z17 Q am_nx
    refine e_istore dL_law_42 ?_
    refine e_aload_n dL_law_44 rfl trivial ?_
    refine e_iload dL_law_45 rfl ?_
    refine e_iload dL_law_47 rfl ?_
    obtain ⟨⟨hk9, hn9⟩, h⟩ := h
    refine e_callS (Mc := m_L_ask) (vs := [am_r l1, am_i x18, am_i x12]) (st := []) dL_law_49 ok_L_ask rfl mk_L_152 sm_L_ask rfl rfl (by omega) (Nat.le_of_ble_eq_true rfl) hk9 hn9 am_xh_nx (am_C_mono h (fun v K19 N20 I21 P22 z23 h => ?_) (fun _ _ _ _ _ _ h => h))
    replace h := am_iv_or h
    obtain ⟨x24, rfl, h⟩ := h
    show am_E d m_L_law 52 (k + 1) (n + 6) _ [am_i x24] K19 N20 I21 P22 z23 Q am_nx
    refine e_istore dL_law_52 ?_
    refine e_aload_n dL_law_54 rfl trivial ?_
    refine e_iload dL_law_55 rfl ?_
    refine e_iload dL_law_57 rfl ?_
    obtain ⟨⟨hk9, hn9⟩, h⟩ := h
    refine e_callS (Mc := m_L_change) (vs := [am_r l1, am_i x12, am_i x18]) (st := []) dL_law_59 ok_L_change rfl mk_L_155 sm_L_change rfl rfl (by omega) (Nat.le_of_ble_eq_true rfl) hk9 hn9 am_xh_nx (am_C_mono h (fun v K25 N26 I27 P28 z29 h => ?_) (fun _ _ _ _ _ _ h => h))
    replace h := am_iv_or h
    obtain ⟨x30, rfl, h⟩ := h
    show am_E d m_L_law 62 (k + 1 + 1) (n + 6 + 6) _ [am_i x30] K25 N26 I27 P28 z29 Q am_nx
    refine e_aload_n dL_law_62 rfl trivial ?_
    refine e_iload dL_law_63 rfl ?_
    refine e_iload dL_law_65 rfl ?_
    obtain ⟨⟨hk9, hn9⟩, h⟩ := h
    refine e_callS (Mc := m_L_change) (vs := [am_r l2, am_i x12, am_i x18]) (st := [am_i x30]) dL_law_67 ok_L_change rfl mk_L_155 sm_L_change rfl rfl (by omega) (Nat.le_of_ble_eq_true rfl) hk9 hn9 am_xh_nx (am_C_mono h (fun v K31 N32 I33 P34 z35 h => ?_) (fun _ _ _ _ _ _ h => h))
    replace h := am_iv_or h
    obtain ⟨x36, rfl, h⟩ := h
    show am_E d m_L_law 70 (k + 1 + 1 + 1) (n + 6 + 6 + 6) _ [am_i x36, am_i x30] K31 N32 I33 P34 z35 Q am_nx
    refine e_icmp_ne (tgt := 87) dL_law_70 (by decide) (fun hc => ?_) (fun hc => ?_)
    · replace h := h.1 hc
      refine e_iconst dL_law_87 ?_
      obtain ⟨⟨hk9, hn9⟩, h⟩ := h
      exact e_ret_z dL_law_88 rfl (by decide) hk9 hn9 h
    · replace h := h.2 hc
      refine e_aload_n dL_law_73 rfl trivial ?_
      obtain ⟨⟨hk9, hn9⟩, h⟩ := h
      refine e_callS (Mc := m_L_isCounted) (vs := [am_r l1]) (st := []) dL_law_74 ok_L_isCounted rfl mk_L_158 sm_L_isCounted rfl rfl (by omega) (Nat.le_of_ble_eq_true rfl) hk9 hn9 am_xh_nx (am_C_mono h (fun v K37 N38 I39 P40 z41 h => ?_) (fun _ _ _ _ _ _ h => h))
      replace h := am_iv_or h
      obtain ⟨x42, rfl, h⟩ := h
      show am_E d m_L_law 77 (k + 1 + 1 + 1 + 100) (n + 6 + 6 + 6 + 600) _ [am_i x42] K37 N38 I39 P40 z41 Q am_nx
      refine e_if_eq (tgt := 87) dL_law_77 (by decide) (fun hc => ?_) (fun hc => ?_)
      · replace h := h.1 hc
        refine e_iconst dL_law_87 ?_
        obtain ⟨⟨hk9, hn9⟩, h⟩ := h
        exact e_ret_z dL_law_88 rfl (by decide) hk9 hn9 h
      · replace h := h.2 hc
        refine e_aload_n dL_law_80 rfl trivial ?_
        obtain ⟨⟨hk9, hn9⟩, h⟩ := h
        refine e_callS (Mc := m_L_areApart) (vs := [am_r l1]) (st := []) dL_law_81 ok_L_areApart rfl mk_L_162 sm_L_areApart rfl rfl (by omega) (Nat.le_of_ble_eq_true rfl) hk9 hn9 am_xh_nx (am_C_mono h (fun v K43 N44 I45 P46 z47 h => ?_) (fun _ _ _ _ _ _ h => h))
        replace h := am_iv_or h
        obtain ⟨x48, rfl, h⟩ := h
        show am_E d m_L_law 84 (k + 1 + 1 + 1 + 100 + 3000) (n + 6 + 6 + 6 + 600 + 18000) _ [am_i x48] K43 N44 I45 P46 z47 Q am_nx
        refine e_if_ne (tgt := 89) dL_law_84 (by decide) (fun hc => ?_) (fun hc => ?_)
        · replace h := h.1 hc
          refine e_iinc dL_law_89 rfl ?_
          refine e_goto (tgt := 18) dL_law_92 (by decide) ?_
          exact e_forget (am_sub_k (am_sub_k (am_sub_k (am_sub_k (am_sub_d (am_sub_d (am_sub_d am_sub_nil))))))) h
        · replace h := h.2 hc
          refine e_iconst dL_law_87 ?_
          obtain ⟨⟨hk9, hn9⟩, h⟩ := h
          exact e_ret_z dL_law_88 rfl (by decide) hk9 hn9 h
