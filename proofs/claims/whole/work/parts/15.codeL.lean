set_option maxRecDepth 100000 in
theorem hn_L_set_5 : ∀ q ∈ ([(0, 1), (1, 2), (2, 3)] : List (Nat × Int)), am_han m_L_set 5 q.1 q.2 := List.forall_mem_cons.mpr ⟨⟨[], ⟨0, 10, 13, 13⟩, [⟨0, 10, 17, 15⟩, ⟨0, 10, 21, 17⟩], 13, 2, 4, rfl, (fun _ h => absurd h List.not_mem_nil), by decide, by decide, hk_13, by decide, rfl, by decide, Or.inl ⟨dL_set_13, rfl⟩, dL_set_15, dL_set_16, rfl, by decide, by decide⟩, List.forall_mem_cons.mpr ⟨⟨[⟨0, 10, 13, 13⟩], ⟨0, 10, 17, 15⟩, [⟨0, 10, 21, 17⟩], 17, 2, 4, rfl, List.forall_mem_cons.mpr ⟨Or.inr ⟨by decide, _, hk_13, by decide⟩, (fun _ h => absurd h List.not_mem_nil)⟩, by decide, by decide, hk_15, by decide, rfl, by decide, Or.inl ⟨dL_set_17, rfl⟩, dL_set_19, dL_set_20, rfl, by decide, by decide⟩, List.forall_mem_cons.mpr ⟨⟨[⟨0, 10, 13, 13⟩, ⟨0, 10, 17, 15⟩], ⟨0, 10, 21, 17⟩, [], 21, 2, 4, rfl, List.forall_mem_cons.mpr ⟨Or.inr ⟨by decide, _, hk_13, by decide⟩, List.forall_mem_cons.mpr ⟨Or.inr ⟨by decide, _, hk_15, by decide⟩, (fun _ h => absurd h List.not_mem_nil)⟩⟩, by decide, by decide, hk_17, by decide, rfl, by decide, Or.inl ⟨dL_set_21, rfl⟩, dL_set_23, dL_set_24, rfl, by decide, by decide⟩, (fun _ h => absurd h List.not_mem_nil)⟩⟩⟩
set_option maxRecDepth 100000 in
set_option maxHeartbeats 4000000 in
theorem wf_L_set {d : Nat} (hd : 1 ≤ d) {a1 : Nat} {a2 : Int} {a3 : Int} {a4 : Nat} {K N : Nat → Nat} {I : Nat → Nat → Int} {P : Nat → Nat → Option Nat} {z : Nat} {Q : am_V → am_T} (h :
  K a1 = 7 ∧ am_C (d - 1) m_X7_set [am_r a1, am_i a2, am_i a3] K N I P z (fun v K1 N2 I3 P4 z5 => am_iv v fun x7 =>
    K1 a4 = 14 ∧ (0 ≤ (0 : Int) ∧ (0 : Int) < N2 a4) ∧ ∀ I9, I9 = am_u2 I3 a4 (Int.toNat 0) x7 → Q (am_i 0) K1 N2 I9 P4 z5) (fun ee K N I P z => am_hq ee [(0, 1), (1, 2), (2, 3)] (fun r => Q (am_i r) K N I P z))) :
  am_C d m_L_set [am_r a1, am_i a2, am_i a3, am_r a4] K N I P z Q am_nx := by
  refine am_C_of ok_L_set (fun v hv => am_v1all _ rfl v hv) (Nat.le_of_ble_eq_true rfl) ?_
  show am_E d m_L_set 0 0 0 [some (am_r a1), some (am_i a2), some (am_i a3), some (am_r a4), none] [] K N I P z Q am_nx
  refine e_aload_n dL_set_0 rfl trivial ?_
  refine e_iconst dL_set_1 ?_
  refine e_aload_n dL_set_2 rfl trivial ?_
  refine e_iload_n dL_set_3 rfl ?_
  refine e_iload_n dL_set_4 rfl ?_
  obtain ⟨hK6, h⟩ := h
  refine e_callV (Mc := m_X7_set) (vs := [am_i a2, am_i a3]) (st := [am_i 0, am_r a4]) dL_set_5 ok_X7_set rfl ⟨by decide, rfl⟩ mk_L_7 im_X7_set sl_X7_set rfl rfl hK6 (by omega) (Nat.le_of_ble_eq_true rfl) (Nat.le_of_ble_eq_true rfl) (Nat.le_of_ble_eq_true rfl) (am_xh_hq hn_L_set_5 (by decide) (by decide)) (am_C_mono h (fun v K1 N2 I3 P4 z5 h => ?_) (fun _ _ _ _ _ _ h => h))
  replace h := am_iv_or h
  obtain ⟨x7, rfl, h⟩ := h
  show am_E d m_L_set 8 _ _ _ [am_i x7, am_i 0, am_r a4] K1 N2 I3 P4 z5 Q am_nx
  refine e_i2l dL_set_8 ?_
  obtain ⟨hK8, h⟩ := h
  obtain ⟨⟨h0, h1⟩, h⟩ := h
  refine e_last dL_set_9 hK8 h0 h1 ?_
  replace h := h _ rfl
  generalize am_u2 I3 a4 (Int.toNat 0) x7 = I9 at h ⊢
  refine e_goto (tgt := 25) dL_set_10 (by decide) ?_
  refine e_iconst dL_set_25 ?_
  exact e_ret_i dL_set_26 rfl (Nat.le_of_ble_eq_true rfl) (Nat.le_of_ble_eq_true rfl) h
set_option maxRecDepth 100000 in
theorem hn_L_addLane_7 : ∀ q ∈ ([(1, 1), (2, 2)] : List (Nat × Int)), am_han m_L_addLane 7 q.1 q.2 := List.forall_mem_cons.mpr ⟨⟨[], ⟨0, 12, 15, 15⟩, [⟨0, 12, 19, 17⟩], 15, 2, 5, rfl, (fun _ h => absurd h List.not_mem_nil), by decide, by decide, hk_15, by decide, rfl, by decide, Or.inl ⟨dL_addLane_15, rfl⟩, dL_addLane_17, dL_addLane_18, rfl, by decide, by decide⟩, List.forall_mem_cons.mpr ⟨⟨[⟨0, 12, 15, 15⟩], ⟨0, 12, 19, 17⟩, [], 19, 2, 5, rfl, List.forall_mem_cons.mpr ⟨Or.inr ⟨by decide, _, hk_15, by decide⟩, (fun _ h => absurd h List.not_mem_nil)⟩, by decide, by decide, hk_17, by decide, rfl, by decide, Or.inl ⟨dL_addLane_19, rfl⟩, dL_addLane_21, dL_addLane_22, rfl, by decide, by decide⟩, (fun _ h => absurd h List.not_mem_nil)⟩⟩
set_option maxRecDepth 100000 in
set_option maxHeartbeats 4000000 in
theorem wf_L_addLane {d : Nat} (hd : 1 ≤ d) {a1 : Nat} {a2 : Int} {a3 : Int} {a4 : Int} {a5 : Nat} {K N : Nat → Nat} {I : Nat → Nat → Int} {P : Nat → Nat → Option Nat} {z : Nat} {Q : am_V → am_T} (h :
  K a1 = 7 ∧ am_C (d - 1) m_X7_addLane [am_r a1, am_i a2, am_i a3, am_i a4] K N I P z (fun v K1 N2 I3 P4 z5 => am_iv v fun x7 =>
    K1 a5 = 14 ∧ (0 ≤ (0 : Int) ∧ (0 : Int) < N2 a5) ∧ ∀ I9, I9 = am_u2 I3 a5 (Int.toNat 0) x7 → Q (am_i 0) K1 N2 I9 P4 z5) (fun ee K N I P z => am_hq ee [(1, 1), (2, 2)] (fun r => Q (am_i r) K N I P z))) :
  am_C d m_L_addLane [am_r a1, am_i a2, am_i a3, am_i a4, am_r a5] K N I P z Q am_nx := by
  refine am_C_of ok_L_addLane (fun v hv => am_v1all _ rfl v hv) (Nat.le_of_ble_eq_true rfl) ?_
  show am_E d m_L_addLane 0 0 0 [some (am_r a1), some (am_i a2), some (am_i a3), some (am_i a4), some (am_r a5), none] [] K N I P z Q am_nx
  refine e_aload dL_addLane_0 rfl trivial ?_
  refine e_iconst dL_addLane_2 ?_
  refine e_aload_n dL_addLane_3 rfl trivial ?_
  refine e_iload_n dL_addLane_4 rfl ?_
  refine e_iload_n dL_addLane_5 rfl ?_
  refine e_iload_n dL_addLane_6 rfl ?_
  obtain ⟨hK6, h⟩ := h
  refine e_callV (Mc := m_X7_addLane) (vs := [am_i a2, am_i a3, am_i a4]) (st := [am_i 0, am_r a5]) dL_addLane_7 ok_X7_addLane rfl ⟨by decide, rfl⟩ mk_L_19 im_X7_addLane sl_X7_addLane rfl rfl hK6 (by omega) (Nat.le_of_ble_eq_true rfl) (Nat.le_of_ble_eq_true rfl) (Nat.le_of_ble_eq_true rfl) (am_xh_hq hn_L_addLane_7 (by decide) (by decide)) (am_C_mono h (fun v K1 N2 I3 P4 z5 h => ?_) (fun _ _ _ _ _ _ h => h))
  replace h := am_iv_or h
  obtain ⟨x7, rfl, h⟩ := h
  show am_E d m_L_addLane 10 _ _ _ [am_i x7, am_i 0, am_r a5] K1 N2 I3 P4 z5 Q am_nx
  refine e_i2l dL_addLane_10 ?_
  obtain ⟨hK8, h⟩ := h
  obtain ⟨⟨h0, h1⟩, h⟩ := h
  refine e_last dL_addLane_11 hK8 h0 h1 ?_
  replace h := h _ rfl
  generalize am_u2 I3 a5 (Int.toNat 0) x7 = I9 at h ⊢
  refine e_goto (tgt := 23) dL_addLane_12 (by decide) ?_
  refine e_iconst dL_addLane_23 ?_
  exact e_ret_i dL_addLane_24 rfl (Nat.le_of_ble_eq_true rfl) (Nat.le_of_ble_eq_true rfl) h
set_option maxRecDepth 100000 in
theorem hn_L_emptyLane_4 : ∀ q ∈ ([(0, 1)] : List (Nat × Int)), am_han m_L_emptyLane 4 q.1 q.2 := List.forall_mem_cons.mpr ⟨⟨[], ⟨0, 9, 12, 13⟩, [], 12, 1, 3, rfl, (fun _ h => absurd h List.not_mem_nil), by decide, by decide, hk_13, by decide, rfl, by decide, Or.inr ⟨3, rfl, dL_emptyLane_12, rfl⟩, dL_emptyLane_13, dL_emptyLane_14, rfl, by decide, by decide⟩, (fun _ h => absurd h List.not_mem_nil)⟩
set_option maxRecDepth 100000 in
set_option maxHeartbeats 4000000 in
theorem wf_L_emptyLane {d : Nat} (hd : 1 ≤ d) {a1 : Nat} {a2 : Int} {a3 : Nat} {K N : Nat → Nat} {I : Nat → Nat → Int} {P : Nat → Nat → Option Nat} {z : Nat} {Q : am_V → am_T} (h :
  K a1 = 7 ∧ am_C (d - 1) m_X7_emptyLane [am_r a1, am_i a2] K N I P z (fun v K1 N2 I3 P4 z5 => am_iv v fun x7 =>
    K1 a3 = 14 ∧ (0 ≤ (0 : Int) ∧ (0 : Int) < N2 a3) ∧ ∀ I9, I9 = am_u2 I3 a3 (Int.toNat 0) x7 → Q (am_i 0) K1 N2 I9 P4 z5) (fun ee K N I P z => am_hq ee [(0, 1)] (fun r => Q (am_i r) K N I P z))) :
  am_C d m_L_emptyLane [am_r a1, am_i a2, am_r a3] K N I P z Q am_nx := by
  refine am_C_of ok_L_emptyLane (fun v hv => am_v1all _ rfl v hv) (Nat.le_of_ble_eq_true rfl) ?_
  show am_E d m_L_emptyLane 0 0 0 [some (am_r a1), some (am_i a2), some (am_r a3), none] [] K N I P z Q am_nx
  refine e_aload_n dL_emptyLane_0 rfl trivial ?_
  refine e_iconst dL_emptyLane_1 ?_
  refine e_aload_n dL_emptyLane_2 rfl trivial ?_
  refine e_iload_n dL_emptyLane_3 rfl ?_
  obtain ⟨hK6, h⟩ := h
  refine e_callV (Mc := m_X7_emptyLane) (vs := [am_i a2]) (st := [am_i 0, am_r a3]) dL_emptyLane_4 ok_X7_emptyLane rfl ⟨by decide, rfl⟩ mk_L_23 im_X7_emptyLane sl_X7_emptyLane rfl rfl hK6 (by omega) (Nat.le_of_ble_eq_true rfl) (Nat.le_of_ble_eq_true rfl) (Nat.le_of_ble_eq_true rfl) (am_xh_hq hn_L_emptyLane_4 (by decide) (by decide)) (am_C_mono h (fun v K1 N2 I3 P4 z5 h => ?_) (fun _ _ _ _ _ _ h => h))
  replace h := am_iv_or h
  obtain ⟨x7, rfl, h⟩ := h
  show am_E d m_L_emptyLane 7 _ _ _ [am_i x7, am_i 0, am_r a3] K1 N2 I3 P4 z5 Q am_nx
  refine e_i2l dL_emptyLane_7 ?_
  obtain ⟨hK8, h⟩ := h
  obtain ⟨⟨h0, h1⟩, h⟩ := h
  refine e_last dL_emptyLane_8 hK8 h0 h1 ?_
  replace h := h _ rfl
  generalize am_u2 I3 a3 (Int.toNat 0) x7 = I9 at h ⊢
  refine e_goto (tgt := 15) dL_emptyLane_9 (by decide) ?_
  refine e_iconst dL_emptyLane_15 ?_
  exact e_ret_i dL_emptyLane_16 rfl (Nat.le_of_ble_eq_true rfl) (Nat.le_of_ble_eq_true rfl) h
set_option maxRecDepth 100000 in
theorem hn_L_route_5 : ∀ q ∈ ([(1, 1), (0, 2), (2, 3)] : List (Nat × Int)), am_han m_L_route 5 q.1 q.2 := List.forall_mem_cons.mpr ⟨⟨[], ⟨0, 10, 13, 15⟩, [⟨0, 10, 17, 13⟩, ⟨0, 10, 21, 17⟩], 13, 2, 4, rfl, (fun _ h => absurd h List.not_mem_nil), by decide, by decide, hk_15, by decide, rfl, by decide, Or.inl ⟨dL_route_13, rfl⟩, dL_route_15, dL_route_16, rfl, by decide, by decide⟩, List.forall_mem_cons.mpr ⟨⟨[⟨0, 10, 13, 15⟩], ⟨0, 10, 17, 13⟩, [⟨0, 10, 21, 17⟩], 17, 2, 4, rfl, List.forall_mem_cons.mpr ⟨Or.inr ⟨by decide, _, hk_15, by decide⟩, (fun _ h => absurd h List.not_mem_nil)⟩, by decide, by decide, hk_13, by decide, rfl, by decide, Or.inl ⟨dL_route_17, rfl⟩, dL_route_19, dL_route_20, rfl, by decide, by decide⟩, List.forall_mem_cons.mpr ⟨⟨[⟨0, 10, 13, 15⟩, ⟨0, 10, 17, 13⟩], ⟨0, 10, 21, 17⟩, [], 21, 2, 4, rfl, List.forall_mem_cons.mpr ⟨Or.inr ⟨by decide, _, hk_15, by decide⟩, List.forall_mem_cons.mpr ⟨Or.inr ⟨by decide, _, hk_13, by decide⟩, (fun _ h => absurd h List.not_mem_nil)⟩⟩, by decide, by decide, hk_17, by decide, rfl, by decide, Or.inl ⟨dL_route_21, rfl⟩, dL_route_23, dL_route_24, rfl, by decide, by decide⟩, (fun _ h => absurd h List.not_mem_nil)⟩⟩⟩
set_option maxRecDepth 100000 in
set_option maxHeartbeats 4000000 in
theorem wf_L_route {d : Nat} (hd : 1 ≤ d) {a1 : Nat} {a2 : Int} {a3 : Int} {a4 : Nat} {K N : Nat → Nat} {I : Nat → Nat → Int} {P : Nat → Nat → Option Nat} {z : Nat} {Q : am_V → am_T} (h :
  K a1 = 7 ∧ am_C (d - 1) m_X7_route [am_r a1, am_i a2, am_i a3] K N I P z (fun v K1 N2 I3 P4 z5 => am_iv v fun x7 =>
    K1 a4 = 14 ∧ (0 ≤ (0 : Int) ∧ (0 : Int) < N2 a4) ∧ ∀ I9, I9 = am_u2 I3 a4 (Int.toNat 0) x7 → Q (am_i 0) K1 N2 I9 P4 z5) (fun ee K N I P z => am_hq ee [(1, 1), (0, 2), (2, 3)] (fun r => Q (am_i r) K N I P z))) :
  am_C d m_L_route [am_r a1, am_i a2, am_i a3, am_r a4] K N I P z Q am_nx := by
  refine am_C_of ok_L_route (fun v hv => am_v1all _ rfl v hv) (Nat.le_of_ble_eq_true rfl) ?_
  show am_E d m_L_route 0 0 0 [some (am_r a1), some (am_i a2), some (am_i a3), some (am_r a4), none] [] K N I P z Q am_nx
  refine e_aload_n dL_route_0 rfl trivial ?_
  refine e_iconst dL_route_1 ?_
  refine e_aload_n dL_route_2 rfl trivial ?_
  refine e_iload_n dL_route_3 rfl ?_
  refine e_iload_n dL_route_4 rfl ?_
  obtain ⟨hK6, h⟩ := h
  refine e_callV (Mc := m_X7_route) (vs := [am_i a2, am_i a3]) (st := [am_i 0, am_r a4]) dL_route_5 ok_X7_route rfl ⟨by decide, rfl⟩ mk_L_27 im_X7_route sl_X7_route rfl rfl hK6 (by omega) (Nat.le_of_ble_eq_true rfl) (Nat.le_of_ble_eq_true rfl) (Nat.le_of_ble_eq_true rfl) (am_xh_hq hn_L_route_5 (by decide) (by decide)) (am_C_mono h (fun v K1 N2 I3 P4 z5 h => ?_) (fun _ _ _ _ _ _ h => h))
  replace h := am_iv_or h
  obtain ⟨x7, rfl, h⟩ := h
  show am_E d m_L_route 8 _ _ _ [am_i x7, am_i 0, am_r a4] K1 N2 I3 P4 z5 Q am_nx
  refine e_i2l dL_route_8 ?_
  obtain ⟨hK8, h⟩ := h
  obtain ⟨⟨h0, h1⟩, h⟩ := h
  refine e_last dL_route_9 hK8 h0 h1 ?_
  replace h := h _ rfl
  generalize am_u2 I3 a4 (Int.toNat 0) x7 = I9 at h ⊢
  refine e_goto (tgt := 25) dL_route_10 (by decide) ?_
  refine e_iconst dL_route_25 ?_
  exact e_ret_i dL_route_26 rfl (Nat.le_of_ble_eq_true rfl) (Nat.le_of_ble_eq_true rfl) h
set_option maxRecDepth 100000 in
theorem hn_L_removeRoute_4 : ∀ q ∈ ([(1, 1), (2, 2)] : List (Nat × Int)), am_han m_L_removeRoute 4 q.1 q.2 := List.forall_mem_cons.mpr ⟨⟨[], ⟨0, 9, 12, 15⟩, [⟨0, 9, 15, 17⟩], 12, 1, 3, rfl, (fun _ h => absurd h List.not_mem_nil), by decide, by decide, hk_15, by decide, rfl, by decide, Or.inr ⟨3, rfl, dL_removeRoute_12, rfl⟩, dL_removeRoute_13, dL_removeRoute_14, rfl, by decide, by decide⟩, List.forall_mem_cons.mpr ⟨⟨[⟨0, 9, 12, 15⟩], ⟨0, 9, 15, 17⟩, [], 15, 1, 3, rfl, List.forall_mem_cons.mpr ⟨Or.inr ⟨by decide, _, hk_15, by decide⟩, (fun _ h => absurd h List.not_mem_nil)⟩, by decide, by decide, hk_17, by decide, rfl, by decide, Or.inr ⟨3, rfl, dL_removeRoute_15, rfl⟩, dL_removeRoute_16, dL_removeRoute_17, rfl, by decide, by decide⟩, (fun _ h => absurd h List.not_mem_nil)⟩⟩
set_option maxRecDepth 100000 in
set_option maxHeartbeats 4000000 in
theorem wf_L_removeRoute {d : Nat} (hd : 1 ≤ d) {a1 : Nat} {a2 : Int} {a3 : Nat} {K N : Nat → Nat} {I : Nat → Nat → Int} {P : Nat → Nat → Option Nat} {z : Nat} {Q : am_V → am_T} (h :
  K a1 = 7 ∧ am_C (d - 1) m_X7_removeRoute [am_r a1, am_i a2] K N I P z (fun v K1 N2 I3 P4 z5 => am_iv v fun x7 =>
    K1 a3 = 14 ∧ (0 ≤ (0 : Int) ∧ (0 : Int) < N2 a3) ∧ ∀ I9, I9 = am_u2 I3 a3 (Int.toNat 0) x7 → Q (am_i 0) K1 N2 I9 P4 z5) (fun ee K N I P z => am_hq ee [(1, 1), (2, 2)] (fun r => Q (am_i r) K N I P z))) :
  am_C d m_L_removeRoute [am_r a1, am_i a2, am_r a3] K N I P z Q am_nx := by
  refine am_C_of ok_L_removeRoute (fun v hv => am_v1all _ rfl v hv) (Nat.le_of_ble_eq_true rfl) ?_
  show am_E d m_L_removeRoute 0 0 0 [some (am_r a1), some (am_i a2), some (am_r a3), none] [] K N I P z Q am_nx
  refine e_aload_n dL_removeRoute_0 rfl trivial ?_
  refine e_iconst dL_removeRoute_1 ?_
  refine e_aload_n dL_removeRoute_2 rfl trivial ?_
  refine e_iload_n dL_removeRoute_3 rfl ?_
  obtain ⟨hK6, h⟩ := h
  refine e_callV (Mc := m_X7_removeRoute) (vs := [am_i a2]) (st := [am_i 0, am_r a3]) dL_removeRoute_4 ok_X7_removeRoute rfl ⟨by decide, rfl⟩ mk_L_30 im_X7_removeRoute sl_X7_removeRoute rfl rfl hK6 (by omega) (Nat.le_of_ble_eq_true rfl) (Nat.le_of_ble_eq_true rfl) (Nat.le_of_ble_eq_true rfl) (am_xh_hq hn_L_removeRoute_4 (by decide) (by decide)) (am_C_mono h (fun v K1 N2 I3 P4 z5 h => ?_) (fun _ _ _ _ _ _ h => h))
  replace h := am_iv_or h
  obtain ⟨x7, rfl, h⟩ := h
  show am_E d m_L_removeRoute 7 _ _ _ [am_i x7, am_i 0, am_r a3] K1 N2 I3 P4 z5 Q am_nx
  refine e_i2l dL_removeRoute_7 ?_
  obtain ⟨hK8, h⟩ := h
  obtain ⟨⟨h0, h1⟩, h⟩ := h
  refine e_last dL_removeRoute_8 hK8 h0 h1 ?_
  replace h := h _ rfl
  generalize am_u2 I3 a3 (Int.toNat 0) x7 = I9 at h ⊢
  refine e_goto (tgt := 18) dL_removeRoute_9 (by decide) ?_
  refine e_iconst dL_removeRoute_18 ?_
  exact e_ret_i dL_removeRoute_19 rfl (Nat.le_of_ble_eq_true rfl) (Nat.le_of_ble_eq_true rfl) h
set_option maxRecDepth 100000 in
theorem hn_L_enter_4 : ∀ q ∈ ([(1, 1), (2, 2)] : List (Nat × Int)), am_han m_L_enter 4 q.1 q.2 := List.forall_mem_cons.mpr ⟨⟨[], ⟨0, 9, 12, 15⟩, [⟨0, 9, 15, 17⟩], 12, 1, 3, rfl, (fun _ h => absurd h List.not_mem_nil), by decide, by decide, hk_15, by decide, rfl, by decide, Or.inr ⟨3, rfl, dL_enter_12, rfl⟩, dL_enter_13, dL_enter_14, rfl, by decide, by decide⟩, List.forall_mem_cons.mpr ⟨⟨[⟨0, 9, 12, 15⟩], ⟨0, 9, 15, 17⟩, [], 15, 1, 3, rfl, List.forall_mem_cons.mpr ⟨Or.inr ⟨by decide, _, hk_15, by decide⟩, (fun _ h => absurd h List.not_mem_nil)⟩, by decide, by decide, hk_17, by decide, rfl, by decide, Or.inr ⟨3, rfl, dL_enter_15, rfl⟩, dL_enter_16, dL_enter_17, rfl, by decide, by decide⟩, (fun _ h => absurd h List.not_mem_nil)⟩⟩
set_option maxRecDepth 100000 in
set_option maxHeartbeats 4000000 in
theorem wf_L_enter {d : Nat} (hd : 1 ≤ d) {a1 : Nat} {a2 : Int} {a3 : Nat} {K N : Nat → Nat} {I : Nat → Nat → Int} {P : Nat → Nat → Option Nat} {z : Nat} {Q : am_V → am_T} (h :
  K a1 = 7 ∧ am_C (d - 1) m_X7_enter [am_r a1, am_i a2] K N I P z (fun v K1 N2 I3 P4 z5 => am_iv v fun x7 =>
    K1 a3 = 14 ∧ (0 ≤ (0 : Int) ∧ (0 : Int) < N2 a3) ∧ ∀ I9, I9 = am_u2 I3 a3 (Int.toNat 0) x7 → Q (am_i 0) K1 N2 I9 P4 z5) (fun ee K N I P z => am_hq ee [(1, 1), (2, 2)] (fun r => Q (am_i r) K N I P z))) :
  am_C d m_L_enter [am_r a1, am_i a2, am_r a3] K N I P z Q am_nx := by
  refine am_C_of ok_L_enter (fun v hv => am_v1all _ rfl v hv) (Nat.le_of_ble_eq_true rfl) ?_
  show am_E d m_L_enter 0 0 0 [some (am_r a1), some (am_i a2), some (am_r a3), none] [] K N I P z Q am_nx
  refine e_aload_n dL_enter_0 rfl trivial ?_
  refine e_iconst dL_enter_1 ?_
  refine e_aload_n dL_enter_2 rfl trivial ?_
  refine e_iload_n dL_enter_3 rfl ?_
  obtain ⟨hK6, h⟩ := h
  refine e_callV (Mc := m_X7_enter) (vs := [am_i a2]) (st := [am_i 0, am_r a3]) dL_enter_4 ok_X7_enter rfl ⟨by decide, rfl⟩ mk_L_33 im_X7_enter sl_X7_enter rfl rfl hK6 (by omega) (Nat.le_of_ble_eq_true rfl) (Nat.le_of_ble_eq_true rfl) (Nat.le_of_ble_eq_true rfl) (am_xh_hq hn_L_enter_4 (by decide) (by decide)) (am_C_mono h (fun v K1 N2 I3 P4 z5 h => ?_) (fun _ _ _ _ _ _ h => h))
  replace h := am_iv_or h
  obtain ⟨x7, rfl, h⟩ := h
  show am_E d m_L_enter 7 _ _ _ [am_i x7, am_i 0, am_r a3] K1 N2 I3 P4 z5 Q am_nx
  refine e_i2l dL_enter_7 ?_
  obtain ⟨hK8, h⟩ := h
  obtain ⟨⟨h0, h1⟩, h⟩ := h
  refine e_last dL_enter_8 hK8 h0 h1 ?_
  replace h := h _ rfl
  generalize am_u2 I3 a3 (Int.toNat 0) x7 = I9 at h ⊢
  refine e_goto (tgt := 18) dL_enter_9 (by decide) ?_
  refine e_iconst dL_enter_18 ?_
  exact e_ret_i dL_enter_19 rfl (Nat.le_of_ble_eq_true rfl) (Nat.le_of_ble_eq_true rfl) h
set_option maxRecDepth 100000 in
theorem hn_L_read_4 : ∀ q ∈ ([(1, 1)] : List (Nat × Int)), am_han m_L_read 4 q.1 q.2 := List.forall_mem_cons.mpr ⟨⟨[], ⟨0, 9, 12, 15⟩, [], 12, 1, 3, rfl, (fun _ h => absurd h List.not_mem_nil), by decide, by decide, hk_15, by decide, rfl, by decide, Or.inr ⟨3, rfl, dL_read_12, rfl⟩, dL_read_13, dL_read_14, rfl, by decide, by decide⟩, (fun _ h => absurd h List.not_mem_nil)⟩
set_option maxRecDepth 100000 in
set_option maxHeartbeats 4000000 in
theorem wf_L_read {d : Nat} (hd : 1 ≤ d) {a1 : Nat} {a2 : Int} {a3 : Nat} {K N : Nat → Nat} {I : Nat → Nat → Int} {P : Nat → Nat → Option Nat} {z : Nat} {Q : am_V → am_T} (h :
  K a1 = 7 ∧ am_C (d - 1) m_X7_read [am_r a1, am_i a2] K N I P z (fun v K1 N2 I3 P4 z5 => am_iv v fun x7 =>
    K1 a3 = 14 ∧ (0 ≤ (0 : Int) ∧ (0 : Int) < N2 a3) ∧ ∀ I9, I9 = am_u2 I3 a3 (Int.toNat 0) x7 → Q (am_i 0) K1 N2 I9 P4 z5) (fun ee K N I P z => am_hq ee [(1, 1)] (fun r => Q (am_i r) K N I P z))) :
  am_C d m_L_read [am_r a1, am_i a2, am_r a3] K N I P z Q am_nx := by
  refine am_C_of ok_L_read (fun v hv => am_v1all _ rfl v hv) (Nat.le_of_ble_eq_true rfl) ?_
  show am_E d m_L_read 0 0 0 [some (am_r a1), some (am_i a2), some (am_r a3), none] [] K N I P z Q am_nx
  refine e_aload_n dL_read_0 rfl trivial ?_
  refine e_iconst dL_read_1 ?_
  refine e_aload_n dL_read_2 rfl trivial ?_
  refine e_iload_n dL_read_3 rfl ?_
  obtain ⟨hK6, h⟩ := h
  refine e_callV (Mc := m_X7_read) (vs := [am_i a2]) (st := [am_i 0, am_r a3]) dL_read_4 ok_X7_read rfl ⟨by decide, rfl⟩ mk_L_36 im_X7_read sl_X7_read rfl rfl hK6 (by omega) (Nat.le_of_ble_eq_true rfl) (Nat.le_of_ble_eq_true rfl) (Nat.le_of_ble_eq_true rfl) (am_xh_hq hn_L_read_4 (by decide) (by decide)) (am_C_mono h (fun v K1 N2 I3 P4 z5 h => ?_) (fun _ _ _ _ _ _ h => h))
  replace h := am_iv_or h
  obtain ⟨x7, rfl, h⟩ := h
  show am_E d m_L_read 7 _ _ _ [am_i x7, am_i 0, am_r a3] K1 N2 I3 P4 z5 Q am_nx
  refine e_i2l dL_read_7 ?_
  obtain ⟨hK8, h⟩ := h
  obtain ⟨⟨h0, h1⟩, h⟩ := h
  refine e_last dL_read_8 hK8 h0 h1 ?_
  replace h := h _ rfl
  generalize am_u2 I3 a3 (Int.toNat 0) x7 = I9 at h ⊢
  refine e_goto (tgt := 15) dL_read_9 (by decide) ?_
  refine e_iconst dL_read_15 ?_
  exact e_ret_i dL_read_16 rfl (Nat.le_of_ble_eq_true rfl) (Nat.le_of_ble_eq_true rfl) h
set_option maxRecDepth 100000 in
theorem hn_L_move_4 : ∀ q ∈ ([(1, 1), (2, 2)] : List (Nat × Int)), am_han m_L_move 4 q.1 q.2 := List.forall_mem_cons.mpr ⟨⟨[], ⟨0, 9, 12, 15⟩, [⟨0, 9, 15, 17⟩], 12, 1, 3, rfl, (fun _ h => absurd h List.not_mem_nil), by decide, by decide, hk_15, by decide, rfl, by decide, Or.inr ⟨3, rfl, dL_move_12, rfl⟩, dL_move_13, dL_move_14, rfl, by decide, by decide⟩, List.forall_mem_cons.mpr ⟨⟨[⟨0, 9, 12, 15⟩], ⟨0, 9, 15, 17⟩, [], 15, 1, 3, rfl, List.forall_mem_cons.mpr ⟨Or.inr ⟨by decide, _, hk_15, by decide⟩, (fun _ h => absurd h List.not_mem_nil)⟩, by decide, by decide, hk_17, by decide, rfl, by decide, Or.inr ⟨3, rfl, dL_move_15, rfl⟩, dL_move_16, dL_move_17, rfl, by decide, by decide⟩, (fun _ h => absurd h List.not_mem_nil)⟩⟩
set_option maxRecDepth 100000 in
set_option maxHeartbeats 4000000 in
theorem wf_L_move {d : Nat} (hd : 1 ≤ d) {a1 : Nat} {a2 : Int} {a3 : Nat} {K N : Nat → Nat} {I : Nat → Nat → Int} {P : Nat → Nat → Option Nat} {z : Nat} {Q : am_V → am_T} (h :
  K a1 = 7 ∧ am_C (d - 1) m_X7_move [am_r a1, am_i a2] K N I P z (fun v K1 N2 I3 P4 z5 => am_iv v fun x7 =>
    K1 a3 = 14 ∧ (0 ≤ (0 : Int) ∧ (0 : Int) < N2 a3) ∧ ∀ I9, I9 = am_u2 I3 a3 (Int.toNat 0) x7 → Q (am_i 0) K1 N2 I9 P4 z5) (fun ee K N I P z => am_hq ee [(1, 1), (2, 2)] (fun r => Q (am_i r) K N I P z))) :
  am_C d m_L_move [am_r a1, am_i a2, am_r a3] K N I P z Q am_nx := by
  refine am_C_of ok_L_move (fun v hv => am_v1all _ rfl v hv) (Nat.le_of_ble_eq_true rfl) ?_
  show am_E d m_L_move 0 0 0 [some (am_r a1), some (am_i a2), some (am_r a3), none] [] K N I P z Q am_nx
  refine e_aload_n dL_move_0 rfl trivial ?_
  refine e_iconst dL_move_1 ?_
  refine e_aload_n dL_move_2 rfl trivial ?_
  refine e_iload_n dL_move_3 rfl ?_
  obtain ⟨hK6, h⟩ := h
  refine e_callV (Mc := m_X7_move) (vs := [am_i a2]) (st := [am_i 0, am_r a3]) dL_move_4 ok_X7_move rfl ⟨by decide, rfl⟩ mk_L_39 im_X7_move sl_X7_move rfl rfl hK6 (by omega) (Nat.le_of_ble_eq_true rfl) (Nat.le_of_ble_eq_true rfl) (Nat.le_of_ble_eq_true rfl) (am_xh_hq hn_L_move_4 (by decide) (by decide)) (am_C_mono h (fun v K1 N2 I3 P4 z5 h => ?_) (fun _ _ _ _ _ _ h => h))
  replace h := am_iv_or h
  obtain ⟨x7, rfl, h⟩ := h
  show am_E d m_L_move 7 _ _ _ [am_i x7, am_i 0, am_r a3] K1 N2 I3 P4 z5 Q am_nx
  refine e_i2l dL_move_7 ?_
  obtain ⟨hK8, h⟩ := h
  obtain ⟨⟨h0, h1⟩, h⟩ := h
  refine e_last dL_move_8 hK8 h0 h1 ?_
  replace h := h _ rfl
  generalize am_u2 I3 a3 (Int.toNat 0) x7 = I9 at h ⊢
  refine e_goto (tgt := 18) dL_move_9 (by decide) ?_
  refine e_iconst dL_move_18 ?_
  exact e_ret_i dL_move_19 rfl (Nat.le_of_ble_eq_true rfl) (Nat.le_of_ble_eq_true rfl) h
set_option maxRecDepth 100000 in
theorem hn_L_takeOff_4 : ∀ q ∈ ([(0, 1), (2, 2)] : List (Nat × Int)), am_han m_L_takeOff 4 q.1 q.2 := List.forall_mem_cons.mpr ⟨⟨[], ⟨0, 9, 12, 13⟩, [⟨0, 9, 15, 17⟩], 12, 1, 3, rfl, (fun _ h => absurd h List.not_mem_nil), by decide, by decide, hk_13, by decide, rfl, by decide, Or.inr ⟨3, rfl, dL_takeOff_12, rfl⟩, dL_takeOff_13, dL_takeOff_14, rfl, by decide, by decide⟩, List.forall_mem_cons.mpr ⟨⟨[⟨0, 9, 12, 13⟩], ⟨0, 9, 15, 17⟩, [], 15, 1, 3, rfl, List.forall_mem_cons.mpr ⟨Or.inr ⟨by decide, _, hk_13, by decide⟩, (fun _ h => absurd h List.not_mem_nil)⟩, by decide, by decide, hk_17, by decide, rfl, by decide, Or.inr ⟨3, rfl, dL_takeOff_15, rfl⟩, dL_takeOff_16, dL_takeOff_17, rfl, by decide, by decide⟩, (fun _ h => absurd h List.not_mem_nil)⟩⟩
set_option maxRecDepth 100000 in
set_option maxHeartbeats 4000000 in
theorem wf_L_takeOff {d : Nat} (hd : 1 ≤ d) {a1 : Nat} {a2 : Int} {a3 : Nat} {K N : Nat → Nat} {I : Nat → Nat → Int} {P : Nat → Nat → Option Nat} {z : Nat} {Q : am_V → am_T} (h :
  K a1 = 7 ∧ am_C (d - 1) m_X7_takeOff [am_r a1, am_i a2] K N I P z (fun v K1 N2 I3 P4 z5 => am_iv v fun x7 =>
    K1 a3 = 14 ∧ (0 ≤ (0 : Int) ∧ (0 : Int) < N2 a3) ∧ ∀ I9, I9 = am_u2 I3 a3 (Int.toNat 0) x7 → Q (am_i 0) K1 N2 I9 P4 z5) (fun ee K N I P z => am_hq ee [(0, 1), (2, 2)] (fun r => Q (am_i r) K N I P z))) :
  am_C d m_L_takeOff [am_r a1, am_i a2, am_r a3] K N I P z Q am_nx := by
  refine am_C_of ok_L_takeOff (fun v hv => am_v1all _ rfl v hv) (Nat.le_of_ble_eq_true rfl) ?_
  show am_E d m_L_takeOff 0 0 0 [some (am_r a1), some (am_i a2), some (am_r a3), none] [] K N I P z Q am_nx
  refine e_aload_n dL_takeOff_0 rfl trivial ?_
  refine e_iconst dL_takeOff_1 ?_
  refine e_aload_n dL_takeOff_2 rfl trivial ?_
  refine e_iload_n dL_takeOff_3 rfl ?_
  obtain ⟨hK6, h⟩ := h
  refine e_callV (Mc := m_X7_takeOff) (vs := [am_i a2]) (st := [am_i 0, am_r a3]) dL_takeOff_4 ok_X7_takeOff rfl ⟨by decide, rfl⟩ mk_L_42 im_X7_takeOff sl_X7_takeOff rfl rfl hK6 (by omega) (Nat.le_of_ble_eq_true rfl) (Nat.le_of_ble_eq_true rfl) (Nat.le_of_ble_eq_true rfl) (am_xh_hq hn_L_takeOff_4 (by decide) (by decide)) (am_C_mono h (fun v K1 N2 I3 P4 z5 h => ?_) (fun _ _ _ _ _ _ h => h))
  replace h := am_iv_or h
  obtain ⟨x7, rfl, h⟩ := h
  show am_E d m_L_takeOff 7 _ _ _ [am_i x7, am_i 0, am_r a3] K1 N2 I3 P4 z5 Q am_nx
  refine e_i2l dL_takeOff_7 ?_
  obtain ⟨hK8, h⟩ := h
  obtain ⟨⟨h0, h1⟩, h⟩ := h
  refine e_last dL_takeOff_8 hK8 h0 h1 ?_
  replace h := h _ rfl
  generalize am_u2 I3 a3 (Int.toNat 0) x7 = I9 at h ⊢
  refine e_goto (tgt := 18) dL_takeOff_9 (by decide) ?_
  refine e_iconst dL_takeOff_18 ?_
  exact e_ret_i dL_takeOff_19 rfl (Nat.le_of_ble_eq_true rfl) (Nat.le_of_ble_eq_true rfl) h
set_option maxRecDepth 100000 in
theorem hn_L_undo_3 : ∀ q ∈ ([(2, 1)] : List (Nat × Int)), am_han m_L_undo 3 q.1 q.2 := List.forall_mem_cons.mpr ⟨⟨[], ⟨0, 8, 11, 17⟩, [], 11, 1, 2, rfl, (fun _ h => absurd h List.not_mem_nil), by decide, by decide, hk_17, by decide, rfl, by decide, Or.inr ⟨2, rfl, dL_undo_11, rfl⟩, dL_undo_12, dL_undo_13, rfl, by decide, by decide⟩, (fun _ h => absurd h List.not_mem_nil)⟩
set_option maxRecDepth 100000 in
set_option maxHeartbeats 4000000 in
theorem wf_L_undo {d : Nat} (hd : 1 ≤ d) {a1 : Nat} {a2 : Nat} {K N : Nat → Nat} {I : Nat → Nat → Int} {P : Nat → Nat → Option Nat} {z : Nat} {Q : am_V → am_T} (h :
  K a1 = 7 ∧ am_C (d - 1) m_X7_undo [am_r a1] K N I P z (fun v K1 N2 I3 P4 z5 => am_iv v fun x7 =>
    K1 a2 = 14 ∧ (0 ≤ (0 : Int) ∧ (0 : Int) < N2 a2) ∧ ∀ I9, I9 = am_u2 I3 a2 (Int.toNat 0) x7 → Q (am_i 0) K1 N2 I9 P4 z5) (fun ee K N I P z => am_hq ee [(2, 1)] (fun r => Q (am_i r) K N I P z))) :
  am_C d m_L_undo [am_r a1, am_r a2] K N I P z Q am_nx := by
  refine am_C_of ok_L_undo (fun v hv => am_v1all _ rfl v hv) (Nat.le_of_ble_eq_true rfl) ?_
  show am_E d m_L_undo 0 0 0 [some (am_r a1), some (am_r a2), none] [] K N I P z Q am_nx
  refine e_aload_n dL_undo_0 rfl trivial ?_
  refine e_iconst dL_undo_1 ?_
  refine e_aload_n dL_undo_2 rfl trivial ?_
  obtain ⟨hK6, h⟩ := h
  refine e_callV (Mc := m_X7_undo) (vs := []) (st := [am_i 0, am_r a2]) dL_undo_3 ok_X7_undo rfl ⟨by decide, rfl⟩ mk_L_45 im_X7_undo sl_X7_undo rfl rfl hK6 (by omega) (Nat.le_of_ble_eq_true rfl) (Nat.le_of_ble_eq_true rfl) (Nat.le_of_ble_eq_true rfl) (am_xh_hq hn_L_undo_3 (by decide) (by decide)) (am_C_mono h (fun v K1 N2 I3 P4 z5 h => ?_) (fun _ _ _ _ _ _ h => h))
  replace h := am_iv_or h
  obtain ⟨x7, rfl, h⟩ := h
  show am_E d m_L_undo 6 _ _ _ [am_i x7, am_i 0, am_r a2] K1 N2 I3 P4 z5 Q am_nx
  refine e_i2l dL_undo_6 ?_
  obtain ⟨hK8, h⟩ := h
  obtain ⟨⟨h0, h1⟩, h⟩ := h
  refine e_last dL_undo_7 hK8 h0 h1 ?_
  replace h := h _ rfl
  generalize am_u2 I3 a2 (Int.toNat 0) x7 = I9 at h ⊢
  refine e_goto (tgt := 14) dL_undo_8 (by decide) ?_
  refine e_iconst dL_undo_14 ?_
  exact e_ret_i dL_undo_15 rfl (Nat.le_of_ble_eq_true rfl) (Nat.le_of_ble_eq_true rfl) h
set_option maxRecDepth 100000 in
theorem hn_L_part_5 : ∀ q ∈ ([(0, 1), (1, 2)] : List (Nat × Int)), am_han m_L_part 5 q.1 q.2 := List.forall_mem_cons.mpr ⟨⟨[], ⟨0, 10, 13, 13⟩, [⟨0, 10, 17, 15⟩], 13, 2, 4, rfl, (fun _ h => absurd h List.not_mem_nil), by decide, by decide, hk_13, by decide, rfl, by decide, Or.inl ⟨dL_part_13, rfl⟩, dL_part_15, dL_part_16, rfl, by decide, by decide⟩, List.forall_mem_cons.mpr ⟨⟨[⟨0, 10, 13, 13⟩], ⟨0, 10, 17, 15⟩, [], 17, 2, 4, rfl, List.forall_mem_cons.mpr ⟨Or.inr ⟨by decide, _, hk_13, by decide⟩, (fun _ h => absurd h List.not_mem_nil)⟩, by decide, by decide, hk_15, by decide, rfl, by decide, Or.inl ⟨dL_part_17, rfl⟩, dL_part_19, dL_part_20, rfl, by decide, by decide⟩, (fun _ h => absurd h List.not_mem_nil)⟩⟩
set_option maxRecDepth 100000 in
set_option maxHeartbeats 4000000 in
theorem wf_L_part {d : Nat} (hd : 1 ≤ d) {a1 : Nat} {a2 : Int} {a3 : Int} {a4 : Nat} {K N : Nat → Nat} {I : Nat → Nat → Int} {P : Nat → Nat → Option Nat} {z : Nat} {Q : am_V → am_T} (h :
  K a1 = 7 ∧ am_C (d - 1) m_X7_part [am_r a1, am_i a2, am_i a3] K N I P z (fun v K1 N2 I3 P4 z5 => am_iv v fun x7 =>
    K1 a4 = 14 ∧ (0 ≤ (0 : Int) ∧ (0 : Int) < N2 a4) ∧ ∀ I9, I9 = am_u2 I3 a4 (Int.toNat 0) x7 → Q (am_i 0) K1 N2 I9 P4 z5) (fun ee K N I P z => am_hq ee [(0, 1), (1, 2)] (fun r => Q (am_i r) K N I P z))) :
  am_C d m_L_part [am_r a1, am_i a2, am_i a3, am_r a4] K N I P z Q am_nx := by
  refine am_C_of ok_L_part (fun v hv => am_v1all _ rfl v hv) (Nat.le_of_ble_eq_true rfl) ?_
  show am_E d m_L_part 0 0 0 [some (am_r a1), some (am_i a2), some (am_i a3), some (am_r a4), none] [] K N I P z Q am_nx
  refine e_aload_n dL_part_0 rfl trivial ?_
  refine e_iconst dL_part_1 ?_
  refine e_aload_n dL_part_2 rfl trivial ?_
  refine e_iload_n dL_part_3 rfl ?_
  refine e_iload_n dL_part_4 rfl ?_
  obtain ⟨hK6, h⟩ := h
  refine e_callV (Mc := m_X7_part) (vs := [am_i a2, am_i a3]) (st := [am_i 0, am_r a4]) dL_part_5 ok_X7_part rfl ⟨by decide, rfl⟩ mk_L_49 im_X7_part sl_X7_part rfl rfl hK6 (by omega) (Nat.le_of_ble_eq_true rfl) (Nat.le_of_ble_eq_true rfl) (Nat.le_of_ble_eq_true rfl) (am_xh_hq hn_L_part_5 (by decide) (by decide)) (am_C_mono h (fun v K1 N2 I3 P4 z5 h => ?_) (fun _ _ _ _ _ _ h => h))
  replace h := am_iv_or h
  obtain ⟨x7, rfl, h⟩ := h
  show am_E d m_L_part 8 _ _ _ [am_i x7, am_i 0, am_r a4] K1 N2 I3 P4 z5 Q am_nx
  refine e_i2l dL_part_8 ?_
  obtain ⟨hK8, h⟩ := h
  obtain ⟨⟨h0, h1⟩, h⟩ := h
  refine e_last dL_part_9 hK8 h0 h1 ?_
  replace h := h _ rfl
  generalize am_u2 I3 a4 (Int.toNat 0) x7 = I9 at h ⊢
  refine e_goto (tgt := 21) dL_part_10 (by decide) ?_
  refine e_iconst dL_part_21 ?_
  exact e_ret_i dL_part_22 rfl (Nat.le_of_ble_eq_true rfl) (Nat.le_of_ble_eq_true rfl) h
set_option maxRecDepth 100000 in
theorem hn_L_lane_5 : ∀ q ∈ ([(0, 1), (1, 2)] : List (Nat × Int)), am_han m_L_lane 5 q.1 q.2 := List.forall_mem_cons.mpr ⟨⟨[], ⟨0, 10, 13, 13⟩, [⟨0, 10, 17, 15⟩], 13, 2, 4, rfl, (fun _ h => absurd h List.not_mem_nil), by decide, by decide, hk_13, by decide, rfl, by decide, Or.inl ⟨dL_lane_13, rfl⟩, dL_lane_15, dL_lane_16, rfl, by decide, by decide⟩, List.forall_mem_cons.mpr ⟨⟨[⟨0, 10, 13, 13⟩], ⟨0, 10, 17, 15⟩, [], 17, 2, 4, rfl, List.forall_mem_cons.mpr ⟨Or.inr ⟨by decide, _, hk_13, by decide⟩, (fun _ h => absurd h List.not_mem_nil)⟩, by decide, by decide, hk_15, by decide, rfl, by decide, Or.inl ⟨dL_lane_17, rfl⟩, dL_lane_19, dL_lane_20, rfl, by decide, by decide⟩, (fun _ h => absurd h List.not_mem_nil)⟩⟩
set_option maxRecDepth 100000 in
set_option maxHeartbeats 4000000 in
theorem wf_L_lane {d : Nat} (hd : 1 ≤ d) {a1 : Nat} {a2 : Int} {a3 : Int} {a4 : Nat} {K N : Nat → Nat} {I : Nat → Nat → Int} {P : Nat → Nat → Option Nat} {z : Nat} {Q : am_V → am_T} (h :
  K a1 = 7 ∧ am_C (d - 1) m_X7_lane [am_r a1, am_i a2, am_i a3] K N I P z (fun v K1 N2 I3 P4 z5 => am_iv v fun x7 =>
    K1 a4 = 14 ∧ (0 ≤ (0 : Int) ∧ (0 : Int) < N2 a4) ∧ ∀ I9, I9 = am_u2 I3 a4 (Int.toNat 0) x7 → Q (am_i 0) K1 N2 I9 P4 z5) (fun ee K N I P z => am_hq ee [(0, 1), (1, 2)] (fun r => Q (am_i r) K N I P z))) :
  am_C d m_L_lane [am_r a1, am_i a2, am_i a3, am_r a4] K N I P z Q am_nx := by
  refine am_C_of ok_L_lane (fun v hv => am_v1all _ rfl v hv) (Nat.le_of_ble_eq_true rfl) ?_
  show am_E d m_L_lane 0 0 0 [some (am_r a1), some (am_i a2), some (am_i a3), some (am_r a4), none] [] K N I P z Q am_nx
  refine e_aload_n dL_lane_0 rfl trivial ?_
  refine e_iconst dL_lane_1 ?_
  refine e_aload_n dL_lane_2 rfl trivial ?_
  refine e_iload_n dL_lane_3 rfl ?_
  refine e_iload_n dL_lane_4 rfl ?_
  obtain ⟨hK6, h⟩ := h
  refine e_callV (Mc := m_X7_lane) (vs := [am_i a2, am_i a3]) (st := [am_i 0, am_r a4]) dL_lane_5 ok_X7_lane rfl ⟨by decide, rfl⟩ mk_L_52 im_X7_lane sl_X7_lane rfl rfl hK6 (by omega) (Nat.le_of_ble_eq_true rfl) (Nat.le_of_ble_eq_true rfl) (Nat.le_of_ble_eq_true rfl) (am_xh_hq hn_L_lane_5 (by decide) (by decide)) (am_C_mono h (fun v K1 N2 I3 P4 z5 h => ?_) (fun _ _ _ _ _ _ h => h))
  replace h := am_iv_or h
  obtain ⟨x7, rfl, h⟩ := h
  show am_E d m_L_lane 8 _ _ _ [am_i x7, am_i 0, am_r a4] K1 N2 I3 P4 z5 Q am_nx
  refine e_i2l dL_lane_8 ?_
  obtain ⟨hK8, h⟩ := h
  obtain ⟨⟨h0, h1⟩, h⟩ := h
  refine e_last dL_lane_9 hK8 h0 h1 ?_
  replace h := h _ rfl
  generalize am_u2 I3 a4 (Int.toNat 0) x7 = I9 at h ⊢
  refine e_goto (tgt := 21) dL_lane_10 (by decide) ?_
  refine e_iconst dL_lane_21 ?_
  exact e_ret_i dL_lane_22 rfl (Nat.le_of_ble_eq_true rfl) (Nat.le_of_ble_eq_true rfl) h
set_option maxRecDepth 100000 in
theorem hn_L_total_4 : ∀ q ∈ ([(1, 1)] : List (Nat × Int)), am_han m_L_total 4 q.1 q.2 := List.forall_mem_cons.mpr ⟨⟨[], ⟨0, 9, 12, 15⟩, [], 12, 1, 3, rfl, (fun _ h => absurd h List.not_mem_nil), by decide, by decide, hk_15, by decide, rfl, by decide, Or.inr ⟨3, rfl, dL_total_12, rfl⟩, dL_total_13, dL_total_14, rfl, by decide, by decide⟩, (fun _ h => absurd h List.not_mem_nil)⟩
set_option maxRecDepth 100000 in
set_option maxHeartbeats 4000000 in
theorem wf_L_total {d : Nat} (hd : 1 ≤ d) {a1 : Nat} {a2 : Int} {a3 : Nat} {K N : Nat → Nat} {I : Nat → Nat → Int} {P : Nat → Nat → Option Nat} {z : Nat} {Q : am_V → am_T} (h :
  K a1 = 7 ∧ am_C (d - 1) m_X7_total [am_r a1, am_i a2] K N I P z (fun v K1 N2 I3 P4 z5 => am_iv v fun x7 =>
    K1 a3 = 14 ∧ (0 ≤ (0 : Int) ∧ (0 : Int) < N2 a3) ∧ ∀ I9, I9 = am_u2 I3 a3 (Int.toNat 0) x7 → Q (am_i 0) K1 N2 I9 P4 z5) (fun ee K N I P z => am_hq ee [(1, 1)] (fun r => Q (am_i r) K N I P z))) :
  am_C d m_L_total [am_r a1, am_i a2, am_r a3] K N I P z Q am_nx := by
  refine am_C_of ok_L_total (fun v hv => am_v1all _ rfl v hv) (Nat.le_of_ble_eq_true rfl) ?_
  show am_E d m_L_total 0 0 0 [some (am_r a1), some (am_i a2), some (am_r a3), none] [] K N I P z Q am_nx
  refine e_aload_n dL_total_0 rfl trivial ?_
  refine e_iconst dL_total_1 ?_
  refine e_aload_n dL_total_2 rfl trivial ?_
  refine e_iload_n dL_total_3 rfl ?_
  obtain ⟨hK6, h⟩ := h
  refine e_callV (Mc := m_X7_total) (vs := [am_i a2]) (st := [am_i 0, am_r a3]) dL_total_4 ok_X7_total rfl ⟨by decide, rfl⟩ mk_L_55 im_X7_total sl_X7_total rfl rfl hK6 (by omega) (Nat.le_of_ble_eq_true rfl) (Nat.le_of_ble_eq_true rfl) (Nat.le_of_ble_eq_true rfl) (am_xh_hq hn_L_total_4 (by decide) (by decide)) (am_C_mono h (fun v K1 N2 I3 P4 z5 h => ?_) (fun _ _ _ _ _ _ h => h))
  replace h := am_iv_or h
  obtain ⟨x7, rfl, h⟩ := h
  show am_E d m_L_total 7 _ _ _ [am_i x7, am_i 0, am_r a3] K1 N2 I3 P4 z5 Q am_nx
  refine e_i2l dL_total_7 ?_
  obtain ⟨hK8, h⟩ := h
  obtain ⟨⟨h0, h1⟩, h⟩ := h
  refine e_last dL_total_8 hK8 h0 h1 ?_
  replace h := h _ rfl
  generalize am_u2 I3 a3 (Int.toNat 0) x7 = I9 at h ⊢
  refine e_goto (tgt := 15) dL_total_9 (by decide) ?_
  refine e_iconst dL_total_15 ?_
  exact e_ret_i dL_total_16 rfl (Nat.le_of_ble_eq_true rfl) (Nat.le_of_ble_eq_true rfl) h
set_option maxRecDepth 100000 in
theorem hn_L_lost_4 : ∀ q ∈ ([(1, 1)] : List (Nat × Int)), am_han m_L_lost 4 q.1 q.2 := List.forall_mem_cons.mpr ⟨⟨[], ⟨0, 9, 12, 15⟩, [], 12, 1, 3, rfl, (fun _ h => absurd h List.not_mem_nil), by decide, by decide, hk_15, by decide, rfl, by decide, Or.inr ⟨3, rfl, dL_lost_12, rfl⟩, dL_lost_13, dL_lost_14, rfl, by decide, by decide⟩, (fun _ h => absurd h List.not_mem_nil)⟩
set_option maxRecDepth 100000 in
set_option maxHeartbeats 4000000 in
theorem wf_L_lost {d : Nat} (hd : 1 ≤ d) {a1 : Nat} {a2 : Int} {a3 : Nat} {K N : Nat → Nat} {I : Nat → Nat → Int} {P : Nat → Nat → Option Nat} {z : Nat} {Q : am_V → am_T} (h :
  K a1 = 7 ∧ am_C (d - 1) m_X7_lost [am_r a1, am_i a2] K N I P z (fun v K1 N2 I3 P4 z5 => am_iv v fun x7 =>
    K1 a3 = 14 ∧ (0 ≤ (0 : Int) ∧ (0 : Int) < N2 a3) ∧ ∀ I9, I9 = am_u2 I3 a3 (Int.toNat 0) x7 → Q (am_i 0) K1 N2 I9 P4 z5) (fun ee K N I P z => am_hq ee [(1, 1)] (fun r => Q (am_i r) K N I P z))) :
  am_C d m_L_lost [am_r a1, am_i a2, am_r a3] K N I P z Q am_nx := by
  refine am_C_of ok_L_lost (fun v hv => am_v1all _ rfl v hv) (Nat.le_of_ble_eq_true rfl) ?_
  show am_E d m_L_lost 0 0 0 [some (am_r a1), some (am_i a2), some (am_r a3), none] [] K N I P z Q am_nx
  refine e_aload_n dL_lost_0 rfl trivial ?_
  refine e_iconst dL_lost_1 ?_
  refine e_aload_n dL_lost_2 rfl trivial ?_
  refine e_iload_n dL_lost_3 rfl ?_
  obtain ⟨hK6, h⟩ := h
  refine e_callV (Mc := m_X7_lost) (vs := [am_i a2]) (st := [am_i 0, am_r a3]) dL_lost_4 ok_X7_lost rfl ⟨by decide, rfl⟩ mk_L_58 im_X7_lost sl_X7_lost rfl rfl hK6 (by omega) (Nat.le_of_ble_eq_true rfl) (Nat.le_of_ble_eq_true rfl) (Nat.le_of_ble_eq_true rfl) (am_xh_hq hn_L_lost_4 (by decide) (by decide)) (am_C_mono h (fun v K1 N2 I3 P4 z5 h => ?_) (fun _ _ _ _ _ _ h => h))
  replace h := am_iv_or h
  obtain ⟨x7, rfl, h⟩ := h
  show am_E d m_L_lost 7 _ _ _ [am_i x7, am_i 0, am_r a3] K1 N2 I3 P4 z5 Q am_nx
  refine e_i2l dL_lost_7 ?_
  obtain ⟨hK8, h⟩ := h
  obtain ⟨⟨h0, h1⟩, h⟩ := h
  refine e_last dL_lost_8 hK8 h0 h1 ?_
  replace h := h _ rfl
  generalize am_u2 I3 a3 (Int.toNat 0) x7 = I9 at h ⊢
  refine e_goto (tgt := 15) dL_lost_9 (by decide) ?_
  refine e_iconst dL_lost_15 ?_
  exact e_ret_i dL_lost_16 rfl (Nat.le_of_ble_eq_true rfl) (Nat.le_of_ble_eq_true rfl) h
set_option maxRecDepth 100000 in
theorem hn_L_setting_4 : ∀ q ∈ ([(0, 1)] : List (Nat × Int)), am_han m_L_setting 4 q.1 q.2 := List.forall_mem_cons.mpr ⟨⟨[], ⟨0, 9, 12, 13⟩, [], 12, 1, 3, rfl, (fun _ h => absurd h List.not_mem_nil), by decide, by decide, hk_13, by decide, rfl, by decide, Or.inr ⟨3, rfl, dL_setting_12, rfl⟩, dL_setting_13, dL_setting_14, rfl, by decide, by decide⟩, (fun _ h => absurd h List.not_mem_nil)⟩
set_option maxRecDepth 100000 in
set_option maxHeartbeats 4000000 in
theorem wf_L_setting {d : Nat} (hd : 1 ≤ d) {a1 : Nat} {a2 : Int} {a3 : Nat} {K N : Nat → Nat} {I : Nat → Nat → Int} {P : Nat → Nat → Option Nat} {z : Nat} {Q : am_V → am_T} (h :
  K a1 = 7 ∧ am_C (d - 1) m_X7_setting [am_r a1, am_i a2] K N I P z (fun v K1 N2 I3 P4 z5 => am_iv v fun x7 =>
    K1 a3 = 14 ∧ (0 ≤ (0 : Int) ∧ (0 : Int) < N2 a3) ∧ ∀ I9, I9 = am_u2 I3 a3 (Int.toNat 0) x7 → Q (am_i 0) K1 N2 I9 P4 z5) (fun ee K N I P z => am_hq ee [(0, 1)] (fun r => Q (am_i r) K N I P z))) :
  am_C d m_L_setting [am_r a1, am_i a2, am_r a3] K N I P z Q am_nx := by
  refine am_C_of ok_L_setting (fun v hv => am_v1all _ rfl v hv) (Nat.le_of_ble_eq_true rfl) ?_
  show am_E d m_L_setting 0 0 0 [some (am_r a1), some (am_i a2), some (am_r a3), none] [] K N I P z Q am_nx
  refine e_aload_n dL_setting_0 rfl trivial ?_
  refine e_iconst dL_setting_1 ?_
  refine e_aload_n dL_setting_2 rfl trivial ?_
  refine e_iload_n dL_setting_3 rfl ?_
  obtain ⟨hK6, h⟩ := h
  refine e_callV (Mc := m_X7_setting) (vs := [am_i a2]) (st := [am_i 0, am_r a3]) dL_setting_4 ok_X7_setting rfl ⟨by decide, rfl⟩ mk_L_61 im_X7_setting sl_X7_setting rfl rfl hK6 (by omega) (Nat.le_of_ble_eq_true rfl) (Nat.le_of_ble_eq_true rfl) (Nat.le_of_ble_eq_true rfl) (am_xh_hq hn_L_setting_4 (by decide) (by decide)) (am_C_mono h (fun v K1 N2 I3 P4 z5 h => ?_) (fun _ _ _ _ _ _ h => h))
  replace h := am_iv_or h
  obtain ⟨x7, rfl, h⟩ := h
  show am_E d m_L_setting 7 _ _ _ [am_i x7, am_i 0, am_r a3] K1 N2 I3 P4 z5 Q am_nx
  refine e_i2l dL_setting_7 ?_
  obtain ⟨hK8, h⟩ := h
  obtain ⟨⟨h0, h1⟩, h⟩ := h
  refine e_last dL_setting_8 hK8 h0 h1 ?_
  replace h := h _ rfl
  generalize am_u2 I3 a3 (Int.toNat 0) x7 = I9 at h ⊢
  refine e_goto (tgt := 15) dL_setting_9 (by decide) ?_
  refine e_iconst dL_setting_15 ?_
  exact e_ret_i dL_setting_16 rfl (Nat.le_of_ble_eq_true rfl) (Nat.le_of_ble_eq_true rfl) h
set_option maxRecDepth 100000 in
theorem hn_L_routeAt_4 : ∀ q ∈ ([(1, 1)] : List (Nat × Int)), am_han m_L_routeAt 4 q.1 q.2 := List.forall_mem_cons.mpr ⟨⟨[], ⟨0, 9, 12, 15⟩, [], 12, 1, 3, rfl, (fun _ h => absurd h List.not_mem_nil), by decide, by decide, hk_15, by decide, rfl, by decide, Or.inr ⟨3, rfl, dL_routeAt_12, rfl⟩, dL_routeAt_13, dL_routeAt_14, rfl, by decide, by decide⟩, (fun _ h => absurd h List.not_mem_nil)⟩
set_option maxRecDepth 100000 in
set_option maxHeartbeats 4000000 in
theorem wf_L_routeAt {d : Nat} (hd : 1 ≤ d) {a1 : Nat} {a2 : Int} {a3 : Nat} {K N : Nat → Nat} {I : Nat → Nat → Int} {P : Nat → Nat → Option Nat} {z : Nat} {Q : am_V → am_T} (h :
  K a1 = 7 ∧ am_C (d - 1) m_X7_routeAt [am_r a1, am_i a2] K N I P z (fun v K1 N2 I3 P4 z5 => am_iv v fun x7 =>
    K1 a3 = 14 ∧ (0 ≤ (0 : Int) ∧ (0 : Int) < N2 a3) ∧ ∀ I9, I9 = am_u2 I3 a3 (Int.toNat 0) x7 → Q (am_i 0) K1 N2 I9 P4 z5) (fun ee K N I P z => am_hq ee [(1, 1)] (fun r => Q (am_i r) K N I P z))) :
  am_C d m_L_routeAt [am_r a1, am_i a2, am_r a3] K N I P z Q am_nx := by
  refine am_C_of ok_L_routeAt (fun v hv => am_v1all _ rfl v hv) (Nat.le_of_ble_eq_true rfl) ?_
  show am_E d m_L_routeAt 0 0 0 [some (am_r a1), some (am_i a2), some (am_r a3), none] [] K N I P z Q am_nx
  refine e_aload_n dL_routeAt_0 rfl trivial ?_
  refine e_iconst dL_routeAt_1 ?_
  refine e_aload_n dL_routeAt_2 rfl trivial ?_
  refine e_iload_n dL_routeAt_3 rfl ?_
  obtain ⟨hK6, h⟩ := h
  refine e_callV (Mc := m_X7_routeAt) (vs := [am_i a2]) (st := [am_i 0, am_r a3]) dL_routeAt_4 ok_X7_routeAt rfl ⟨by decide, rfl⟩ mk_L_64 im_X7_routeAt sl_X7_routeAt rfl rfl hK6 (by omega) (Nat.le_of_ble_eq_true rfl) (Nat.le_of_ble_eq_true rfl) (Nat.le_of_ble_eq_true rfl) (am_xh_hq hn_L_routeAt_4 (by decide) (by decide)) (am_C_mono h (fun v K1 N2 I3 P4 z5 h => ?_) (fun _ _ _ _ _ _ h => h))
  replace h := am_iv_or h
  obtain ⟨x7, rfl, h⟩ := h
  show am_E d m_L_routeAt 7 _ _ _ [am_i x7, am_i 0, am_r a3] K1 N2 I3 P4 z5 Q am_nx
  refine e_i2l dL_routeAt_7 ?_
  obtain ⟨hK8, h⟩ := h
  obtain ⟨⟨h0, h1⟩, h⟩ := h
  refine e_last dL_routeAt_8 hK8 h0 h1 ?_
  replace h := h _ rfl
  generalize am_u2 I3 a3 (Int.toNat 0) x7 = I9 at h ⊢
  refine e_goto (tgt := 15) dL_routeAt_9 (by decide) ?_
  refine e_iconst dL_routeAt_15 ?_
  exact e_ret_i dL_routeAt_16 rfl (Nat.le_of_ble_eq_true rfl) (Nat.le_of_ble_eq_true rfl) h
set_option maxRecDepth 100000 in
theorem hn_L_gapAhead_4 : ∀ q ∈ ([(0, 1), (2, 2)] : List (Nat × Int)), am_han m_L_gapAhead 4 q.1 q.2 := List.forall_mem_cons.mpr ⟨⟨[], ⟨0, 9, 12, 13⟩, [⟨0, 9, 15, 17⟩], 12, 1, 3, rfl, (fun _ h => absurd h List.not_mem_nil), by decide, by decide, hk_13, by decide, rfl, by decide, Or.inr ⟨3, rfl, dL_gapAhead_12, rfl⟩, dL_gapAhead_13, dL_gapAhead_14, rfl, by decide, by decide⟩, List.forall_mem_cons.mpr ⟨⟨[⟨0, 9, 12, 13⟩], ⟨0, 9, 15, 17⟩, [], 15, 1, 3, rfl, List.forall_mem_cons.mpr ⟨Or.inr ⟨by decide, _, hk_13, by decide⟩, (fun _ h => absurd h List.not_mem_nil)⟩, by decide, by decide, hk_17, by decide, rfl, by decide, Or.inr ⟨3, rfl, dL_gapAhead_15, rfl⟩, dL_gapAhead_16, dL_gapAhead_17, rfl, by decide, by decide⟩, (fun _ h => absurd h List.not_mem_nil)⟩⟩
set_option maxRecDepth 100000 in
set_option maxHeartbeats 4000000 in
theorem wf_L_gapAhead {d : Nat} (hd : 1 ≤ d) {a1 : Nat} {a2 : Int} {a3 : Nat} {K N : Nat → Nat} {I : Nat → Nat → Int} {P : Nat → Nat → Option Nat} {z : Nat} {Q : am_V → am_T} (h :
  K a1 = 7 ∧ am_C (d - 1) m_X7_gapAhead [am_r a1, am_i a2] K N I P z (fun v K1 N2 I3 P4 z5 => am_iv v fun x7 =>
    K1 a3 = 14 ∧ (0 ≤ (0 : Int) ∧ (0 : Int) < N2 a3) ∧ ∀ I9, I9 = am_u2 I3 a3 (Int.toNat 0) x7 → Q (am_i 0) K1 N2 I9 P4 z5) (fun ee K N I P z => am_hq ee [(0, 1), (2, 2)] (fun r => Q (am_i r) K N I P z))) :
  am_C d m_L_gapAhead [am_r a1, am_i a2, am_r a3] K N I P z Q am_nx := by
  refine am_C_of ok_L_gapAhead (fun v hv => am_v1all _ rfl v hv) (Nat.le_of_ble_eq_true rfl) ?_
  show am_E d m_L_gapAhead 0 0 0 [some (am_r a1), some (am_i a2), some (am_r a3), none] [] K N I P z Q am_nx
  refine e_aload_n dL_gapAhead_0 rfl trivial ?_
  refine e_iconst dL_gapAhead_1 ?_
  refine e_aload_n dL_gapAhead_2 rfl trivial ?_
  refine e_iload_n dL_gapAhead_3 rfl ?_
  obtain ⟨hK6, h⟩ := h
  refine e_callV (Mc := m_X7_gapAhead) (vs := [am_i a2]) (st := [am_i 0, am_r a3]) dL_gapAhead_4 ok_X7_gapAhead rfl ⟨by decide, rfl⟩ mk_L_67 im_X7_gapAhead sl_X7_gapAhead rfl rfl hK6 (by omega) (Nat.le_of_ble_eq_true rfl) (Nat.le_of_ble_eq_true rfl) (Nat.le_of_ble_eq_true rfl) (am_xh_hq hn_L_gapAhead_4 (by decide) (by decide)) (am_C_mono h (fun v K1 N2 I3 P4 z5 h => ?_) (fun _ _ _ _ _ _ h => h))
  replace h := am_iv_or h
  obtain ⟨x7, rfl, h⟩ := h
  show am_E d m_L_gapAhead 7 _ _ _ [am_i x7, am_i 0, am_r a3] K1 N2 I3 P4 z5 Q am_nx
  refine e_i2l dL_gapAhead_7 ?_
  obtain ⟨hK8, h⟩ := h
  obtain ⟨⟨h0, h1⟩, h⟩ := h
  refine e_last dL_gapAhead_8 hK8 h0 h1 ?_
  replace h := h _ rfl
  generalize am_u2 I3 a3 (Int.toNat 0) x7 = I9 at h ⊢
  refine e_goto (tgt := 18) dL_gapAhead_9 (by decide) ?_
  refine e_iconst dL_gapAhead_18 ?_
  exact e_ret_i dL_gapAhead_19 rfl (Nat.le_of_ble_eq_true rfl) (Nat.le_of_ble_eq_true rfl) h
set_option maxRecDepth 100000 in
theorem hn_L_ranked_4 : ∀ q ∈ ([(1, 1)] : List (Nat × Int)), am_han m_L_ranked 4 q.1 q.2 := List.forall_mem_cons.mpr ⟨⟨[], ⟨0, 9, 12, 15⟩, [], 12, 1, 3, rfl, (fun _ h => absurd h List.not_mem_nil), by decide, by decide, hk_15, by decide, rfl, by decide, Or.inr ⟨3, rfl, dL_ranked_12, rfl⟩, dL_ranked_13, dL_ranked_14, rfl, by decide, by decide⟩, (fun _ h => absurd h List.not_mem_nil)⟩
set_option maxRecDepth 100000 in
set_option maxHeartbeats 4000000 in
theorem wf_L_ranked {d : Nat} (hd : 1 ≤ d) {a1 : Nat} {a2 : Int} {a3 : Nat} {K N : Nat → Nat} {I : Nat → Nat → Int} {P : Nat → Nat → Option Nat} {z : Nat} {Q : am_V → am_T} (h :
  K a1 = 7 ∧ am_C (d - 1) m_X7_ranked [am_r a1, am_i a2] K N I P z (fun v K1 N2 I3 P4 z5 => am_iv v fun x7 =>
    K1 a3 = 14 ∧ (0 ≤ (0 : Int) ∧ (0 : Int) < N2 a3) ∧ ∀ I9, I9 = am_u2 I3 a3 (Int.toNat 0) x7 → Q (am_i 0) K1 N2 I9 P4 z5) (fun ee K N I P z => am_hq ee [(1, 1)] (fun r => Q (am_i r) K N I P z))) :
  am_C d m_L_ranked [am_r a1, am_i a2, am_r a3] K N I P z Q am_nx := by
  refine am_C_of ok_L_ranked (fun v hv => am_v1all _ rfl v hv) (Nat.le_of_ble_eq_true rfl) ?_
  show am_E d m_L_ranked 0 0 0 [some (am_r a1), some (am_i a2), some (am_r a3), none] [] K N I P z Q am_nx
  refine e_aload_n dL_ranked_0 rfl trivial ?_
  refine e_iconst dL_ranked_1 ?_
  refine e_aload_n dL_ranked_2 rfl trivial ?_
  refine e_iload_n dL_ranked_3 rfl ?_
  obtain ⟨hK6, h⟩ := h
  refine e_callV (Mc := m_X7_ranked) (vs := [am_i a2]) (st := [am_i 0, am_r a3]) dL_ranked_4 ok_X7_ranked rfl ⟨by decide, rfl⟩ mk_L_70 im_X7_ranked sl_X7_ranked rfl rfl hK6 (by omega) (Nat.le_of_ble_eq_true rfl) (Nat.le_of_ble_eq_true rfl) (Nat.le_of_ble_eq_true rfl) (am_xh_hq hn_L_ranked_4 (by decide) (by decide)) (am_C_mono h (fun v K1 N2 I3 P4 z5 h => ?_) (fun _ _ _ _ _ _ h => h))
  replace h := am_iv_or h
  obtain ⟨x7, rfl, h⟩ := h
  show am_E d m_L_ranked 7 _ _ _ [am_i x7, am_i 0, am_r a3] K1 N2 I3 P4 z5 Q am_nx
  refine e_i2l dL_ranked_7 ?_
  obtain ⟨hK8, h⟩ := h
  obtain ⟨⟨h0, h1⟩, h⟩ := h
  refine e_last dL_ranked_8 hK8 h0 h1 ?_
  replace h := h _ rfl
  generalize am_u2 I3 a3 (Int.toNat 0) x7 = I9 at h ⊢
  refine e_goto (tgt := 15) dL_ranked_9 (by decide) ?_
  refine e_iconst dL_ranked_15 ?_
  exact e_ret_i dL_ranked_16 rfl (Nat.le_of_ble_eq_true rfl) (Nat.le_of_ble_eq_true rfl) h
set_option maxRecDepth 100000 in
theorem hn_L_fateOf_4 : ∀ q ∈ ([(0, 1)] : List (Nat × Int)), am_han m_L_fateOf 4 q.1 q.2 := List.forall_mem_cons.mpr ⟨⟨[], ⟨0, 9, 12, 13⟩, [], 12, 1, 3, rfl, (fun _ h => absurd h List.not_mem_nil), by decide, by decide, hk_13, by decide, rfl, by decide, Or.inr ⟨3, rfl, dL_fateOf_12, rfl⟩, dL_fateOf_13, dL_fateOf_14, rfl, by decide, by decide⟩, (fun _ h => absurd h List.not_mem_nil)⟩
set_option maxRecDepth 100000 in
set_option maxHeartbeats 4000000 in
theorem wf_L_fateOf {d : Nat} (hd : 1 ≤ d) {a1 : Nat} {a2 : Int} {a3 : Nat} {K N : Nat → Nat} {I : Nat → Nat → Int} {P : Nat → Nat → Option Nat} {z : Nat} {Q : am_V → am_T} (h :
  K a1 = 7 ∧ am_C (d - 1) m_X7_fateOf [am_r a1, am_i a2] K N I P z (fun v K1 N2 I3 P4 z5 => am_iv v fun x7 =>
    K1 a3 = 14 ∧ (0 ≤ (0 : Int) ∧ (0 : Int) < N2 a3) ∧ ∀ I9, I9 = am_u2 I3 a3 (Int.toNat 0) x7 → Q (am_i 0) K1 N2 I9 P4 z5) (fun ee K N I P z => am_hq ee [(0, 1)] (fun r => Q (am_i r) K N I P z))) :
  am_C d m_L_fateOf [am_r a1, am_i a2, am_r a3] K N I P z Q am_nx := by
  refine am_C_of ok_L_fateOf (fun v hv => am_v1all _ rfl v hv) (Nat.le_of_ble_eq_true rfl) ?_
  show am_E d m_L_fateOf 0 0 0 [some (am_r a1), some (am_i a2), some (am_r a3), none] [] K N I P z Q am_nx
  refine e_aload_n dL_fateOf_0 rfl trivial ?_
  refine e_iconst dL_fateOf_1 ?_
  refine e_aload_n dL_fateOf_2 rfl trivial ?_
  refine e_iload_n dL_fateOf_3 rfl ?_
  obtain ⟨hK6, h⟩ := h
  refine e_callV (Mc := m_X7_fateOf) (vs := [am_i a2]) (st := [am_i 0, am_r a3]) dL_fateOf_4 ok_X7_fateOf rfl ⟨by decide, rfl⟩ mk_L_73 im_X7_fateOf sl_X7_fateOf rfl rfl hK6 (by omega) (Nat.le_of_ble_eq_true rfl) (Nat.le_of_ble_eq_true rfl) (Nat.le_of_ble_eq_true rfl) (am_xh_hq hn_L_fateOf_4 (by decide) (by decide)) (am_C_mono h (fun v K1 N2 I3 P4 z5 h => ?_) (fun _ _ _ _ _ _ h => h))
  replace h := am_iv_or h
  obtain ⟨x7, rfl, h⟩ := h
  show am_E d m_L_fateOf 7 _ _ _ [am_i x7, am_i 0, am_r a3] K1 N2 I3 P4 z5 Q am_nx
  refine e_i2l dL_fateOf_7 ?_
  obtain ⟨hK8, h⟩ := h
  obtain ⟨⟨h0, h1⟩, h⟩ := h
  refine e_last dL_fateOf_8 hK8 h0 h1 ?_
  replace h := h _ rfl
  generalize am_u2 I3 a3 (Int.toNat 0) x7 = I9 at h ⊢
  refine e_goto (tgt := 15) dL_fateOf_9 (by decide) ?_
  refine e_iconst dL_fateOf_15 ?_
  exact e_ret_i dL_fateOf_16 rfl (Nat.le_of_ble_eq_true rfl) (Nat.le_of_ble_eq_true rfl) h
set_option maxRecDepth 100000 in
theorem hn_L_laneFor_5 : ∀ q ∈ ([(1, 1)] : List (Nat × Int)), am_han m_L_laneFor 5 q.1 q.2 := List.forall_mem_cons.mpr ⟨⟨[], ⟨0, 10, 13, 15⟩, [], 13, 2, 4, rfl, (fun _ h => absurd h List.not_mem_nil), by decide, by decide, hk_15, by decide, rfl, by decide, Or.inl ⟨dL_laneFor_13, rfl⟩, dL_laneFor_15, dL_laneFor_16, rfl, by decide, by decide⟩, (fun _ h => absurd h List.not_mem_nil)⟩
set_option maxRecDepth 100000 in
set_option maxHeartbeats 4000000 in
theorem wf_L_laneFor {d : Nat} (hd : 1 ≤ d) {a1 : Nat} {a2 : Int} {a3 : Int} {a4 : Nat} {K N : Nat → Nat} {I : Nat → Nat → Int} {P : Nat → Nat → Option Nat} {z : Nat} {Q : am_V → am_T} (h :
  K a1 = 7 ∧ am_C (d - 1) m_X7_laneFor [am_r a1, am_i a2, am_i a3] K N I P z (fun v K1 N2 I3 P4 z5 => am_iv v fun x7 =>
    K1 a4 = 14 ∧ (0 ≤ (0 : Int) ∧ (0 : Int) < N2 a4) ∧ ∀ I9, I9 = am_u2 I3 a4 (Int.toNat 0) x7 → Q (am_i 0) K1 N2 I9 P4 z5) (fun ee K N I P z => am_hq ee [(1, 1)] (fun r => Q (am_i r) K N I P z))) :
  am_C d m_L_laneFor [am_r a1, am_i a2, am_i a3, am_r a4] K N I P z Q am_nx := by
  refine am_C_of ok_L_laneFor (fun v hv => am_v1all _ rfl v hv) (Nat.le_of_ble_eq_true rfl) ?_
  show am_E d m_L_laneFor 0 0 0 [some (am_r a1), some (am_i a2), some (am_i a3), some (am_r a4), none] [] K N I P z Q am_nx
  refine e_aload_n dL_laneFor_0 rfl trivial ?_
  refine e_iconst dL_laneFor_1 ?_
  refine e_aload_n dL_laneFor_2 rfl trivial ?_
  refine e_iload_n dL_laneFor_3 rfl ?_
  refine e_iload_n dL_laneFor_4 rfl ?_
  obtain ⟨hK6, h⟩ := h
  refine e_callV (Mc := m_X7_laneFor) (vs := [am_i a2, am_i a3]) (st := [am_i 0, am_r a4]) dL_laneFor_5 ok_X7_laneFor rfl ⟨by decide, rfl⟩ mk_L_76 im_X7_laneFor sl_X7_laneFor rfl rfl hK6 (by omega) (Nat.le_of_ble_eq_true rfl) (Nat.le_of_ble_eq_true rfl) (Nat.le_of_ble_eq_true rfl) (am_xh_hq hn_L_laneFor_5 (by decide) (by decide)) (am_C_mono h (fun v K1 N2 I3 P4 z5 h => ?_) (fun _ _ _ _ _ _ h => h))
  replace h := am_iv_or h
  obtain ⟨x7, rfl, h⟩ := h
  show am_E d m_L_laneFor 8 _ _ _ [am_i x7, am_i 0, am_r a4] K1 N2 I3 P4 z5 Q am_nx
  refine e_i2l dL_laneFor_8 ?_
  obtain ⟨hK8, h⟩ := h
  obtain ⟨⟨h0, h1⟩, h⟩ := h
  refine e_last dL_laneFor_9 hK8 h0 h1 ?_
  replace h := h _ rfl
  generalize am_u2 I3 a4 (Int.toNat 0) x7 = I9 at h ⊢
  refine e_goto (tgt := 17) dL_laneFor_10 (by decide) ?_
  refine e_iconst dL_laneFor_17 ?_
  exact e_ret_i dL_laneFor_18 rfl (Nat.le_of_ble_eq_true rfl) (Nat.le_of_ble_eq_true rfl) h
set_option maxRecDepth 100000 in
theorem hn_L_append_4 : ∀ q ∈ ([(1, 1), (2, 2)] : List (Nat × Int)), am_han m_L_append 4 q.1 q.2 := List.forall_mem_cons.mpr ⟨⟨[], ⟨0, 9, 12, 15⟩, [⟨0, 9, 15, 17⟩], 12, 1, 3, rfl, (fun _ h => absurd h List.not_mem_nil), by decide, by decide, hk_15, by decide, rfl, by decide, Or.inr ⟨3, rfl, dL_append_12, rfl⟩, dL_append_13, dL_append_14, rfl, by decide, by decide⟩, List.forall_mem_cons.mpr ⟨⟨[⟨0, 9, 12, 15⟩], ⟨0, 9, 15, 17⟩, [], 15, 1, 3, rfl, List.forall_mem_cons.mpr ⟨Or.inr ⟨by decide, _, hk_15, by decide⟩, (fun _ h => absurd h List.not_mem_nil)⟩, by decide, by decide, hk_17, by decide, rfl, by decide, Or.inr ⟨3, rfl, dL_append_15, rfl⟩, dL_append_16, dL_append_17, rfl, by decide, by decide⟩, (fun _ h => absurd h List.not_mem_nil)⟩⟩
set_option maxRecDepth 100000 in
set_option maxHeartbeats 4000000 in
theorem wf_L_append {d : Nat} (hd : 1 ≤ d) {a1 : Nat} {a2 : Int} {a3 : Nat} {K N : Nat → Nat} {I : Nat → Nat → Int} {P : Nat → Nat → Option Nat} {z : Nat} {Q : am_V → am_T} (h :
  K a1 = 7 ∧ am_C (d - 1) m_X7_append [am_r a1, am_i a2] K N I P z (fun v K1 N2 I3 P4 z5 => am_iv v fun x7 =>
    K1 a3 = 14 ∧ (0 ≤ (0 : Int) ∧ (0 : Int) < N2 a3) ∧ ∀ I9, I9 = am_u2 I3 a3 (Int.toNat 0) x7 → Q (am_i 0) K1 N2 I9 P4 z5) (fun ee K N I P z => am_hq ee [(1, 1), (2, 2)] (fun r => Q (am_i r) K N I P z))) :
  am_C d m_L_append [am_r a1, am_i a2, am_r a3] K N I P z Q am_nx := by
  refine am_C_of ok_L_append (fun v hv => am_v1all _ rfl v hv) (Nat.le_of_ble_eq_true rfl) ?_
  show am_E d m_L_append 0 0 0 [some (am_r a1), some (am_i a2), some (am_r a3), none] [] K N I P z Q am_nx
  refine e_aload_n dL_append_0 rfl trivial ?_
  refine e_iconst dL_append_1 ?_
  refine e_aload_n dL_append_2 rfl trivial ?_
  refine e_iload_n dL_append_3 rfl ?_
  obtain ⟨hK6, h⟩ := h
  refine e_callV (Mc := m_X7_append) (vs := [am_i a2]) (st := [am_i 0, am_r a3]) dL_append_4 ok_X7_append rfl ⟨by decide, rfl⟩ mk_L_79 im_X7_append sl_X7_append rfl rfl hK6 (by omega) (Nat.le_of_ble_eq_true rfl) (Nat.le_of_ble_eq_true rfl) (Nat.le_of_ble_eq_true rfl) (am_xh_hq hn_L_append_4 (by decide) (by decide)) (am_C_mono h (fun v K1 N2 I3 P4 z5 h => ?_) (fun _ _ _ _ _ _ h => h))
  replace h := am_iv_or h
  obtain ⟨x7, rfl, h⟩ := h
  show am_E d m_L_append 7 _ _ _ [am_i x7, am_i 0, am_r a3] K1 N2 I3 P4 z5 Q am_nx
  refine e_i2l dL_append_7 ?_
  obtain ⟨hK8, h⟩ := h
  obtain ⟨⟨h0, h1⟩, h⟩ := h
  refine e_last dL_append_8 hK8 h0 h1 ?_
  replace h := h _ rfl
  generalize am_u2 I3 a3 (Int.toNat 0) x7 = I9 at h ⊢
  refine e_goto (tgt := 18) dL_append_9 (by decide) ?_
  refine e_iconst dL_append_18 ?_
  exact e_ret_i dL_append_19 rfl (Nat.le_of_ble_eq_true rfl) (Nat.le_of_ble_eq_true rfl) h
set_option maxRecDepth 100000 in
theorem hn_L_load_3 : ∀ q ∈ ([(2, 1)] : List (Nat × Int)), am_han m_L_load 3 q.1 q.2 := List.forall_mem_cons.mpr ⟨⟨[], ⟨0, 8, 11, 17⟩, [], 11, 1, 2, rfl, (fun _ h => absurd h List.not_mem_nil), by decide, by decide, hk_17, by decide, rfl, by decide, Or.inr ⟨2, rfl, dL_load_11, rfl⟩, dL_load_12, dL_load_13, rfl, by decide, by decide⟩, (fun _ h => absurd h List.not_mem_nil)⟩
set_option maxRecDepth 100000 in
set_option maxHeartbeats 4000000 in
theorem wf_L_load {d : Nat} (hd : 1 ≤ d) {a1 : Nat} {a2 : Nat} {K N : Nat → Nat} {I : Nat → Nat → Int} {P : Nat → Nat → Option Nat} {z : Nat} {Q : am_V → am_T} (h :
  K a1 = 7 ∧ am_C (d - 1) m_X7_load [am_r a1] K N I P z (fun v K1 N2 I3 P4 z5 => am_iv v fun x7 =>
    K1 a2 = 14 ∧ (0 ≤ (0 : Int) ∧ (0 : Int) < N2 a2) ∧ ∀ I9, I9 = am_u2 I3 a2 (Int.toNat 0) x7 → Q (am_i 0) K1 N2 I9 P4 z5) (fun ee K N I P z => am_hq ee [(2, 1)] (fun r => Q (am_i r) K N I P z))) :
  am_C d m_L_load [am_r a1, am_r a2] K N I P z Q am_nx := by
  refine am_C_of ok_L_load (fun v hv => am_v1all _ rfl v hv) (Nat.le_of_ble_eq_true rfl) ?_
  show am_E d m_L_load 0 0 0 [some (am_r a1), some (am_r a2), none] [] K N I P z Q am_nx
  refine e_aload_n dL_load_0 rfl trivial ?_
  refine e_iconst dL_load_1 ?_
  refine e_aload_n dL_load_2 rfl trivial ?_
  obtain ⟨hK6, h⟩ := h
  refine e_callV (Mc := m_X7_load) (vs := []) (st := [am_i 0, am_r a2]) dL_load_3 ok_X7_load rfl ⟨by decide, rfl⟩ mk_L_82 im_X7_load sl_X7_load rfl rfl hK6 (by omega) (Nat.le_of_ble_eq_true rfl) (Nat.le_of_ble_eq_true rfl) (Nat.le_of_ble_eq_true rfl) (am_xh_hq hn_L_load_3 (by decide) (by decide)) (am_C_mono h (fun v K1 N2 I3 P4 z5 h => ?_) (fun _ _ _ _ _ _ h => h))
  replace h := am_iv_or h
  obtain ⟨x7, rfl, h⟩ := h
  show am_E d m_L_load 6 _ _ _ [am_i x7, am_i 0, am_r a2] K1 N2 I3 P4 z5 Q am_nx
  refine e_i2l dL_load_6 ?_
  obtain ⟨hK8, h⟩ := h
  obtain ⟨⟨h0, h1⟩, h⟩ := h
  refine e_last dL_load_7 hK8 h0 h1 ?_
  replace h := h _ rfl
  generalize am_u2 I3 a2 (Int.toNat 0) x7 = I9 at h ⊢
  refine e_goto (tgt := 14) dL_load_8 (by decide) ?_
  refine e_iconst dL_load_14 ?_
  exact e_ret_i dL_load_15 rfl (Nat.le_of_ble_eq_true rfl) (Nat.le_of_ble_eq_true rfl) h
def L_L_law_23 (d : Nat) (k n : Nat) (l0 : Nat) (l1 : Nat) (l2 : Nat) (l3 : Nat) (l4 : Int) (K N : Nat → Nat) (I : Nat → Nat → Int) (P : Nat → Nat → Option Nat) (z : Nat) (Q : am_V → am_T) : Prop := am_E d m_L_law 23 k n [some (am_r l0), some (am_r l1), some (am_r l2), some (am_r l3), some (am_i l4), none, none, none, none] [] K N I P z Q am_nx
set_option maxRecDepth 100000 in
set_option maxHeartbeats 4000000 in
theorem wf_L_law {d : Nat} (hd : 1 ≤ d) {a1 : Nat} {K N : Nat → Nat} {I : Nat → Nat → Int} {P : Nat → Nat → Option Nat} {z : Nat} {Q : am_V → am_T} (h :
  (0 + 1 ≤ 601024 ∧ 0 + 7 ≤ 7293033) ∧ ∀ K1 N2 b3 z4, K1 = am_u1 K (z + 4) 7 → N2 = am_u1 N (z + 4) 0 → b3 = z + 4 → z4 = z + 1 → (0 + 1 + 279 ≤ 601024 ∧ 0 + 7 + 6750 ≤ 7293033) ∧ am_C (d - 1) m_X7_init [am_r b3] K1 N2 I P z4 (fun _ K6 N7 I8 P9 z10 =>
    (0 + 1 + 279 + 1 ≤ 601024 ∧ 0 + 7 + 6750 + 14 ≤ 7293033) ∧ ∀ K11 N12 b13 z14, K11 = am_u1 K6 (z10 + 4) 8 → N12 = am_u1 N7 (z10 + 4) 0 → b13 = z10 + 4 → z14 = z10 + 1 → (0 + 1 + 279 + 1 + 5 ≤ 601024 ∧ 0 + 7 + 6750 + 14 + 25688 ≤ 7293033) ∧ am_C (d - 1) m_X8_init [am_r b13] K11 N12 I8 P9 z14 (fun _ K16 N17 I18 P19 z20 =>
    (0 + 1 + 279 + 1 + 5 + 1 ≤ 601024 ∧ 0 + 7 + 6750 + 14 + 25688 + 1 ≤ 7293033) ∧ ∀ K21 N22 b23 z24, K21 = am_u1 K16 (z20 + 4) 14 → N22 = am_u1 N17 (z20 + 4) (Int.toNat 1) → b23 = z20 + 4 → z24 = z20 + 1 → L_L_law_23 d (0 + 1 + 279 + 1 + 5 + 1) (0 + 7 + 6750 + 14 + 25688 + 1) a1 b3 b13 b23 0 K21 N22 I18 P19 z24 Q) am_nx) am_nx) :
  am_E d m_L_law 0 0 0 [some (am_r a1), none, none, none, none, none, none, none, none] [] K N I P z Q am_nx := by
  obtain ⟨⟨hk9, hn9⟩, h⟩ := h
  refine e_new (cc := 7) dL_law_0 (by decide) ck_L_8 in_7 ii_7 hk9 hn9 ?_
  replace h := h _ _ _ _ rfl rfl rfl rfl
  have hK5 : (am_u1 K (z + 4) 7) (z + 4) = 7 := by simp [am_u1]
  generalize eK1 : am_u1 K (z + 4) 7 = K1 at h hK5 ⊢
  generalize eN2 : am_u1 N (z + 4) 0 = N2 at h ⊢
  generalize eb3 : z + 4 = b3 at h hK5 ⊢
  generalize ez4 : z + 1 = z4 at h ⊢
  refine e_dup dL_law_3 rfl ?_
  obtain ⟨⟨hk9, hn9⟩, h⟩ := h
  refine e_callI (Mc := m_X7_init) (vs := []) (st := [am_r b3]) dL_law_4 ok_X7_init rfl rfl mk_L_85 im_X7_init rfl rfl rfl (by omega) (Nat.le_of_ble_eq_true rfl) hk9 hn9 am_xh_nx (am_C_mono h (fun v K6 N7 I8 P9 z10 h => ?_) (fun _ _ _ _ _ _ h => h))
  show am_E d m_L_law 7 (0 + 1 + 279) (0 + 7 + 6750) _ [am_r b3] K6 N7 I8 P9 z10 Q am_nx
  refine e_astore_n dL_law_7 trivial ?_
  obtain ⟨⟨hk9, hn9⟩, h⟩ := h
  refine e_new (cc := 8) dL_law_8 (by decide) ck_L_86 in_8 ii_8 hk9 hn9 ?_
  replace h := h _ _ _ _ rfl rfl rfl rfl
  have hK15 : (am_u1 K6 (z10 + 4) 8) (z10 + 4) = 8 := by simp [am_u1]
  generalize eK11 : am_u1 K6 (z10 + 4) 8 = K11 at h hK15 ⊢
  generalize eN12 : am_u1 N7 (z10 + 4) 0 = N12 at h ⊢
  generalize eb13 : z10 + 4 = b13 at h hK15 ⊢
  generalize ez14 : z10 + 1 = z14 at h ⊢
  refine e_dup dL_law_11 rfl ?_
  obtain ⟨⟨hk9, hn9⟩, h⟩ := h
  refine e_callI (Mc := m_X8_init) (vs := []) (st := [am_r b13]) dL_law_12 ok_X8_init rfl rfl mk_L_88 im_X8_init rfl rfl rfl (by omega) (Nat.le_of_ble_eq_true rfl) hk9 hn9 am_xh_nx (am_C_mono h (fun v K16 N17 I18 P19 z20 h => ?_) (fun _ _ _ _ _ _ h => h))
  show am_E d m_L_law 15 (0 + 1 + 279 + 1 + 5) (0 + 7 + 6750 + 14 + 25688) _ [am_r b13] K16 N17 I18 P19 z20 Q am_nx
  refine e_astore_n dL_law_15 trivial ?_
  refine e_iconst dL_law_16 ?_
  obtain ⟨⟨hk9, hn9⟩, h⟩ := h
  refine e_newa_long dL_law_17 ac_long (by decide) (by decide) hk9 hn9 ?_
  replace h := h _ _ _ _ rfl rfl rfl rfl
  have hK25 : (am_u1 K16 (z20 + 4) 14) (z20 + 4) = 14 := by simp [am_u1]
  generalize eK21 : am_u1 K16 (z20 + 4) 14 = K21 at h hK25 ⊢
  generalize eN22 : am_u1 N17 (z20 + 4) (Int.toNat 1) = N22 at h ⊢
  generalize eb23 : z20 + 4 = b23 at h hK25 ⊢
  generalize ez24 : z20 + 1 = z24 at h ⊢
  refine e_astore_n dL_law_19 trivial ?_
  refine e_iconst dL_law_20 ?_
  refine e_istore dL_law_21 ?_
  exact e_forget (am_sub_k (am_sub_k (am_sub_k (am_sub_k (am_sub_k (am_sub_d (am_sub_d (am_sub_d (am_sub_d am_sub_nil))))))))) h
set_option maxRecDepth 100000 in
set_option maxHeartbeats 4000000 in
theorem wf_L_law_23 {d : Nat} (hd : 1 ≤ d) {k n : Nat} {l0 : Nat} {l1 : Nat} {l2 : Nat} {l3 : Nat} {l4 : Int} {K N : Nat → Nat} {I : Nat → Nat → Int} {P : Nat → Nat → Option Nat} {z : Nat} {Q : am_V → am_T} (h :
  l0 < 4 ∧ N l0 < 2147483648 ∧ ((am_wr ((N l0 : Int) - 4) < l4 →
    (k ≤ 601024 ∧ n ≤ 7293033) ∧ Q (am_i 1) K N I P z) ∧
    (¬ (am_wr ((N l0 : Int) - 4) < l4) →
    K l0 = 10 ∧ (0 ≤ l4 ∧ l4 < N l0) ∧ ((am_wr ((Int32.ofInt (I l0 (Int.toNat l4)) &&& Int32.ofInt 31).toInt) = 0 →
      (0 ≤ am_wr (l4 + 1) ∧ am_wr (l4 + 1) < N l0) ∧ (0 ≤ am_wr (l4 + 2) ∧ am_wr (l4 + 2) < N l0) ∧ (k + 1 ≤ 601024 ∧ n + 6 ≤ 7293033) ∧ am_C (d - 1) m_L_set [am_r l1, am_i (I l0 (Int.toNat (am_wr (l4 + 1)))), am_i (I l0 (Int.toNat (am_wr (l4 + 2)))), am_r l3] K N I P z (fun v K2 N3 I4 P5 z6 => am_iv v fun x7 =>
        K2 l0 = 10 ∧ (0 ≤ am_wr (l4 + 1) ∧ am_wr (l4 + 1) < N3 l0) ∧ (0 ≤ am_wr (l4 + 2) ∧ am_wr (l4 + 2) < N3 l0) ∧ (k + 1 + 0 ≤ 601024 ∧ n + 6 + 0 ≤ 7293033) ∧ K2 l2 = 8 ∧ am_C (d - 1) m_X8_set [am_r l2, am_i (I4 l0 (Int.toNat (am_wr (l4 + 1)))), am_i (I4 l0 (Int.toNat (am_wr (l4 + 2))))] K2 N3 I4 P5 z6 (fun v K9 N10 I11 P12 z13 => am_iv v fun x15 =>
        (k + 1 + 0 ≤ 601024 ∧ n + 6 + 0 ≤ 7293033) ∧ K9 l2 = 8 ∧ am_C (d - 1) m_X8_thrown [am_r l2] K9 N10 I11 P12 z13 (fun v K16 N17 I18 P19 z20 => am_iv v fun x22 =>
        ((x22 = x7 →
        ((¬ x7 = 0 →
          L_L_law_23 d (k + 1) (n + 6) l0 l1 l2 l3 (am_wr (l4 + 4)) K16 N17 I18 P19 z20 Q) ∧
          (x7 = 0 →
          K16 l3 = 14 ∧ (0 ≤ (0 : Int) ∧ (0 : Int) < N17 l3) ∧ ((I18 l3 0 = x15 →
            L_L_law_23 d (k + 1) (n + 6) l0 l1 l2 l3 (am_wr (l4 + 4)) K16 N17 I18 P19 z20 Q) ∧
            (¬ (I18 l3 0 = x15) →
            (k + 1 ≤ 601024 ∧ n + 6 ≤ 7293033) ∧ Q (am_i 0) K16 N17 I18 P19 z20))))) ∧
        (¬ (x22 = x7) →
        (k + 1 ≤ 601024 ∧ n + 6 ≤ 7293033) ∧ Q (am_i 0) K16 N17 I18 P19 z20))) am_nx) am_nx) am_nx) ∧
      (am_wr ((Int32.ofInt (I l0 (Int.toNat l4)) &&& Int32.ofInt 31).toInt) = 1 →
      (0 ≤ am_wr (l4 + 1) ∧ am_wr (l4 + 1) < N l0) ∧ (0 ≤ am_wr (l4 + 2) ∧ am_wr (l4 + 2) < N l0) ∧ (0 ≤ am_wr (l4 + 3) ∧ am_wr (l4 + 3) < N l0) ∧ (k + 1 ≤ 601024 ∧ n + 6 ≤ 7293033) ∧ am_C (d - 1) m_L_addLane [am_r l1, am_i (I l0 (Int.toNat (am_wr (l4 + 1)))), am_i (I l0 (Int.toNat (am_wr (l4 + 2)))), am_i (I l0 (Int.toNat (am_wr (l4 + 3)))), am_r l3] K N I P z (fun v K24 N25 I26 P27 z28 => am_iv v fun x29 =>
        K24 l0 = 10 ∧ (0 ≤ am_wr (l4 + 1) ∧ am_wr (l4 + 1) < N25 l0) ∧ (0 ≤ am_wr (l4 + 2) ∧ am_wr (l4 + 2) < N25 l0) ∧ (0 ≤ am_wr (l4 + 3) ∧ am_wr (l4 + 3) < N25 l0) ∧ (k + 1 + 0 ≤ 601024 ∧ n + 6 + 0 ≤ 7293033) ∧ K24 l2 = 8 ∧ am_C (d - 1) m_X8_addLane [am_r l2, am_i (I26 l0 (Int.toNat (am_wr (l4 + 1)))), am_i (I26 l0 (Int.toNat (am_wr (l4 + 2)))), am_i (I26 l0 (Int.toNat (am_wr (l4 + 3))))] K24 N25 I26 P27 z28 (fun v K31 N32 I33 P34 z35 => am_iv v fun x37 =>
        (k + 1 + 0 ≤ 601024 ∧ n + 6 + 0 ≤ 7293033) ∧ K31 l2 = 8 ∧ am_C (d - 1) m_X8_thrown [am_r l2] K31 N32 I33 P34 z35 (fun v K38 N39 I40 P41 z42 => am_iv v fun x44 =>
        ((x44 = x29 →
        ((¬ x29 = 0 →
          L_L_law_23 d (k + 1) (n + 6) l0 l1 l2 l3 (am_wr (l4 + 4)) K38 N39 I40 P41 z42 Q) ∧
          (x29 = 0 →
          K38 l3 = 14 ∧ (0 ≤ (0 : Int) ∧ (0 : Int) < N39 l3) ∧ ((I40 l3 0 = x37 →
            L_L_law_23 d (k + 1) (n + 6) l0 l1 l2 l3 (am_wr (l4 + 4)) K38 N39 I40 P41 z42 Q) ∧
            (¬ (I40 l3 0 = x37) →
            (k + 1 ≤ 601024 ∧ n + 6 ≤ 7293033) ∧ Q (am_i 0) K38 N39 I40 P41 z42))))) ∧
        (¬ (x44 = x29) →
        (k + 1 ≤ 601024 ∧ n + 6 ≤ 7293033) ∧ Q (am_i 0) K38 N39 I40 P41 z42))) am_nx) am_nx) am_nx) ∧
      (am_wr ((Int32.ofInt (I l0 (Int.toNat l4)) &&& Int32.ofInt 31).toInt) = 2 →
      (0 ≤ am_wr (l4 + 1) ∧ am_wr (l4 + 1) < N l0) ∧ (k + 1 ≤ 601024 ∧ n + 6 ≤ 7293033) ∧ am_C (d - 1) m_L_emptyLane [am_r l1, am_i (I l0 (Int.toNat (am_wr (l4 + 1)))), am_r l3] K N I P z (fun v K46 N47 I48 P49 z50 => am_iv v fun x51 =>
        K46 l0 = 10 ∧ (0 ≤ am_wr (l4 + 1) ∧ am_wr (l4 + 1) < N47 l0) ∧ (k + 1 + 0 ≤ 601024 ∧ n + 6 + 0 ≤ 7293033) ∧ K46 l2 = 8 ∧ am_C (d - 1) m_X8_emptyLane [am_r l2, am_i (I48 l0 (Int.toNat (am_wr (l4 + 1))))] K46 N47 I48 P49 z50 (fun v K53 N54 I55 P56 z57 => am_iv v fun x59 =>
        (k + 1 + 0 ≤ 601024 ∧ n + 6 + 0 ≤ 7293033) ∧ K53 l2 = 8 ∧ am_C (d - 1) m_X8_thrown [am_r l2] K53 N54 I55 P56 z57 (fun v K60 N61 I62 P63 z64 => am_iv v fun x66 =>
        ((x66 = x51 →
        ((¬ x51 = 0 →
          L_L_law_23 d (k + 1) (n + 6) l0 l1 l2 l3 (am_wr (l4 + 4)) K60 N61 I62 P63 z64 Q) ∧
          (x51 = 0 →
          K60 l3 = 14 ∧ (0 ≤ (0 : Int) ∧ (0 : Int) < N61 l3) ∧ ((I62 l3 0 = x59 →
            L_L_law_23 d (k + 1) (n + 6) l0 l1 l2 l3 (am_wr (l4 + 4)) K60 N61 I62 P63 z64 Q) ∧
            (¬ (I62 l3 0 = x59) →
            (k + 1 ≤ 601024 ∧ n + 6 ≤ 7293033) ∧ Q (am_i 0) K60 N61 I62 P63 z64))))) ∧
        (¬ (x66 = x51) →
        (k + 1 ≤ 601024 ∧ n + 6 ≤ 7293033) ∧ Q (am_i 0) K60 N61 I62 P63 z64))) am_nx) am_nx) am_nx) ∧
      (am_wr ((Int32.ofInt (I l0 (Int.toNat l4)) &&& Int32.ofInt 31).toInt) = 3 →
      (0 ≤ am_wr (l4 + 1) ∧ am_wr (l4 + 1) < N l0) ∧ (0 ≤ am_wr (l4 + 2) ∧ am_wr (l4 + 2) < N l0) ∧ (k + 1 ≤ 601024 ∧ n + 6 ≤ 7293033) ∧ am_C (d - 1) m_L_route [am_r l1, am_i (I l0 (Int.toNat (am_wr (l4 + 1)))), am_i (I l0 (Int.toNat (am_wr (l4 + 2)))), am_r l3] K N I P z (fun v K68 N69 I70 P71 z72 => am_iv v fun x73 =>
        K68 l0 = 10 ∧ (0 ≤ am_wr (l4 + 1) ∧ am_wr (l4 + 1) < N69 l0) ∧ (0 ≤ am_wr (l4 + 2) ∧ am_wr (l4 + 2) < N69 l0) ∧ (k + 1 + 0 ≤ 601024 ∧ n + 6 + 0 ≤ 7293033) ∧ K68 l2 = 8 ∧ am_C (d - 1) m_X8_route [am_r l2, am_i (I70 l0 (Int.toNat (am_wr (l4 + 1)))), am_i (I70 l0 (Int.toNat (am_wr (l4 + 2))))] K68 N69 I70 P71 z72 (fun v K75 N76 I77 P78 z79 => am_iv v fun x81 =>
        (k + 1 + 0 ≤ 601024 ∧ n + 6 + 0 ≤ 7293033) ∧ K75 l2 = 8 ∧ am_C (d - 1) m_X8_thrown [am_r l2] K75 N76 I77 P78 z79 (fun v K82 N83 I84 P85 z86 => am_iv v fun x88 =>
        ((x88 = x73 →
        ((¬ x73 = 0 →
          L_L_law_23 d (k + 1) (n + 6) l0 l1 l2 l3 (am_wr (l4 + 4)) K82 N83 I84 P85 z86 Q) ∧
          (x73 = 0 →
          K82 l3 = 14 ∧ (0 ≤ (0 : Int) ∧ (0 : Int) < N83 l3) ∧ ((I84 l3 0 = x81 →
            L_L_law_23 d (k + 1) (n + 6) l0 l1 l2 l3 (am_wr (l4 + 4)) K82 N83 I84 P85 z86 Q) ∧
            (¬ (I84 l3 0 = x81) →
            (k + 1 ≤ 601024 ∧ n + 6 ≤ 7293033) ∧ Q (am_i 0) K82 N83 I84 P85 z86))))) ∧
        (¬ (x88 = x73) →
        (k + 1 ≤ 601024 ∧ n + 6 ≤ 7293033) ∧ Q (am_i 0) K82 N83 I84 P85 z86))) am_nx) am_nx) am_nx) ∧
      (am_wr ((Int32.ofInt (I l0 (Int.toNat l4)) &&& Int32.ofInt 31).toInt) = 4 →
      (0 ≤ am_wr (l4 + 1) ∧ am_wr (l4 + 1) < N l0) ∧ (k + 1 ≤ 601024 ∧ n + 6 ≤ 7293033) ∧ am_C (d - 1) m_L_removeRoute [am_r l1, am_i (I l0 (Int.toNat (am_wr (l4 + 1)))), am_r l3] K N I P z (fun v K90 N91 I92 P93 z94 => am_iv v fun x95 =>
        K90 l0 = 10 ∧ (0 ≤ am_wr (l4 + 1) ∧ am_wr (l4 + 1) < N91 l0) ∧ (k + 1 + 0 ≤ 601024 ∧ n + 6 + 0 ≤ 7293033) ∧ K90 l2 = 8 ∧ am_C (d - 1) m_X8_removeRoute [am_r l2, am_i (I92 l0 (Int.toNat (am_wr (l4 + 1))))] K90 N91 I92 P93 z94 (fun v K97 N98 I99 P100 z101 => am_iv v fun x103 =>
        (k + 1 + 0 ≤ 601024 ∧ n + 6 + 0 ≤ 7293033) ∧ K97 l2 = 8 ∧ am_C (d - 1) m_X8_thrown [am_r l2] K97 N98 I99 P100 z101 (fun v K104 N105 I106 P107 z108 => am_iv v fun x110 =>
        ((x110 = x95 →
        ((¬ x95 = 0 →
          L_L_law_23 d (k + 1) (n + 6) l0 l1 l2 l3 (am_wr (l4 + 4)) K104 N105 I106 P107 z108 Q) ∧
          (x95 = 0 →
          K104 l3 = 14 ∧ (0 ≤ (0 : Int) ∧ (0 : Int) < N105 l3) ∧ ((I106 l3 0 = x103 →
            L_L_law_23 d (k + 1) (n + 6) l0 l1 l2 l3 (am_wr (l4 + 4)) K104 N105 I106 P107 z108 Q) ∧
            (¬ (I106 l3 0 = x103) →
            (k + 1 ≤ 601024 ∧ n + 6 ≤ 7293033) ∧ Q (am_i 0) K104 N105 I106 P107 z108))))) ∧
        (¬ (x110 = x95) →
        (k + 1 ≤ 601024 ∧ n + 6 ≤ 7293033) ∧ Q (am_i 0) K104 N105 I106 P107 z108))) am_nx) am_nx) am_nx) ∧
      (am_wr ((Int32.ofInt (I l0 (Int.toNat l4)) &&& Int32.ofInt 31).toInt) = 5 →
      (0 ≤ am_wr (l4 + 1) ∧ am_wr (l4 + 1) < N l0) ∧ (k + 1 ≤ 601024 ∧ n + 6 ≤ 7293033) ∧ am_C (d - 1) m_L_enter [am_r l1, am_i (I l0 (Int.toNat (am_wr (l4 + 1)))), am_r l3] K N I P z (fun v K112 N113 I114 P115 z116 => am_iv v fun x117 =>
        K112 l0 = 10 ∧ (0 ≤ am_wr (l4 + 1) ∧ am_wr (l4 + 1) < N113 l0) ∧ (k + 1 + 0 ≤ 601024 ∧ n + 6 + 0 ≤ 7293033) ∧ K112 l2 = 8 ∧ am_C (d - 1) m_X8_enter [am_r l2, am_i (I114 l0 (Int.toNat (am_wr (l4 + 1))))] K112 N113 I114 P115 z116 (fun v K119 N120 I121 P122 z123 => am_iv v fun x125 =>
        (k + 1 + 0 ≤ 601024 ∧ n + 6 + 0 ≤ 7293033) ∧ K119 l2 = 8 ∧ am_C (d - 1) m_X8_thrown [am_r l2] K119 N120 I121 P122 z123 (fun v K126 N127 I128 P129 z130 => am_iv v fun x132 =>
        ((x132 = x117 →
        ((¬ x117 = 0 →
          L_L_law_23 d (k + 1) (n + 6) l0 l1 l2 l3 (am_wr (l4 + 4)) K126 N127 I128 P129 z130 Q) ∧
          (x117 = 0 →
          K126 l3 = 14 ∧ (0 ≤ (0 : Int) ∧ (0 : Int) < N127 l3) ∧ ((I128 l3 0 = x125 →
            L_L_law_23 d (k + 1) (n + 6) l0 l1 l2 l3 (am_wr (l4 + 4)) K126 N127 I128 P129 z130 Q) ∧
            (¬ (I128 l3 0 = x125) →
            (k + 1 ≤ 601024 ∧ n + 6 ≤ 7293033) ∧ Q (am_i 0) K126 N127 I128 P129 z130))))) ∧
        (¬ (x132 = x117) →
        (k + 1 ≤ 601024 ∧ n + 6 ≤ 7293033) ∧ Q (am_i 0) K126 N127 I128 P129 z130))) am_nx) am_nx) am_nx) ∧
      (am_wr ((Int32.ofInt (I l0 (Int.toNat l4)) &&& Int32.ofInt 31).toInt) = 6 →
      (0 ≤ am_wr (l4 + 1) ∧ am_wr (l4 + 1) < N l0) ∧ (k + 1 ≤ 601024 ∧ n + 6 ≤ 7293033) ∧ am_C (d - 1) m_L_read [am_r l1, am_i (I l0 (Int.toNat (am_wr (l4 + 1)))), am_r l3] K N I P z (fun v K134 N135 I136 P137 z138 => am_iv v fun x139 =>
        K134 l0 = 10 ∧ (0 ≤ am_wr (l4 + 1) ∧ am_wr (l4 + 1) < N135 l0) ∧ (k + 1 + 0 ≤ 601024 ∧ n + 6 + 0 ≤ 7293033) ∧ K134 l2 = 8 ∧ am_C (d - 1) m_X8_read [am_r l2, am_i (I136 l0 (Int.toNat (am_wr (l4 + 1))))] K134 N135 I136 P137 z138 (fun v K141 N142 I143 P144 z145 => am_iv v fun x147 =>
        (k + 1 + 0 ≤ 601024 ∧ n + 6 + 0 ≤ 7293033) ∧ K141 l2 = 8 ∧ am_C (d - 1) m_X8_thrown [am_r l2] K141 N142 I143 P144 z145 (fun v K148 N149 I150 P151 z152 => am_iv v fun x154 =>
        ((x154 = x139 →
        ((¬ x139 = 0 →
          L_L_law_23 d (k + 1) (n + 6) l0 l1 l2 l3 (am_wr (l4 + 4)) K148 N149 I150 P151 z152 Q) ∧
          (x139 = 0 →
          K148 l3 = 14 ∧ (0 ≤ (0 : Int) ∧ (0 : Int) < N149 l3) ∧ ((I150 l3 0 = x147 →
            L_L_law_23 d (k + 1) (n + 6) l0 l1 l2 l3 (am_wr (l4 + 4)) K148 N149 I150 P151 z152 Q) ∧
            (¬ (I150 l3 0 = x147) →
            (k + 1 ≤ 601024 ∧ n + 6 ≤ 7293033) ∧ Q (am_i 0) K148 N149 I150 P151 z152))))) ∧
        (¬ (x154 = x139) →
        (k + 1 ≤ 601024 ∧ n + 6 ≤ 7293033) ∧ Q (am_i 0) K148 N149 I150 P151 z152))) am_nx) am_nx) am_nx) ∧
      (am_wr ((Int32.ofInt (I l0 (Int.toNat l4)) &&& Int32.ofInt 31).toInt) = 7 →
      (0 ≤ am_wr (l4 + 1) ∧ am_wr (l4 + 1) < N l0) ∧ (k + 1 ≤ 601024 ∧ n + 6 ≤ 7293033) ∧ am_C (d - 1) m_L_move [am_r l1, am_i (I l0 (Int.toNat (am_wr (l4 + 1)))), am_r l3] K N I P z (fun v K156 N157 I158 P159 z160 => am_iv v fun x161 =>
        K156 l0 = 10 ∧ (0 ≤ am_wr (l4 + 1) ∧ am_wr (l4 + 1) < N157 l0) ∧ (k + 1 + 0 ≤ 601024 ∧ n + 6 + 0 ≤ 7293033) ∧ K156 l2 = 8 ∧ am_C (d - 1) m_X8_move [am_r l2, am_i (I158 l0 (Int.toNat (am_wr (l4 + 1))))] K156 N157 I158 P159 z160 (fun v K163 N164 I165 P166 z167 => am_iv v fun x169 =>
        (k + 1 + 0 ≤ 601024 ∧ n + 6 + 0 ≤ 7293033) ∧ K163 l2 = 8 ∧ am_C (d - 1) m_X8_thrown [am_r l2] K163 N164 I165 P166 z167 (fun v K170 N171 I172 P173 z174 => am_iv v fun x176 =>
        ((x176 = x161 →
        ((¬ x161 = 0 →
          L_L_law_23 d (k + 1) (n + 6) l0 l1 l2 l3 (am_wr (l4 + 4)) K170 N171 I172 P173 z174 Q) ∧
          (x161 = 0 →
          K170 l3 = 14 ∧ (0 ≤ (0 : Int) ∧ (0 : Int) < N171 l3) ∧ ((I172 l3 0 = x169 →
            L_L_law_23 d (k + 1) (n + 6) l0 l1 l2 l3 (am_wr (l4 + 4)) K170 N171 I172 P173 z174 Q) ∧
            (¬ (I172 l3 0 = x169) →
            (k + 1 ≤ 601024 ∧ n + 6 ≤ 7293033) ∧ Q (am_i 0) K170 N171 I172 P173 z174))))) ∧
        (¬ (x176 = x161) →
        (k + 1 ≤ 601024 ∧ n + 6 ≤ 7293033) ∧ Q (am_i 0) K170 N171 I172 P173 z174))) am_nx) am_nx) am_nx) ∧
      (am_wr ((Int32.ofInt (I l0 (Int.toNat l4)) &&& Int32.ofInt 31).toInt) = 8 →
      (0 ≤ am_wr (l4 + 1) ∧ am_wr (l4 + 1) < N l0) ∧ (k + 1 ≤ 601024 ∧ n + 6 ≤ 7293033) ∧ am_C (d - 1) m_L_takeOff [am_r l1, am_i (I l0 (Int.toNat (am_wr (l4 + 1)))), am_r l3] K N I P z (fun v K178 N179 I180 P181 z182 => am_iv v fun x183 =>
        K178 l0 = 10 ∧ (0 ≤ am_wr (l4 + 1) ∧ am_wr (l4 + 1) < N179 l0) ∧ (k + 1 + 0 ≤ 601024 ∧ n + 6 + 0 ≤ 7293033) ∧ K178 l2 = 8 ∧ am_C (d - 1) m_X8_takeOff [am_r l2, am_i (I180 l0 (Int.toNat (am_wr (l4 + 1))))] K178 N179 I180 P181 z182 (fun v K185 N186 I187 P188 z189 => am_iv v fun x191 =>
        (k + 1 + 0 ≤ 601024 ∧ n + 6 + 0 ≤ 7293033) ∧ K185 l2 = 8 ∧ am_C (d - 1) m_X8_thrown [am_r l2] K185 N186 I187 P188 z189 (fun v K192 N193 I194 P195 z196 => am_iv v fun x198 =>
        ((x198 = x183 →
        ((¬ x183 = 0 →
          L_L_law_23 d (k + 1) (n + 6) l0 l1 l2 l3 (am_wr (l4 + 4)) K192 N193 I194 P195 z196 Q) ∧
          (x183 = 0 →
          K192 l3 = 14 ∧ (0 ≤ (0 : Int) ∧ (0 : Int) < N193 l3) ∧ ((I194 l3 0 = x191 →
            L_L_law_23 d (k + 1) (n + 6) l0 l1 l2 l3 (am_wr (l4 + 4)) K192 N193 I194 P195 z196 Q) ∧
            (¬ (I194 l3 0 = x191) →
            (k + 1 ≤ 601024 ∧ n + 6 ≤ 7293033) ∧ Q (am_i 0) K192 N193 I194 P195 z196))))) ∧
        (¬ (x198 = x183) →
        (k + 1 ≤ 601024 ∧ n + 6 ≤ 7293033) ∧ Q (am_i 0) K192 N193 I194 P195 z196))) am_nx) am_nx) am_nx) ∧
      (am_wr ((Int32.ofInt (I l0 (Int.toNat l4)) &&& Int32.ofInt 31).toInt) = 9 →
      (k + 1 ≤ 601024 ∧ n + 6 ≤ 7293033) ∧ am_C (d - 1) m_L_undo [am_r l1, am_r l3] K N I P z (fun v K200 N201 I202 P203 z204 => am_iv v fun x205 =>
        (k + 1 + 0 ≤ 601024 ∧ n + 6 + 0 ≤ 7293033) ∧ K200 l2 = 8 ∧ am_C (d - 1) m_X8_undo [am_r l2] K200 N201 I202 P203 z204 (fun v K206 N207 I208 P209 z210 => am_iv v fun x212 =>
        (k + 1 + 0 ≤ 601024 ∧ n + 6 + 0 ≤ 7293033) ∧ K206 l2 = 8 ∧ am_C (d - 1) m_X8_thrown [am_r l2] K206 N207 I208 P209 z210 (fun v K213 N214 I215 P216 z217 => am_iv v fun x219 =>
        ((x219 = x205 →
        ((¬ x205 = 0 →
          L_L_law_23 d (k + 1) (n + 6) l0 l1 l2 l3 (am_wr (l4 + 4)) K213 N214 I215 P216 z217 Q) ∧
          (x205 = 0 →
          K213 l3 = 14 ∧ (0 ≤ (0 : Int) ∧ (0 : Int) < N214 l3) ∧ ((I215 l3 0 = x212 →
            L_L_law_23 d (k + 1) (n + 6) l0 l1 l2 l3 (am_wr (l4 + 4)) K213 N214 I215 P216 z217 Q) ∧
            (¬ (I215 l3 0 = x212) →
            (k + 1 ≤ 601024 ∧ n + 6 ≤ 7293033) ∧ Q (am_i 0) K213 N214 I215 P216 z217))))) ∧
        (¬ (x219 = x205) →
        (k + 1 ≤ 601024 ∧ n + 6 ≤ 7293033) ∧ Q (am_i 0) K213 N214 I215 P216 z217))) am_nx) am_nx) am_nx) ∧
      (am_wr ((Int32.ofInt (I l0 (Int.toNat l4)) &&& Int32.ofInt 31).toInt) = 10 →
      (0 ≤ am_wr (l4 + 1) ∧ am_wr (l4 + 1) < N l0) ∧ (0 ≤ am_wr (l4 + 2) ∧ am_wr (l4 + 2) < N l0) ∧ (k + 1 ≤ 601024 ∧ n + 6 ≤ 7293033) ∧ am_C (d - 1) m_L_part [am_r l1, am_i (I l0 (Int.toNat (am_wr (l4 + 1)))), am_i (I l0 (Int.toNat (am_wr (l4 + 2)))), am_r l3] K N I P z (fun v K221 N222 I223 P224 z225 => am_iv v fun x226 =>
        K221 l0 = 10 ∧ (0 ≤ am_wr (l4 + 1) ∧ am_wr (l4 + 1) < N222 l0) ∧ (0 ≤ am_wr (l4 + 2) ∧ am_wr (l4 + 2) < N222 l0) ∧ (k + 1 + 0 ≤ 601024 ∧ n + 6 + 0 ≤ 7293033) ∧ K221 l2 = 8 ∧ am_C (d - 1) m_X8_part [am_r l2, am_i (I223 l0 (Int.toNat (am_wr (l4 + 1)))), am_i (I223 l0 (Int.toNat (am_wr (l4 + 2))))] K221 N222 I223 P224 z225 (fun v K228 N229 I230 P231 z232 => am_iv v fun x234 =>
        (k + 1 + 0 ≤ 601024 ∧ n + 6 + 0 ≤ 7293033) ∧ K228 l2 = 8 ∧ am_C (d - 1) m_X8_thrown [am_r l2] K228 N229 I230 P231 z232 (fun v K235 N236 I237 P238 z239 => am_iv v fun x241 =>
        ((x241 = x226 →
        ((¬ x226 = 0 →
          L_L_law_23 d (k + 1) (n + 6) l0 l1 l2 l3 (am_wr (l4 + 4)) K235 N236 I237 P238 z239 Q) ∧
          (x226 = 0 →
          K235 l3 = 14 ∧ (0 ≤ (0 : Int) ∧ (0 : Int) < N236 l3) ∧ ((I237 l3 0 = x234 →
            L_L_law_23 d (k + 1) (n + 6) l0 l1 l2 l3 (am_wr (l4 + 4)) K235 N236 I237 P238 z239 Q) ∧
            (¬ (I237 l3 0 = x234) →
            (k + 1 ≤ 601024 ∧ n + 6 ≤ 7293033) ∧ Q (am_i 0) K235 N236 I237 P238 z239))))) ∧
        (¬ (x241 = x226) →
        (k + 1 ≤ 601024 ∧ n + 6 ≤ 7293033) ∧ Q (am_i 0) K235 N236 I237 P238 z239))) am_nx) am_nx) am_nx) ∧
      (am_wr ((Int32.ofInt (I l0 (Int.toNat l4)) &&& Int32.ofInt 31).toInt) = 11 →
      (0 ≤ am_wr (l4 + 1) ∧ am_wr (l4 + 1) < N l0) ∧ (0 ≤ am_wr (l4 + 2) ∧ am_wr (l4 + 2) < N l0) ∧ (k + 1 ≤ 601024 ∧ n + 6 ≤ 7293033) ∧ am_C (d - 1) m_L_lane [am_r l1, am_i (I l0 (Int.toNat (am_wr (l4 + 1)))), am_i (I l0 (Int.toNat (am_wr (l4 + 2)))), am_r l3] K N I P z (fun v K243 N244 I245 P246 z247 => am_iv v fun x248 =>
        K243 l0 = 10 ∧ (0 ≤ am_wr (l4 + 1) ∧ am_wr (l4 + 1) < N244 l0) ∧ (0 ≤ am_wr (l4 + 2) ∧ am_wr (l4 + 2) < N244 l0) ∧ (k + 1 + 0 ≤ 601024 ∧ n + 6 + 0 ≤ 7293033) ∧ K243 l2 = 8 ∧ am_C (d - 1) m_X8_lane [am_r l2, am_i (I245 l0 (Int.toNat (am_wr (l4 + 1)))), am_i (I245 l0 (Int.toNat (am_wr (l4 + 2))))] K243 N244 I245 P246 z247 (fun v K250 N251 I252 P253 z254 => am_iv v fun x256 =>
        (k + 1 + 0 ≤ 601024 ∧ n + 6 + 0 ≤ 7293033) ∧ K250 l2 = 8 ∧ am_C (d - 1) m_X8_thrown [am_r l2] K250 N251 I252 P253 z254 (fun v K257 N258 I259 P260 z261 => am_iv v fun x263 =>
        ((x263 = x248 →
        ((¬ x248 = 0 →
          L_L_law_23 d (k + 1) (n + 6) l0 l1 l2 l3 (am_wr (l4 + 4)) K257 N258 I259 P260 z261 Q) ∧
          (x248 = 0 →
          K257 l3 = 14 ∧ (0 ≤ (0 : Int) ∧ (0 : Int) < N258 l3) ∧ ((I259 l3 0 = x256 →
            L_L_law_23 d (k + 1) (n + 6) l0 l1 l2 l3 (am_wr (l4 + 4)) K257 N258 I259 P260 z261 Q) ∧
            (¬ (I259 l3 0 = x256) →
            (k + 1 ≤ 601024 ∧ n + 6 ≤ 7293033) ∧ Q (am_i 0) K257 N258 I259 P260 z261))))) ∧
        (¬ (x263 = x248) →
        (k + 1 ≤ 601024 ∧ n + 6 ≤ 7293033) ∧ Q (am_i 0) K257 N258 I259 P260 z261))) am_nx) am_nx) am_nx) ∧
      (am_wr ((Int32.ofInt (I l0 (Int.toNat l4)) &&& Int32.ofInt 31).toInt) = 12 →
      (0 ≤ am_wr (l4 + 1) ∧ am_wr (l4 + 1) < N l0) ∧ (k + 1 ≤ 601024 ∧ n + 6 ≤ 7293033) ∧ am_C (d - 1) m_L_total [am_r l1, am_i (I l0 (Int.toNat (am_wr (l4 + 1)))), am_r l3] K N I P z (fun v K265 N266 I267 P268 z269 => am_iv v fun x270 =>
        K265 l0 = 10 ∧ (0 ≤ am_wr (l4 + 1) ∧ am_wr (l4 + 1) < N266 l0) ∧ (k + 1 + 0 ≤ 601024 ∧ n + 6 + 0 ≤ 7293033) ∧ K265 l2 = 8 ∧ am_C (d - 1) m_X8_total [am_r l2, am_i (I267 l0 (Int.toNat (am_wr (l4 + 1))))] K265 N266 I267 P268 z269 (fun v K272 N273 I274 P275 z276 => am_iv v fun x278 =>
        (k + 1 + 0 ≤ 601024 ∧ n + 6 + 0 ≤ 7293033) ∧ K272 l2 = 8 ∧ am_C (d - 1) m_X8_thrown [am_r l2] K272 N273 I274 P275 z276 (fun v K279 N280 I281 P282 z283 => am_iv v fun x285 =>
        ((x285 = x270 →
        ((¬ x270 = 0 →
          L_L_law_23 d (k + 1) (n + 6) l0 l1 l2 l3 (am_wr (l4 + 4)) K279 N280 I281 P282 z283 Q) ∧
          (x270 = 0 →
          K279 l3 = 14 ∧ (0 ≤ (0 : Int) ∧ (0 : Int) < N280 l3) ∧ ((I281 l3 0 = x278 →
            L_L_law_23 d (k + 1) (n + 6) l0 l1 l2 l3 (am_wr (l4 + 4)) K279 N280 I281 P282 z283 Q) ∧
            (¬ (I281 l3 0 = x278) →
            (k + 1 ≤ 601024 ∧ n + 6 ≤ 7293033) ∧ Q (am_i 0) K279 N280 I281 P282 z283))))) ∧
        (¬ (x285 = x270) →
        (k + 1 ≤ 601024 ∧ n + 6 ≤ 7293033) ∧ Q (am_i 0) K279 N280 I281 P282 z283))) am_nx) am_nx) am_nx) ∧
      (am_wr ((Int32.ofInt (I l0 (Int.toNat l4)) &&& Int32.ofInt 31).toInt) = 13 →
      (0 ≤ am_wr (l4 + 1) ∧ am_wr (l4 + 1) < N l0) ∧ (k + 1 ≤ 601024 ∧ n + 6 ≤ 7293033) ∧ am_C (d - 1) m_L_lost [am_r l1, am_i (I l0 (Int.toNat (am_wr (l4 + 1)))), am_r l3] K N I P z (fun v K287 N288 I289 P290 z291 => am_iv v fun x292 =>
        K287 l0 = 10 ∧ (0 ≤ am_wr (l4 + 1) ∧ am_wr (l4 + 1) < N288 l0) ∧ (k + 1 + 0 ≤ 601024 ∧ n + 6 + 0 ≤ 7293033) ∧ K287 l2 = 8 ∧ am_C (d - 1) m_X8_lost [am_r l2, am_i (I289 l0 (Int.toNat (am_wr (l4 + 1))))] K287 N288 I289 P290 z291 (fun v K294 N295 I296 P297 z298 => am_iv v fun x300 =>
        (k + 1 + 0 ≤ 601024 ∧ n + 6 + 0 ≤ 7293033) ∧ K294 l2 = 8 ∧ am_C (d - 1) m_X8_thrown [am_r l2] K294 N295 I296 P297 z298 (fun v K301 N302 I303 P304 z305 => am_iv v fun x307 =>
        ((x307 = x292 →
        ((¬ x292 = 0 →
          L_L_law_23 d (k + 1) (n + 6) l0 l1 l2 l3 (am_wr (l4 + 4)) K301 N302 I303 P304 z305 Q) ∧
          (x292 = 0 →
          K301 l3 = 14 ∧ (0 ≤ (0 : Int) ∧ (0 : Int) < N302 l3) ∧ ((I303 l3 0 = x300 →
            L_L_law_23 d (k + 1) (n + 6) l0 l1 l2 l3 (am_wr (l4 + 4)) K301 N302 I303 P304 z305 Q) ∧
            (¬ (I303 l3 0 = x300) →
            (k + 1 ≤ 601024 ∧ n + 6 ≤ 7293033) ∧ Q (am_i 0) K301 N302 I303 P304 z305))))) ∧
        (¬ (x307 = x292) →
        (k + 1 ≤ 601024 ∧ n + 6 ≤ 7293033) ∧ Q (am_i 0) K301 N302 I303 P304 z305))) am_nx) am_nx) am_nx) ∧
      (am_wr ((Int32.ofInt (I l0 (Int.toNat l4)) &&& Int32.ofInt 31).toInt) = 14 →
      (0 ≤ am_wr (l4 + 1) ∧ am_wr (l4 + 1) < N l0) ∧ (k + 1 ≤ 601024 ∧ n + 6 ≤ 7293033) ∧ am_C (d - 1) m_L_setting [am_r l1, am_i (I l0 (Int.toNat (am_wr (l4 + 1)))), am_r l3] K N I P z (fun v K309 N310 I311 P312 z313 => am_iv v fun x314 =>
        K309 l0 = 10 ∧ (0 ≤ am_wr (l4 + 1) ∧ am_wr (l4 + 1) < N310 l0) ∧ (k + 1 + 0 ≤ 601024 ∧ n + 6 + 0 ≤ 7293033) ∧ K309 l2 = 8 ∧ am_C (d - 1) m_X8_setting [am_r l2, am_i (I311 l0 (Int.toNat (am_wr (l4 + 1))))] K309 N310 I311 P312 z313 (fun v K316 N317 I318 P319 z320 => am_iv v fun x322 =>
        (k + 1 + 0 ≤ 601024 ∧ n + 6 + 0 ≤ 7293033) ∧ K316 l2 = 8 ∧ am_C (d - 1) m_X8_thrown [am_r l2] K316 N317 I318 P319 z320 (fun v K323 N324 I325 P326 z327 => am_iv v fun x329 =>
        ((x329 = x314 →
        ((¬ x314 = 0 →
          L_L_law_23 d (k + 1) (n + 6) l0 l1 l2 l3 (am_wr (l4 + 4)) K323 N324 I325 P326 z327 Q) ∧
          (x314 = 0 →
          K323 l3 = 14 ∧ (0 ≤ (0 : Int) ∧ (0 : Int) < N324 l3) ∧ ((I325 l3 0 = x322 →
            L_L_law_23 d (k + 1) (n + 6) l0 l1 l2 l3 (am_wr (l4 + 4)) K323 N324 I325 P326 z327 Q) ∧
            (¬ (I325 l3 0 = x322) →
            (k + 1 ≤ 601024 ∧ n + 6 ≤ 7293033) ∧ Q (am_i 0) K323 N324 I325 P326 z327))))) ∧
        (¬ (x329 = x314) →
        (k + 1 ≤ 601024 ∧ n + 6 ≤ 7293033) ∧ Q (am_i 0) K323 N324 I325 P326 z327))) am_nx) am_nx) am_nx) ∧
      (am_wr ((Int32.ofInt (I l0 (Int.toNat l4)) &&& Int32.ofInt 31).toInt) = 15 →
      (0 ≤ am_wr (l4 + 1) ∧ am_wr (l4 + 1) < N l0) ∧ (k + 1 ≤ 601024 ∧ n + 6 ≤ 7293033) ∧ am_C (d - 1) m_L_routeAt [am_r l1, am_i (I l0 (Int.toNat (am_wr (l4 + 1)))), am_r l3] K N I P z (fun v K331 N332 I333 P334 z335 => am_iv v fun x336 =>
        K331 l0 = 10 ∧ (0 ≤ am_wr (l4 + 1) ∧ am_wr (l4 + 1) < N332 l0) ∧ (k + 1 + 0 ≤ 601024 ∧ n + 6 + 0 ≤ 7293033) ∧ K331 l2 = 8 ∧ am_C (d - 1) m_X8_routeAt [am_r l2, am_i (I333 l0 (Int.toNat (am_wr (l4 + 1))))] K331 N332 I333 P334 z335 (fun v K338 N339 I340 P341 z342 => am_iv v fun x344 =>
        (k + 1 + 0 ≤ 601024 ∧ n + 6 + 0 ≤ 7293033) ∧ K338 l2 = 8 ∧ am_C (d - 1) m_X8_thrown [am_r l2] K338 N339 I340 P341 z342 (fun v K345 N346 I347 P348 z349 => am_iv v fun x351 =>
        ((x351 = x336 →
        ((¬ x336 = 0 →
          L_L_law_23 d (k + 1) (n + 6) l0 l1 l2 l3 (am_wr (l4 + 4)) K345 N346 I347 P348 z349 Q) ∧
          (x336 = 0 →
          K345 l3 = 14 ∧ (0 ≤ (0 : Int) ∧ (0 : Int) < N346 l3) ∧ ((I347 l3 0 = x344 →
            L_L_law_23 d (k + 1) (n + 6) l0 l1 l2 l3 (am_wr (l4 + 4)) K345 N346 I347 P348 z349 Q) ∧
            (¬ (I347 l3 0 = x344) →
            (k + 1 ≤ 601024 ∧ n + 6 ≤ 7293033) ∧ Q (am_i 0) K345 N346 I347 P348 z349))))) ∧
        (¬ (x351 = x336) →
        (k + 1 ≤ 601024 ∧ n + 6 ≤ 7293033) ∧ Q (am_i 0) K345 N346 I347 P348 z349))) am_nx) am_nx) am_nx) ∧
      (am_wr ((Int32.ofInt (I l0 (Int.toNat l4)) &&& Int32.ofInt 31).toInt) = 16 →
      (0 ≤ am_wr (l4 + 1) ∧ am_wr (l4 + 1) < N l0) ∧ (k + 1 ≤ 601024 ∧ n + 6 ≤ 7293033) ∧ am_C (d - 1) m_L_gapAhead [am_r l1, am_i (I l0 (Int.toNat (am_wr (l4 + 1)))), am_r l3] K N I P z (fun v K353 N354 I355 P356 z357 => am_iv v fun x358 =>
        K353 l0 = 10 ∧ (0 ≤ am_wr (l4 + 1) ∧ am_wr (l4 + 1) < N354 l0) ∧ (k + 1 + 0 ≤ 601024 ∧ n + 6 + 0 ≤ 7293033) ∧ K353 l2 = 8 ∧ am_C (d - 1) m_X8_gapAhead [am_r l2, am_i (I355 l0 (Int.toNat (am_wr (l4 + 1))))] K353 N354 I355 P356 z357 (fun v K360 N361 I362 P363 z364 => am_iv v fun x366 =>
        (k + 1 + 0 ≤ 601024 ∧ n + 6 + 0 ≤ 7293033) ∧ K360 l2 = 8 ∧ am_C (d - 1) m_X8_thrown [am_r l2] K360 N361 I362 P363 z364 (fun v K367 N368 I369 P370 z371 => am_iv v fun x373 =>
        ((x373 = x358 →
        ((¬ x358 = 0 →
          L_L_law_23 d (k + 1) (n + 6) l0 l1 l2 l3 (am_wr (l4 + 4)) K367 N368 I369 P370 z371 Q) ∧
          (x358 = 0 →
          K367 l3 = 14 ∧ (0 ≤ (0 : Int) ∧ (0 : Int) < N368 l3) ∧ ((I369 l3 0 = x366 →
            L_L_law_23 d (k + 1) (n + 6) l0 l1 l2 l3 (am_wr (l4 + 4)) K367 N368 I369 P370 z371 Q) ∧
            (¬ (I369 l3 0 = x366) →
            (k + 1 ≤ 601024 ∧ n + 6 ≤ 7293033) ∧ Q (am_i 0) K367 N368 I369 P370 z371))))) ∧
        (¬ (x373 = x358) →
        (k + 1 ≤ 601024 ∧ n + 6 ≤ 7293033) ∧ Q (am_i 0) K367 N368 I369 P370 z371))) am_nx) am_nx) am_nx) ∧
      (am_wr ((Int32.ofInt (I l0 (Int.toNat l4)) &&& Int32.ofInt 31).toInt) = 17 →
      (0 ≤ am_wr (l4 + 1) ∧ am_wr (l4 + 1) < N l0) ∧ (k + 1 ≤ 601024 ∧ n + 6 ≤ 7293033) ∧ am_C (d - 1) m_L_ranked [am_r l1, am_i (I l0 (Int.toNat (am_wr (l4 + 1)))), am_r l3] K N I P z (fun v K375 N376 I377 P378 z379 => am_iv v fun x380 =>
        K375 l0 = 10 ∧ (0 ≤ am_wr (l4 + 1) ∧ am_wr (l4 + 1) < N376 l0) ∧ (k + 1 + 0 ≤ 601024 ∧ n + 6 + 0 ≤ 7293033) ∧ K375 l2 = 8 ∧ am_C (d - 1) m_X8_ranked [am_r l2, am_i (I377 l0 (Int.toNat (am_wr (l4 + 1))))] K375 N376 I377 P378 z379 (fun v K382 N383 I384 P385 z386 => am_iv v fun x388 =>
        (k + 1 + 0 ≤ 601024 ∧ n + 6 + 0 ≤ 7293033) ∧ K382 l2 = 8 ∧ am_C (d - 1) m_X8_thrown [am_r l2] K382 N383 I384 P385 z386 (fun v K389 N390 I391 P392 z393 => am_iv v fun x395 =>
        ((x395 = x380 →
        ((¬ x380 = 0 →
          L_L_law_23 d (k + 1) (n + 6) l0 l1 l2 l3 (am_wr (l4 + 4)) K389 N390 I391 P392 z393 Q) ∧
          (x380 = 0 →
          K389 l3 = 14 ∧ (0 ≤ (0 : Int) ∧ (0 : Int) < N390 l3) ∧ ((I391 l3 0 = x388 →
            L_L_law_23 d (k + 1) (n + 6) l0 l1 l2 l3 (am_wr (l4 + 4)) K389 N390 I391 P392 z393 Q) ∧
            (¬ (I391 l3 0 = x388) →
            (k + 1 ≤ 601024 ∧ n + 6 ≤ 7293033) ∧ Q (am_i 0) K389 N390 I391 P392 z393))))) ∧
        (¬ (x395 = x380) →
        (k + 1 ≤ 601024 ∧ n + 6 ≤ 7293033) ∧ Q (am_i 0) K389 N390 I391 P392 z393))) am_nx) am_nx) am_nx) ∧
      (am_wr ((Int32.ofInt (I l0 (Int.toNat l4)) &&& Int32.ofInt 31).toInt) = 18 →
      (k + 0 ≤ 601024 ∧ n + 0 ≤ 7293033) ∧ K l1 = 7 ∧ am_C (d - 1) m_X7_share [am_r l1] K N I P z (fun v K397 N398 I399 P400 z401 => am_dv v fun x403 =>
        (k + 0 ≤ 601024 ∧ n + 0 ≤ 7293033) ∧ K397 l2 = 8 ∧ am_C (d - 1) m_X8_share [am_r l2] K397 N398 I399 P400 z401 (fun v K404 N405 I406 P407 z408 => am_dv v fun x410 =>
        (((Op.cmpValue (FP.dcmp x403 x410) CmpOp.l).toInt = 0 →
        L_L_law_23 d k n l0 l1 l2 l3 (am_wr (l4 + 4)) K404 N405 I406 P407 z408 Q) ∧
        (¬ ((Op.cmpValue (FP.dcmp x403 x410) CmpOp.l).toInt = 0) →
        (((Op.cmpValue (FP.dcmp x403 x403) CmpOp.l).toInt = 0 →
          (k ≤ 601024 ∧ n ≤ 7293033) ∧ Q (am_i 0) K404 N405 I406 P407 z408) ∧
          (¬ ((Op.cmpValue (FP.dcmp x403 x403) CmpOp.l).toInt = 0) →
          ((¬ (Op.cmpValue (FP.dcmp x410 x410) CmpOp.l).toInt = 0 →
            L_L_law_23 d k n l0 l1 l2 l3 (am_wr (l4 + 4)) K404 N405 I406 P407 z408 Q) ∧
            ((Op.cmpValue (FP.dcmp x410 x410) CmpOp.l).toInt = 0 →
            (k ≤ 601024 ∧ n ≤ 7293033) ∧ Q (am_i 0) K404 N405 I406 P407 z408))))))) am_nx) am_nx) ∧
      (am_wr ((Int32.ofInt (I l0 (Int.toNat l4)) &&& Int32.ofInt 31).toInt) = 19 →
      (0 ≤ am_wr (l4 + 1) ∧ am_wr (l4 + 1) < N l0) ∧ (k + 1 ≤ 601024 ∧ n + 6 ≤ 7293033) ∧ am_C (d - 1) m_L_fateOf [am_r l1, am_i (I l0 (Int.toNat (am_wr (l4 + 1)))), am_r l3] K N I P z (fun v K411 N412 I413 P414 z415 => am_iv v fun x416 =>
        K411 l0 = 10 ∧ (0 ≤ am_wr (l4 + 1) ∧ am_wr (l4 + 1) < N412 l0) ∧ (k + 1 + 0 ≤ 601024 ∧ n + 6 + 0 ≤ 7293033) ∧ K411 l2 = 8 ∧ am_C (d - 1) m_X8_fateOf [am_r l2, am_i (I413 l0 (Int.toNat (am_wr (l4 + 1))))] K411 N412 I413 P414 z415 (fun v K418 N419 I420 P421 z422 => am_iv v fun x424 =>
        (k + 1 + 0 ≤ 601024 ∧ n + 6 + 0 ≤ 7293033) ∧ K418 l2 = 8 ∧ am_C (d - 1) m_X8_thrown [am_r l2] K418 N419 I420 P421 z422 (fun v K425 N426 I427 P428 z429 => am_iv v fun x431 =>
        ((x431 = x416 →
        ((¬ x416 = 0 →
          L_L_law_23 d (k + 1) (n + 6) l0 l1 l2 l3 (am_wr (l4 + 4)) K425 N426 I427 P428 z429 Q) ∧
          (x416 = 0 →
          K425 l3 = 14 ∧ (0 ≤ (0 : Int) ∧ (0 : Int) < N426 l3) ∧ ((I427 l3 0 = x424 →
            L_L_law_23 d (k + 1) (n + 6) l0 l1 l2 l3 (am_wr (l4 + 4)) K425 N426 I427 P428 z429 Q) ∧
            (¬ (I427 l3 0 = x424) →
            (k + 1 ≤ 601024 ∧ n + 6 ≤ 7293033) ∧ Q (am_i 0) K425 N426 I427 P428 z429))))) ∧
        (¬ (x431 = x416) →
        (k + 1 ≤ 601024 ∧ n + 6 ≤ 7293033) ∧ Q (am_i 0) K425 N426 I427 P428 z429))) am_nx) am_nx) am_nx) ∧
      (am_wr ((Int32.ofInt (I l0 (Int.toNat l4)) &&& Int32.ofInt 31).toInt) = 20 →
      (k + 0 ≤ 601024 ∧ n + 0 ≤ 7293033) ∧ K l1 = 7 ∧ am_C (d - 1) m_X7_entryIn [am_r l1] K N I P z (fun v K433 N434 I435 P436 z437 => am_iv v fun x439 =>
        (k + 0 ≤ 601024 ∧ n + 0 ≤ 7293033) ∧ K433 l2 = 8 ∧ am_C (d - 1) m_X8_entryIn [am_r l2] K433 N434 I435 P436 z437 (fun v K440 N441 I442 P443 z444 => am_iv v fun x446 =>
        ((x439 = x446 →
        L_L_law_23 d k n l0 l1 l2 l3 (am_wr (l4 + 4)) K440 N441 I442 P443 z444 Q) ∧
        (¬ (x439 = x446) →
        (k ≤ 601024 ∧ n ≤ 7293033) ∧ Q (am_i 0) K440 N441 I442 P443 z444))) am_nx) am_nx) ∧
      (am_wr ((Int32.ofInt (I l0 (Int.toNat l4)) &&& Int32.ofInt 31).toInt) = 21 →
      (k + 0 ≤ 601024 ∧ n + 0 ≤ 7293033) ∧ K l1 = 7 ∧ am_C (d - 1) m_X7_nextLeaving [am_r l1] K N I P z (fun v K447 N448 I449 P450 z451 => am_iv v fun x453 =>
        (k + 0 ≤ 601024 ∧ n + 0 ≤ 7293033) ∧ K447 l2 = 8 ∧ am_C (d - 1) m_X8_nextLeaving [am_r l2] K447 N448 I449 P450 z451 (fun v K454 N455 I456 P457 z458 => am_iv v fun x460 =>
        ((x453 = x460 →
        L_L_law_23 d k n l0 l1 l2 l3 (am_wr (l4 + 4)) K454 N455 I456 P457 z458 Q) ∧
        (¬ (x453 = x460) →
        (k ≤ 601024 ∧ n ≤ 7293033) ∧ Q (am_i 0) K454 N455 I456 P457 z458))) am_nx) am_nx) ∧
      (am_wr ((Int32.ofInt (I l0 (Int.toNat l4)) &&& Int32.ofInt 31).toInt) = 22 →
      (0 ≤ am_wr (l4 + 1) ∧ am_wr (l4 + 1) < N l0) ∧ (0 ≤ am_wr (l4 + 2) ∧ am_wr (l4 + 2) < N l0) ∧ (k + 1 ≤ 601024 ∧ n + 6 ≤ 7293033) ∧ am_C (d - 1) m_L_laneFor [am_r l1, am_i (I l0 (Int.toNat (am_wr (l4 + 1)))), am_i (I l0 (Int.toNat (am_wr (l4 + 2)))), am_r l3] K N I P z (fun v K461 N462 I463 P464 z465 => am_iv v fun x466 =>
        K461 l0 = 10 ∧ (0 ≤ am_wr (l4 + 1) ∧ am_wr (l4 + 1) < N462 l0) ∧ (0 ≤ am_wr (l4 + 2) ∧ am_wr (l4 + 2) < N462 l0) ∧ (k + 1 + 0 ≤ 601024 ∧ n + 6 + 0 ≤ 7293033) ∧ K461 l2 = 8 ∧ am_C (d - 1) m_X8_laneFor [am_r l2, am_i (I463 l0 (Int.toNat (am_wr (l4 + 1)))), am_i (I463 l0 (Int.toNat (am_wr (l4 + 2))))] K461 N462 I463 P464 z465 (fun v K468 N469 I470 P471 z472 => am_iv v fun x474 =>
        (k + 1 + 0 ≤ 601024 ∧ n + 6 + 0 ≤ 7293033) ∧ K468 l2 = 8 ∧ am_C (d - 1) m_X8_thrown [am_r l2] K468 N469 I470 P471 z472 (fun v K475 N476 I477 P478 z479 => am_iv v fun x481 =>
        ((x481 = x466 →
        ((¬ x466 = 0 →
          L_L_law_23 d (k + 1) (n + 6) l0 l1 l2 l3 (am_wr (l4 + 4)) K475 N476 I477 P478 z479 Q) ∧
          (x466 = 0 →
          K475 l3 = 14 ∧ (0 ≤ (0 : Int) ∧ (0 : Int) < N476 l3) ∧ ((I477 l3 0 = x474 →
            L_L_law_23 d (k + 1) (n + 6) l0 l1 l2 l3 (am_wr (l4 + 4)) K475 N476 I477 P478 z479 Q) ∧
            (¬ (I477 l3 0 = x474) →
            (k + 1 ≤ 601024 ∧ n + 6 ≤ 7293033) ∧ Q (am_i 0) K475 N476 I477 P478 z479))))) ∧
        (¬ (x481 = x466) →
        (k + 1 ≤ 601024 ∧ n + 6 ≤ 7293033) ∧ Q (am_i 0) K475 N476 I477 P478 z479))) am_nx) am_nx) am_nx) ∧
      (am_wr ((Int32.ofInt (I l0 (Int.toNat l4)) &&& Int32.ofInt 31).toInt) = 23 →
      (0 ≤ am_wr (l4 + 1) ∧ am_wr (l4 + 1) < N l0) ∧ (k + 1 ≤ 601024 ∧ n + 6 ≤ 7293033) ∧ am_C (d - 1) m_L_append [am_r l1, am_i (I l0 (Int.toNat (am_wr (l4 + 1)))), am_r l3] K N I P z (fun v K483 N484 I485 P486 z487 => am_iv v fun x488 =>
        K483 l0 = 10 ∧ (0 ≤ am_wr (l4 + 1) ∧ am_wr (l4 + 1) < N484 l0) ∧ (k + 1 + 0 ≤ 601024 ∧ n + 6 + 0 ≤ 7293033) ∧ K483 l2 = 8 ∧ am_C (d - 1) m_X8_append [am_r l2, am_i (I485 l0 (Int.toNat (am_wr (l4 + 1))))] K483 N484 I485 P486 z487 (fun v K490 N491 I492 P493 z494 => am_iv v fun x496 =>
        (k + 1 + 0 ≤ 601024 ∧ n + 6 + 0 ≤ 7293033) ∧ K490 l2 = 8 ∧ am_C (d - 1) m_X8_thrown [am_r l2] K490 N491 I492 P493 z494 (fun v K497 N498 I499 P500 z501 => am_iv v fun x503 =>
        ((x503 = x488 →
        ((¬ x488 = 0 →
          L_L_law_23 d (k + 1) (n + 6) l0 l1 l2 l3 (am_wr (l4 + 4)) K497 N498 I499 P500 z501 Q) ∧
          (x488 = 0 →
          K497 l3 = 14 ∧ (0 ≤ (0 : Int) ∧ (0 : Int) < N498 l3) ∧ ((I499 l3 0 = x496 →
            L_L_law_23 d (k + 1) (n + 6) l0 l1 l2 l3 (am_wr (l4 + 4)) K497 N498 I499 P500 z501 Q) ∧
            (¬ (I499 l3 0 = x496) →
            (k + 1 ≤ 601024 ∧ n + 6 ≤ 7293033) ∧ Q (am_i 0) K497 N498 I499 P500 z501))))) ∧
        (¬ (x503 = x488) →
        (k + 1 ≤ 601024 ∧ n + 6 ≤ 7293033) ∧ Q (am_i 0) K497 N498 I499 P500 z501))) am_nx) am_nx) am_nx) ∧
      (am_wr ((Int32.ofInt (I l0 (Int.toNat l4)) &&& Int32.ofInt 31).toInt) = 24 →
      (k + 0 ≤ 601024 ∧ n + 0 ≤ 7293033) ∧ K l1 = 7 ∧ am_C (d - 1) m_X7_clear [am_r l1] K N I P z (fun v K505 N506 I507 P508 z509 => am_iv v fun x511 =>
        (k + 0 ≤ 601024 ∧ n + 0 ≤ 7293033) ∧ K505 l2 = 8 ∧ am_C (d - 1) m_X8_clear [am_r l2] K505 N506 I507 P508 z509 (fun v K512 N513 I514 P515 z516 => am_iv v fun x518 =>
        ((x511 = x518 →
        L_L_law_23 d k n l0 l1 l2 l3 (am_wr (l4 + 4)) K512 N513 I514 P515 z516 Q) ∧
        (¬ (x511 = x518) →
        (k ≤ 601024 ∧ n ≤ 7293033) ∧ Q (am_i 0) K512 N513 I514 P515 z516))) am_nx) am_nx) ∧
      (am_wr ((Int32.ofInt (I l0 (Int.toNat l4)) &&& Int32.ofInt 31).toInt) = 25 →
      (k + 0 ≤ 601024 ∧ n + 0 ≤ 7293033) ∧ K l1 = 7 ∧ am_C (d - 1) m_X7_errorPosition [am_r l1] K N I P z (fun v K519 N520 I521 P522 z523 => am_iv v fun x525 =>
        (k + 0 ≤ 601024 ∧ n + 0 ≤ 7293033) ∧ K519 l2 = 8 ∧ am_C (d - 1) m_X8_errorPosition [am_r l2] K519 N520 I521 P522 z523 (fun v K526 N527 I528 P529 z530 => am_iv v fun x532 =>
        ((x525 = x532 →
        L_L_law_23 d k n l0 l1 l2 l3 (am_wr (l4 + 4)) K526 N527 I528 P529 z530 Q) ∧
        (¬ (x525 = x532) →
        (k ≤ 601024 ∧ n ≤ 7293033) ∧ Q (am_i 0) K526 N527 I528 P529 z530))) am_nx) am_nx) ∧
      (am_wr ((Int32.ofInt (I l0 (Int.toNat l4)) &&& Int32.ofInt 31).toInt) = 26 →
      (k + 5 ≤ 601024 ∧ n + 326 ≤ 7293033) ∧ am_C (d - 1) m_L_load [am_r l1, am_r l3] K N I P z (fun v K533 N534 I535 P536 z537 => am_iv v fun x538 =>
        (k + 5 + 0 ≤ 601024 ∧ n + 326 + 0 ≤ 7293033) ∧ K533 l2 = 8 ∧ am_C (d - 1) m_X8_load [am_r l2] K533 N534 I535 P536 z537 (fun v K539 N540 I541 P542 z543 => am_iv v fun x545 =>
        (k + 5 + 0 ≤ 601024 ∧ n + 326 + 0 ≤ 7293033) ∧ K539 l2 = 8 ∧ am_C (d - 1) m_X8_thrown [am_r l2] K539 N540 I541 P542 z543 (fun v K546 N547 I548 P549 z550 => am_iv v fun x552 =>
        ((x552 = x538 →
        ((¬ x538 = 0 →
          L_L_law_23 d (k + 5) (n + 326) l0 l1 l2 l3 (am_wr (l4 + 4)) K546 N547 I548 P549 z550 Q) ∧
          (x538 = 0 →
          K546 l3 = 14 ∧ (0 ≤ (0 : Int) ∧ (0 : Int) < N547 l3) ∧ ((I548 l3 0 = x545 →
            L_L_law_23 d (k + 5) (n + 326) l0 l1 l2 l3 (am_wr (l4 + 4)) K546 N547 I548 P549 z550 Q) ∧
            (¬ (I548 l3 0 = x545) →
            (k + 5 ≤ 601024 ∧ n + 326 ≤ 7293033) ∧ Q (am_i 0) K546 N547 I548 P549 z550))))) ∧
        (¬ (x552 = x538) →
        (k + 5 ≤ 601024 ∧ n + 326 ≤ 7293033) ∧ Q (am_i 0) K546 N547 I548 P549 z550))) am_nx) am_nx) am_nx) ∧
      ((am_wr ((Int32.ofInt (I l0 (Int.toNat l4)) &&& Int32.ofInt 31).toInt) < 0 ∨ 26 < am_wr ((Int32.ofInt (I l0 (Int.toNat l4)) &&& Int32.ofInt 31).toInt)) →
      L_L_law_23 d k n l0 l1 l2 l3 (am_wr (l4 + 4)) K N I P z Q))))) :
  L_L_law_23 d k n l0 l1 l2 l3 l4 K N I P z Q := by
  unfold L_L_law_23
  refine e_iload dL_law_23 rfl ?_
  refine e_aload_n dL_law_25 rfl trivial ?_
  obtain ⟨ha4, hn9, h⟩ := h
  refine e_alenC dL_law_26 ha4 hn9 ?_
  refine e_iconst dL_law_27 ?_
  refine e_isub dL_law_28 ?_
  refine e_icmp_gt (tgt := 1551) dL_law_29 (by decide) (fun hc => ?_) (fun hc => ?_)
  · replace h := h.1 hc
    refine e_iconst dL_law_1551 ?_
    obtain ⟨⟨hk9, hn9⟩, h⟩ := h
    exact e_ret_z dL_law_1552 rfl (by decide) hk9 hn9 h
  · replace h := h.2 hc
    refine e_aload_n dL_law_32 rfl trivial ?_
    refine e_iload dL_law_33 rfl ?_
    obtain ⟨hK1, h⟩ := h
    obtain ⟨⟨h0, h1⟩, h⟩ := h
    refine e_iald dL_law_35 hK1 h0 h1 ?_
    refine e_bipush dL_law_36 ?_
    refine e_iand dL_law_38 ?_
    refine e_tsw dL_law_39 (by decide) (by decide) (by decide) ?_ ?_
    · refine ⟨fun hc => ?_, ⟨fun hc => ?_, ⟨fun hc => ?_, ⟨fun hc => ?_, ⟨fun hc => ?_, ⟨fun hc => ?_, ⟨fun hc => ?_, ⟨fun hc => ?_, ⟨fun hc => ?_, ⟨fun hc => ?_, ⟨fun hc => ?_, ⟨fun hc => ?_, ⟨fun hc => ?_, ⟨fun hc => ?_, ⟨fun hc => ?_, ⟨fun hc => ?_, ⟨fun hc => ?_, ⟨fun hc => ?_, ⟨fun hc => ?_, ⟨fun hc => ?_, ⟨fun hc => ?_, ⟨fun hc => ?_, ⟨fun hc => ?_, ⟨fun hc => ?_, ⟨fun hc => ?_, ⟨fun hc => ?_, ⟨fun hc => ?_, trivial⟩⟩⟩⟩⟩⟩⟩⟩⟩⟩⟩⟩⟩⟩⟩⟩⟩⟩⟩⟩⟩⟩⟩⟩⟩⟩⟩
      · have h := h.1 (by omega)
        show am_E _ _ 160 _ _ _ _ _ _ _ _ _ _ _
        refine e_aload_n dL_law_160 rfl trivial ?_
        refine e_aload_n dL_law_161 rfl trivial ?_
        refine e_iload dL_law_162 rfl ?_
        refine e_iconst dL_law_164 ?_
        refine e_iadd dL_law_165 ?_
        obtain ⟨⟨h0, h1⟩, h⟩ := h
        refine e_iald dL_law_166 hK1 h0 h1 ?_
        refine e_aload_n dL_law_167 rfl trivial ?_
        refine e_iload dL_law_168 rfl ?_
        refine e_iconst dL_law_170 ?_
        refine e_iadd dL_law_171 ?_
        obtain ⟨⟨h0, h1⟩, h⟩ := h
        refine e_iald dL_law_172 hK1 h0 h1 ?_
        refine e_aload_n dL_law_173 rfl trivial ?_
        obtain ⟨⟨hk9, hn9⟩, h⟩ := h
        refine e_callSX (Mc := m_L_set) (vs := [am_r l1, am_i (I l0 (Int.toNat (am_wr (l4 + 1)))), am_i (I l0 (Int.toNat (am_wr (l4 + 2)))), am_r l3]) (st := []) dL_law_174 ok_L_set rfl mk_L_89 sm_L_set rfl rfl (by omega) (Nat.le_of_ble_eq_true rfl) hk9 hn9 am_xh_nx (am_C_mono h (fun v K2 N3 I4 P5 z6 h => ?_) (fun _ _ _ _ _ _ h => h))
        replace h := am_iv_or h
        obtain ⟨x7, rfl, h⟩ := h
        show am_E d m_L_law 177 (k + 1) (n + 6) _ [am_i x7] K2 N3 I4 P5 z6 Q am_nx
        refine e_istore dL_law_177 ?_
        refine e_aload_n dL_law_179 rfl trivial ?_
        refine e_aload_n dL_law_180 rfl trivial ?_
        refine e_iload dL_law_181 rfl ?_
        refine e_iconst dL_law_183 ?_
        refine e_iadd dL_law_184 ?_
        obtain ⟨hK8, h⟩ := h
        obtain ⟨⟨h0, h1⟩, h⟩ := h
        refine e_iald dL_law_185 hK8 h0 h1 ?_
        refine e_aload_n dL_law_186 rfl trivial ?_
        refine e_iload dL_law_187 rfl ?_
        refine e_iconst dL_law_189 ?_
        refine e_iadd dL_law_190 ?_
        obtain ⟨⟨h0, h1⟩, h⟩ := h
        refine e_iald dL_law_191 hK8 h0 h1 ?_
        obtain ⟨⟨hk9, hn9⟩, h⟩ := h
        obtain ⟨hK14, h⟩ := h
        refine e_callV (Mc := m_X8_set) (vs := [am_i (I4 l0 (Int.toNat (am_wr (l4 + 1)))), am_i (I4 l0 (Int.toNat (am_wr (l4 + 2))))]) (st := []) dL_law_192 ok_X8_set rfl ⟨by decide, rfl⟩ mk_L_94 im_X8_set sl_X8_set rfl rfl hK14 (by omega) (Nat.le_of_ble_eq_true rfl) hk9 hn9 am_xh_nx (am_C_mono h (fun v K9 N10 I11 P12 z13 h => ?_) (fun _ _ _ _ _ _ h => h))
        replace h := am_iv_or h
        obtain ⟨x15, rfl, h⟩ := h
        show am_E d m_L_law 195 (k + 1) (n + 6) _ [am_i x15] K9 N10 I11 P12 z13 Q am_nx
        refine e_istore dL_law_195 ?_
        refine e_aload_n dL_law_197 rfl trivial ?_
        obtain ⟨⟨hk9, hn9⟩, h⟩ := h
        obtain ⟨hK21, h⟩ := h
        refine e_callV (Mc := m_X8_thrown) (vs := []) (st := []) dL_law_198 ok_X8_thrown rfl ⟨by decide, rfl⟩ mk_L_95 im_X8_thrown sl_X8_thrown rfl rfl hK21 (by omega) (Nat.le_of_ble_eq_true rfl) hk9 hn9 am_xh_nx (am_C_mono h (fun v K16 N17 I18 P19 z20 h => ?_) (fun _ _ _ _ _ _ h => h))
        replace h := am_iv_or h
        obtain ⟨x22, rfl, h⟩ := h
        show am_E d m_L_law 201 (k + 1) (n + 6) _ [am_i x22] K16 N17 I18 P19 z20 Q am_nx
        refine e_iload dL_law_201 rfl ?_
        refine e_icmp_eq (tgt := 208) dL_law_203 (by decide) (fun hc => ?_) (fun hc => ?_)
        · replace h := h.1 hc
          refine e_iload dL_law_208 rfl ?_
          refine e_if_ne (tgt := 225) dL_law_210 (by decide) (fun hc => ?_) (fun hc => ?_)
          · replace h := h.1 hc
            refine e_goto (tgt := 1545) dL_law_225 (by decide) ?_
            refine e_iinc dL_law_1545 rfl ?_
            refine e_goto (tgt := 23) dL_law_1548 (by decide) ?_
            exact e_forget (am_sub_k (am_sub_k (am_sub_k (am_sub_k (am_sub_k (am_sub_d (am_sub_d (am_sub_d (am_sub_d am_sub_nil))))))))) h
          · replace h := h.2 hc
            refine e_aload_n dL_law_213 rfl trivial ?_
            refine e_iconst dL_law_214 ?_
            obtain ⟨hK23, h⟩ := h
            obtain ⟨⟨h0, h1⟩, h⟩ := h
            refine e_lald dL_law_215 hK23 h0 h1 ?_
            show am_E _ _ _ _ _ _ (am_j (I18 l3 0) :: _) _ _ _ _ _ _ _
            refine e_iload dL_law_216 rfl ?_
            refine e_i2l dL_law_218 ?_
            refine e_lcmp dL_law_219 (fun hc => ?_) (fun hc v hv => ?_)
            · replace h := h.1 hc
              refine e_if_eq (tgt := 225) dL_law_220 (by decide) (fun _ => ?_) (fun q => absurd rfl q)
              refine e_goto (tgt := 1545) dL_law_225 (by decide) ?_
              refine e_iinc dL_law_1545 rfl ?_
              refine e_goto (tgt := 23) dL_law_1548 (by decide) ?_
              exact e_forget (am_sub_k (am_sub_k (am_sub_k (am_sub_k (am_sub_k (am_sub_d (am_sub_d (am_sub_d (am_sub_d am_sub_nil))))))))) h
            · replace h := h.2 hc
              refine e_if_eq (tgt := 225) dL_law_220 (by decide) (fun q => absurd q hv) (fun _ => ?_)
              refine e_iconst dL_law_223 ?_
              obtain ⟨⟨hk9, hn9⟩, h⟩ := h
              exact e_ret_z dL_law_224 rfl (by decide) hk9 hn9 h
        · replace h := h.2 hc
          refine e_iconst dL_law_206 ?_
          obtain ⟨⟨hk9, hn9⟩, h⟩ := h
          exact e_ret_z dL_law_207 rfl (by decide) hk9 hn9 h
      · have h := h.2.1 (by omega)
        show am_E _ _ 228 _ _ _ _ _ _ _ _ _ _ _
        refine e_aload_n dL_law_228 rfl trivial ?_
        refine e_aload_n dL_law_229 rfl trivial ?_
        refine e_iload dL_law_230 rfl ?_
        refine e_iconst dL_law_232 ?_
        refine e_iadd dL_law_233 ?_
        obtain ⟨⟨h0, h1⟩, h⟩ := h
        refine e_iald dL_law_234 hK1 h0 h1 ?_
        refine e_aload_n dL_law_235 rfl trivial ?_
        refine e_iload dL_law_236 rfl ?_
        refine e_iconst dL_law_238 ?_
        refine e_iadd dL_law_239 ?_
        obtain ⟨⟨h0, h1⟩, h⟩ := h
        refine e_iald dL_law_240 hK1 h0 h1 ?_
        refine e_aload_n dL_law_241 rfl trivial ?_
        refine e_iload dL_law_242 rfl ?_
        refine e_iconst dL_law_244 ?_
        refine e_iadd dL_law_245 ?_
        obtain ⟨⟨h0, h1⟩, h⟩ := h
        refine e_iald dL_law_246 hK1 h0 h1 ?_
        refine e_aload_n dL_law_247 rfl trivial ?_
        obtain ⟨⟨hk9, hn9⟩, h⟩ := h
        refine e_callSX (Mc := m_L_addLane) (vs := [am_r l1, am_i (I l0 (Int.toNat (am_wr (l4 + 1)))), am_i (I l0 (Int.toNat (am_wr (l4 + 2)))), am_i (I l0 (Int.toNat (am_wr (l4 + 3)))), am_r l3]) (st := []) dL_law_248 ok_L_addLane rfl mk_L_98 sm_L_addLane rfl rfl (by omega) (Nat.le_of_ble_eq_true rfl) hk9 hn9 am_xh_nx (am_C_mono h (fun v K24 N25 I26 P27 z28 h => ?_) (fun _ _ _ _ _ _ h => h))
        replace h := am_iv_or h
        obtain ⟨x29, rfl, h⟩ := h
        show am_E d m_L_law 251 (k + 1) (n + 6) _ [am_i x29] K24 N25 I26 P27 z28 Q am_nx
        refine e_istore dL_law_251 ?_
        refine e_aload_n dL_law_253 rfl trivial ?_
        refine e_aload_n dL_law_254 rfl trivial ?_
        refine e_iload dL_law_255 rfl ?_
        refine e_iconst dL_law_257 ?_
        refine e_iadd dL_law_258 ?_
        obtain ⟨hK30, h⟩ := h
        obtain ⟨⟨h0, h1⟩, h⟩ := h
        refine e_iald dL_law_259 hK30 h0 h1 ?_
        refine e_aload_n dL_law_260 rfl trivial ?_
        refine e_iload dL_law_261 rfl ?_
        refine e_iconst dL_law_263 ?_
        refine e_iadd dL_law_264 ?_
        obtain ⟨⟨h0, h1⟩, h⟩ := h
        refine e_iald dL_law_265 hK30 h0 h1 ?_
        refine e_aload_n dL_law_266 rfl trivial ?_
        refine e_iload dL_law_267 rfl ?_
        refine e_iconst dL_law_269 ?_
        refine e_iadd dL_law_270 ?_
        obtain ⟨⟨h0, h1⟩, h⟩ := h
        refine e_iald dL_law_271 hK30 h0 h1 ?_
        obtain ⟨⟨hk9, hn9⟩, h⟩ := h
        obtain ⟨hK36, h⟩ := h
        refine e_callV (Mc := m_X8_addLane) (vs := [am_i (I26 l0 (Int.toNat (am_wr (l4 + 1)))), am_i (I26 l0 (Int.toNat (am_wr (l4 + 2)))), am_i (I26 l0 (Int.toNat (am_wr (l4 + 3))))]) (st := []) dL_law_272 ok_X8_addLane rfl ⟨by decide, rfl⟩ mk_L_101 im_X8_addLane sl_X8_addLane rfl rfl hK36 (by omega) (Nat.le_of_ble_eq_true rfl) hk9 hn9 am_xh_nx (am_C_mono h (fun v K31 N32 I33 P34 z35 h => ?_) (fun _ _ _ _ _ _ h => h))
        replace h := am_iv_or h
        obtain ⟨x37, rfl, h⟩ := h
        show am_E d m_L_law 275 (k + 1) (n + 6) _ [am_i x37] K31 N32 I33 P34 z35 Q am_nx
        refine e_istore dL_law_275 ?_
        refine e_aload_n dL_law_277 rfl trivial ?_
        obtain ⟨⟨hk9, hn9⟩, h⟩ := h
        obtain ⟨hK43, h⟩ := h
        refine e_callV (Mc := m_X8_thrown) (vs := []) (st := []) dL_law_278 ok_X8_thrown rfl ⟨by decide, rfl⟩ mk_L_95 im_X8_thrown sl_X8_thrown rfl rfl hK43 (by omega) (Nat.le_of_ble_eq_true rfl) hk9 hn9 am_xh_nx (am_C_mono h (fun v K38 N39 I40 P41 z42 h => ?_) (fun _ _ _ _ _ _ h => h))
        replace h := am_iv_or h
        obtain ⟨x44, rfl, h⟩ := h
        show am_E d m_L_law 281 (k + 1) (n + 6) _ [am_i x44] K38 N39 I40 P41 z42 Q am_nx
        refine e_iload dL_law_281 rfl ?_
        refine e_icmp_eq (tgt := 288) dL_law_283 (by decide) (fun hc => ?_) (fun hc => ?_)
        · replace h := h.1 hc
          refine e_iload dL_law_288 rfl ?_
          refine e_if_ne (tgt := 305) dL_law_290 (by decide) (fun hc => ?_) (fun hc => ?_)
          · replace h := h.1 hc
            refine e_goto (tgt := 1545) dL_law_305 (by decide) ?_
            refine e_iinc dL_law_1545 rfl ?_
            refine e_goto (tgt := 23) dL_law_1548 (by decide) ?_
            exact e_forget (am_sub_k (am_sub_k (am_sub_k (am_sub_k (am_sub_k (am_sub_d (am_sub_d (am_sub_d (am_sub_d am_sub_nil))))))))) h
          · replace h := h.2 hc
            refine e_aload_n dL_law_293 rfl trivial ?_
            refine e_iconst dL_law_294 ?_
            obtain ⟨hK45, h⟩ := h
            obtain ⟨⟨h0, h1⟩, h⟩ := h
            refine e_lald dL_law_295 hK45 h0 h1 ?_
            show am_E _ _ _ _ _ _ (am_j (I40 l3 0) :: _) _ _ _ _ _ _ _
            refine e_iload dL_law_296 rfl ?_
            refine e_i2l dL_law_298 ?_
            refine e_lcmp dL_law_299 (fun hc => ?_) (fun hc v hv => ?_)
            · replace h := h.1 hc
              refine e_if_eq (tgt := 305) dL_law_300 (by decide) (fun _ => ?_) (fun q => absurd rfl q)
              refine e_goto (tgt := 1545) dL_law_305 (by decide) ?_
              refine e_iinc dL_law_1545 rfl ?_
              refine e_goto (tgt := 23) dL_law_1548 (by decide) ?_
              exact e_forget (am_sub_k (am_sub_k (am_sub_k (am_sub_k (am_sub_k (am_sub_d (am_sub_d (am_sub_d (am_sub_d am_sub_nil))))))))) h
            · replace h := h.2 hc
              refine e_if_eq (tgt := 305) dL_law_300 (by decide) (fun q => absurd q hv) (fun _ => ?_)
              refine e_iconst dL_law_303 ?_
              obtain ⟨⟨hk9, hn9⟩, h⟩ := h
              exact e_ret_z dL_law_304 rfl (by decide) hk9 hn9 h
        · replace h := h.2 hc
          refine e_iconst dL_law_286 ?_
          obtain ⟨⟨hk9, hn9⟩, h⟩ := h
          exact e_ret_z dL_law_287 rfl (by decide) hk9 hn9 h
      · have h := h.2.2.1 (by omega)
        show am_E _ _ 308 _ _ _ _ _ _ _ _ _ _ _
        refine e_aload_n dL_law_308 rfl trivial ?_
        refine e_aload_n dL_law_309 rfl trivial ?_
        refine e_iload dL_law_310 rfl ?_
        refine e_iconst dL_law_312 ?_
        refine e_iadd dL_law_313 ?_
        obtain ⟨⟨h0, h1⟩, h⟩ := h
        refine e_iald dL_law_314 hK1 h0 h1 ?_
        refine e_aload_n dL_law_315 rfl trivial ?_
        obtain ⟨⟨hk9, hn9⟩, h⟩ := h
        refine e_callSX (Mc := m_L_emptyLane) (vs := [am_r l1, am_i (I l0 (Int.toNat (am_wr (l4 + 1)))), am_r l3]) (st := []) dL_law_316 ok_L_emptyLane rfl mk_L_102 sm_L_emptyLane rfl rfl (by omega) (Nat.le_of_ble_eq_true rfl) hk9 hn9 am_xh_nx (am_C_mono h (fun v K46 N47 I48 P49 z50 h => ?_) (fun _ _ _ _ _ _ h => h))
        replace h := am_iv_or h
        obtain ⟨x51, rfl, h⟩ := h
        show am_E d m_L_law 319 (k + 1) (n + 6) _ [am_i x51] K46 N47 I48 P49 z50 Q am_nx
        refine e_istore dL_law_319 ?_
        refine e_aload_n dL_law_321 rfl trivial ?_
        refine e_aload_n dL_law_322 rfl trivial ?_
        refine e_iload dL_law_323 rfl ?_
        refine e_iconst dL_law_325 ?_
        refine e_iadd dL_law_326 ?_
        obtain ⟨hK52, h⟩ := h
        obtain ⟨⟨h0, h1⟩, h⟩ := h
        refine e_iald dL_law_327 hK52 h0 h1 ?_
        obtain ⟨⟨hk9, hn9⟩, h⟩ := h
        obtain ⟨hK58, h⟩ := h
        refine e_callV (Mc := m_X8_emptyLane) (vs := [am_i (I48 l0 (Int.toNat (am_wr (l4 + 1))))]) (st := []) dL_law_328 ok_X8_emptyLane rfl ⟨by decide, rfl⟩ mk_L_105 im_X8_emptyLane sl_X8_emptyLane rfl rfl hK58 (by omega) (Nat.le_of_ble_eq_true rfl) hk9 hn9 am_xh_nx (am_C_mono h (fun v K53 N54 I55 P56 z57 h => ?_) (fun _ _ _ _ _ _ h => h))
        replace h := am_iv_or h
        obtain ⟨x59, rfl, h⟩ := h
        show am_E d m_L_law 331 (k + 1) (n + 6) _ [am_i x59] K53 N54 I55 P56 z57 Q am_nx
        refine e_istore dL_law_331 ?_
        refine e_aload_n dL_law_333 rfl trivial ?_
        obtain ⟨⟨hk9, hn9⟩, h⟩ := h
        obtain ⟨hK65, h⟩ := h
        refine e_callV (Mc := m_X8_thrown) (vs := []) (st := []) dL_law_334 ok_X8_thrown rfl ⟨by decide, rfl⟩ mk_L_95 im_X8_thrown sl_X8_thrown rfl rfl hK65 (by omega) (Nat.le_of_ble_eq_true rfl) hk9 hn9 am_xh_nx (am_C_mono h (fun v K60 N61 I62 P63 z64 h => ?_) (fun _ _ _ _ _ _ h => h))
        replace h := am_iv_or h
        obtain ⟨x66, rfl, h⟩ := h
        show am_E d m_L_law 337 (k + 1) (n + 6) _ [am_i x66] K60 N61 I62 P63 z64 Q am_nx
        refine e_iload dL_law_337 rfl ?_
        refine e_icmp_eq (tgt := 344) dL_law_339 (by decide) (fun hc => ?_) (fun hc => ?_)
        · replace h := h.1 hc
          refine e_iload dL_law_344 rfl ?_
          refine e_if_ne (tgt := 361) dL_law_346 (by decide) (fun hc => ?_) (fun hc => ?_)
          · replace h := h.1 hc
            refine e_goto (tgt := 1545) dL_law_361 (by decide) ?_
            refine e_iinc dL_law_1545 rfl ?_
            refine e_goto (tgt := 23) dL_law_1548 (by decide) ?_
            exact e_forget (am_sub_k (am_sub_k (am_sub_k (am_sub_k (am_sub_k (am_sub_d (am_sub_d (am_sub_d (am_sub_d am_sub_nil))))))))) h
          · replace h := h.2 hc
            refine e_aload_n dL_law_349 rfl trivial ?_
            refine e_iconst dL_law_350 ?_
            obtain ⟨hK67, h⟩ := h
            obtain ⟨⟨h0, h1⟩, h⟩ := h
            refine e_lald dL_law_351 hK67 h0 h1 ?_
            show am_E _ _ _ _ _ _ (am_j (I62 l3 0) :: _) _ _ _ _ _ _ _
            refine e_iload dL_law_352 rfl ?_
            refine e_i2l dL_law_354 ?_
            refine e_lcmp dL_law_355 (fun hc => ?_) (fun hc v hv => ?_)
            · replace h := h.1 hc
              refine e_if_eq (tgt := 361) dL_law_356 (by decide) (fun _ => ?_) (fun q => absurd rfl q)
              refine e_goto (tgt := 1545) dL_law_361 (by decide) ?_
              refine e_iinc dL_law_1545 rfl ?_
              refine e_goto (tgt := 23) dL_law_1548 (by decide) ?_
              exact e_forget (am_sub_k (am_sub_k (am_sub_k (am_sub_k (am_sub_k (am_sub_d (am_sub_d (am_sub_d (am_sub_d am_sub_nil))))))))) h
            · replace h := h.2 hc
              refine e_if_eq (tgt := 361) dL_law_356 (by decide) (fun q => absurd q hv) (fun _ => ?_)
              refine e_iconst dL_law_359 ?_
              obtain ⟨⟨hk9, hn9⟩, h⟩ := h
              exact e_ret_z dL_law_360 rfl (by decide) hk9 hn9 h
        · replace h := h.2 hc
          refine e_iconst dL_law_342 ?_
          obtain ⟨⟨hk9, hn9⟩, h⟩ := h
          exact e_ret_z dL_law_343 rfl (by decide) hk9 hn9 h
      · have h := h.2.2.2.1 (by omega)
        show am_E _ _ 364 _ _ _ _ _ _ _ _ _ _ _
        refine e_aload_n dL_law_364 rfl trivial ?_
        refine e_aload_n dL_law_365 rfl trivial ?_
        refine e_iload dL_law_366 rfl ?_
        refine e_iconst dL_law_368 ?_
        refine e_iadd dL_law_369 ?_
        obtain ⟨⟨h0, h1⟩, h⟩ := h
        refine e_iald dL_law_370 hK1 h0 h1 ?_
        refine e_aload_n dL_law_371 rfl trivial ?_
        refine e_iload dL_law_372 rfl ?_
        refine e_iconst dL_law_374 ?_
        refine e_iadd dL_law_375 ?_
        obtain ⟨⟨h0, h1⟩, h⟩ := h
        refine e_iald dL_law_376 hK1 h0 h1 ?_
        refine e_aload_n dL_law_377 rfl trivial ?_
        obtain ⟨⟨hk9, hn9⟩, h⟩ := h
        refine e_callSX (Mc := m_L_route) (vs := [am_r l1, am_i (I l0 (Int.toNat (am_wr (l4 + 1)))), am_i (I l0 (Int.toNat (am_wr (l4 + 2)))), am_r l3]) (st := []) dL_law_378 ok_L_route rfl mk_L_106 sm_L_route rfl rfl (by omega) (Nat.le_of_ble_eq_true rfl) hk9 hn9 am_xh_nx (am_C_mono h (fun v K68 N69 I70 P71 z72 h => ?_) (fun _ _ _ _ _ _ h => h))
        replace h := am_iv_or h
        obtain ⟨x73, rfl, h⟩ := h
        show am_E d m_L_law 381 (k + 1) (n + 6) _ [am_i x73] K68 N69 I70 P71 z72 Q am_nx
        refine e_istore dL_law_381 ?_
        refine e_aload_n dL_law_383 rfl trivial ?_
        refine e_aload_n dL_law_384 rfl trivial ?_
        refine e_iload dL_law_385 rfl ?_
        refine e_iconst dL_law_387 ?_
        refine e_iadd dL_law_388 ?_
        obtain ⟨hK74, h⟩ := h
        obtain ⟨⟨h0, h1⟩, h⟩ := h
        refine e_iald dL_law_389 hK74 h0 h1 ?_
        refine e_aload_n dL_law_390 rfl trivial ?_
        refine e_iload dL_law_391 rfl ?_
        refine e_iconst dL_law_393 ?_
        refine e_iadd dL_law_394 ?_
        obtain ⟨⟨h0, h1⟩, h⟩ := h
        refine e_iald dL_law_395 hK74 h0 h1 ?_
        obtain ⟨⟨hk9, hn9⟩, h⟩ := h
        obtain ⟨hK80, h⟩ := h
        refine e_callV (Mc := m_X8_route) (vs := [am_i (I70 l0 (Int.toNat (am_wr (l4 + 1)))), am_i (I70 l0 (Int.toNat (am_wr (l4 + 2))))]) (st := []) dL_law_396 ok_X8_route rfl ⟨by decide, rfl⟩ mk_L_108 im_X8_route sl_X8_route rfl rfl hK80 (by omega) (Nat.le_of_ble_eq_true rfl) hk9 hn9 am_xh_nx (am_C_mono h (fun v K75 N76 I77 P78 z79 h => ?_) (fun _ _ _ _ _ _ h => h))
        replace h := am_iv_or h
        obtain ⟨x81, rfl, h⟩ := h
        show am_E d m_L_law 399 (k + 1) (n + 6) _ [am_i x81] K75 N76 I77 P78 z79 Q am_nx
        refine e_istore dL_law_399 ?_
        refine e_aload_n dL_law_401 rfl trivial ?_
        obtain ⟨⟨hk9, hn9⟩, h⟩ := h
        obtain ⟨hK87, h⟩ := h
        refine e_callV (Mc := m_X8_thrown) (vs := []) (st := []) dL_law_402 ok_X8_thrown rfl ⟨by decide, rfl⟩ mk_L_95 im_X8_thrown sl_X8_thrown rfl rfl hK87 (by omega) (Nat.le_of_ble_eq_true rfl) hk9 hn9 am_xh_nx (am_C_mono h (fun v K82 N83 I84 P85 z86 h => ?_) (fun _ _ _ _ _ _ h => h))
        replace h := am_iv_or h
        obtain ⟨x88, rfl, h⟩ := h
        show am_E d m_L_law 405 (k + 1) (n + 6) _ [am_i x88] K82 N83 I84 P85 z86 Q am_nx
        refine e_iload dL_law_405 rfl ?_
        refine e_icmp_eq (tgt := 412) dL_law_407 (by decide) (fun hc => ?_) (fun hc => ?_)
        · replace h := h.1 hc
          refine e_iload dL_law_412 rfl ?_
          refine e_if_ne (tgt := 429) dL_law_414 (by decide) (fun hc => ?_) (fun hc => ?_)
          · replace h := h.1 hc
            refine e_goto (tgt := 1545) dL_law_429 (by decide) ?_
            refine e_iinc dL_law_1545 rfl ?_
            refine e_goto (tgt := 23) dL_law_1548 (by decide) ?_
            exact e_forget (am_sub_k (am_sub_k (am_sub_k (am_sub_k (am_sub_k (am_sub_d (am_sub_d (am_sub_d (am_sub_d am_sub_nil))))))))) h
          · replace h := h.2 hc
            refine e_aload_n dL_law_417 rfl trivial ?_
            refine e_iconst dL_law_418 ?_
            obtain ⟨hK89, h⟩ := h
            obtain ⟨⟨h0, h1⟩, h⟩ := h
            refine e_lald dL_law_419 hK89 h0 h1 ?_
            show am_E _ _ _ _ _ _ (am_j (I84 l3 0) :: _) _ _ _ _ _ _ _
            refine e_iload dL_law_420 rfl ?_
            refine e_i2l dL_law_422 ?_
            refine e_lcmp dL_law_423 (fun hc => ?_) (fun hc v hv => ?_)
            · replace h := h.1 hc
              refine e_if_eq (tgt := 429) dL_law_424 (by decide) (fun _ => ?_) (fun q => absurd rfl q)
              refine e_goto (tgt := 1545) dL_law_429 (by decide) ?_
              refine e_iinc dL_law_1545 rfl ?_
              refine e_goto (tgt := 23) dL_law_1548 (by decide) ?_
              exact e_forget (am_sub_k (am_sub_k (am_sub_k (am_sub_k (am_sub_k (am_sub_d (am_sub_d (am_sub_d (am_sub_d am_sub_nil))))))))) h
            · replace h := h.2 hc
              refine e_if_eq (tgt := 429) dL_law_424 (by decide) (fun q => absurd q hv) (fun _ => ?_)
              refine e_iconst dL_law_427 ?_
              obtain ⟨⟨hk9, hn9⟩, h⟩ := h
              exact e_ret_z dL_law_428 rfl (by decide) hk9 hn9 h
        · replace h := h.2 hc
          refine e_iconst dL_law_410 ?_
          obtain ⟨⟨hk9, hn9⟩, h⟩ := h
          exact e_ret_z dL_law_411 rfl (by decide) hk9 hn9 h
      · have h := h.2.2.2.2.1 (by omega)
        show am_E _ _ 432 _ _ _ _ _ _ _ _ _ _ _
        refine e_aload_n dL_law_432 rfl trivial ?_
        refine e_aload_n dL_law_433 rfl trivial ?_
        refine e_iload dL_law_434 rfl ?_
        refine e_iconst dL_law_436 ?_
        refine e_iadd dL_law_437 ?_
        obtain ⟨⟨h0, h1⟩, h⟩ := h
        refine e_iald dL_law_438 hK1 h0 h1 ?_
        refine e_aload_n dL_law_439 rfl trivial ?_
        obtain ⟨⟨hk9, hn9⟩, h⟩ := h
        refine e_callSX (Mc := m_L_removeRoute) (vs := [am_r l1, am_i (I l0 (Int.toNat (am_wr (l4 + 1)))), am_r l3]) (st := []) dL_law_440 ok_L_removeRoute rfl mk_L_109 sm_L_removeRoute rfl rfl (by omega) (Nat.le_of_ble_eq_true rfl) hk9 hn9 am_xh_nx (am_C_mono h (fun v K90 N91 I92 P93 z94 h => ?_) (fun _ _ _ _ _ _ h => h))
        replace h := am_iv_or h
        obtain ⟨x95, rfl, h⟩ := h
        show am_E d m_L_law 443 (k + 1) (n + 6) _ [am_i x95] K90 N91 I92 P93 z94 Q am_nx
        refine e_istore dL_law_443 ?_
        refine e_aload_n dL_law_445 rfl trivial ?_
        refine e_aload_n dL_law_446 rfl trivial ?_
        refine e_iload dL_law_447 rfl ?_
        refine e_iconst dL_law_449 ?_
        refine e_iadd dL_law_450 ?_
        obtain ⟨hK96, h⟩ := h
        obtain ⟨⟨h0, h1⟩, h⟩ := h
        refine e_iald dL_law_451 hK96 h0 h1 ?_
        obtain ⟨⟨hk9, hn9⟩, h⟩ := h
        obtain ⟨hK102, h⟩ := h
        refine e_callV (Mc := m_X8_removeRoute) (vs := [am_i (I92 l0 (Int.toNat (am_wr (l4 + 1))))]) (st := []) dL_law_452 ok_X8_removeRoute rfl ⟨by decide, rfl⟩ mk_L_111 im_X8_removeRoute sl_X8_removeRoute rfl rfl hK102 (by omega) (Nat.le_of_ble_eq_true rfl) hk9 hn9 am_xh_nx (am_C_mono h (fun v K97 N98 I99 P100 z101 h => ?_) (fun _ _ _ _ _ _ h => h))
        replace h := am_iv_or h
        obtain ⟨x103, rfl, h⟩ := h
        show am_E d m_L_law 455 (k + 1) (n + 6) _ [am_i x103] K97 N98 I99 P100 z101 Q am_nx
        refine e_istore dL_law_455 ?_
        refine e_aload_n dL_law_457 rfl trivial ?_
        obtain ⟨⟨hk9, hn9⟩, h⟩ := h
        obtain ⟨hK109, h⟩ := h
        refine e_callV (Mc := m_X8_thrown) (vs := []) (st := []) dL_law_458 ok_X8_thrown rfl ⟨by decide, rfl⟩ mk_L_95 im_X8_thrown sl_X8_thrown rfl rfl hK109 (by omega) (Nat.le_of_ble_eq_true rfl) hk9 hn9 am_xh_nx (am_C_mono h (fun v K104 N105 I106 P107 z108 h => ?_) (fun _ _ _ _ _ _ h => h))
        replace h := am_iv_or h
        obtain ⟨x110, rfl, h⟩ := h
        show am_E d m_L_law 461 (k + 1) (n + 6) _ [am_i x110] K104 N105 I106 P107 z108 Q am_nx
        refine e_iload dL_law_461 rfl ?_
        refine e_icmp_eq (tgt := 468) dL_law_463 (by decide) (fun hc => ?_) (fun hc => ?_)
        · replace h := h.1 hc
          refine e_iload dL_law_468 rfl ?_
          refine e_if_ne (tgt := 485) dL_law_470 (by decide) (fun hc => ?_) (fun hc => ?_)
          · replace h := h.1 hc
            refine e_goto (tgt := 1545) dL_law_485 (by decide) ?_
            refine e_iinc dL_law_1545 rfl ?_
            refine e_goto (tgt := 23) dL_law_1548 (by decide) ?_
            exact e_forget (am_sub_k (am_sub_k (am_sub_k (am_sub_k (am_sub_k (am_sub_d (am_sub_d (am_sub_d (am_sub_d am_sub_nil))))))))) h
          · replace h := h.2 hc
            refine e_aload_n dL_law_473 rfl trivial ?_
            refine e_iconst dL_law_474 ?_
            obtain ⟨hK111, h⟩ := h
            obtain ⟨⟨h0, h1⟩, h⟩ := h
            refine e_lald dL_law_475 hK111 h0 h1 ?_
            show am_E _ _ _ _ _ _ (am_j (I106 l3 0) :: _) _ _ _ _ _ _ _
            refine e_iload dL_law_476 rfl ?_
            refine e_i2l dL_law_478 ?_
            refine e_lcmp dL_law_479 (fun hc => ?_) (fun hc v hv => ?_)
            · replace h := h.1 hc
              refine e_if_eq (tgt := 485) dL_law_480 (by decide) (fun _ => ?_) (fun q => absurd rfl q)
              refine e_goto (tgt := 1545) dL_law_485 (by decide) ?_
              refine e_iinc dL_law_1545 rfl ?_
              refine e_goto (tgt := 23) dL_law_1548 (by decide) ?_
              exact e_forget (am_sub_k (am_sub_k (am_sub_k (am_sub_k (am_sub_k (am_sub_d (am_sub_d (am_sub_d (am_sub_d am_sub_nil))))))))) h
            · replace h := h.2 hc
              refine e_if_eq (tgt := 485) dL_law_480 (by decide) (fun q => absurd q hv) (fun _ => ?_)
              refine e_iconst dL_law_483 ?_
              obtain ⟨⟨hk9, hn9⟩, h⟩ := h
              exact e_ret_z dL_law_484 rfl (by decide) hk9 hn9 h
        · replace h := h.2 hc
          refine e_iconst dL_law_466 ?_
          obtain ⟨⟨hk9, hn9⟩, h⟩ := h
          exact e_ret_z dL_law_467 rfl (by decide) hk9 hn9 h
      · have h := h.2.2.2.2.2.1 (by omega)
        show am_E _ _ 488 _ _ _ _ _ _ _ _ _ _ _
        refine e_aload_n dL_law_488 rfl trivial ?_
        refine e_aload_n dL_law_489 rfl trivial ?_
        refine e_iload dL_law_490 rfl ?_
        refine e_iconst dL_law_492 ?_
        refine e_iadd dL_law_493 ?_
        obtain ⟨⟨h0, h1⟩, h⟩ := h
        refine e_iald dL_law_494 hK1 h0 h1 ?_
        refine e_aload_n dL_law_495 rfl trivial ?_
        obtain ⟨⟨hk9, hn9⟩, h⟩ := h
        refine e_callSX (Mc := m_L_enter) (vs := [am_r l1, am_i (I l0 (Int.toNat (am_wr (l4 + 1)))), am_r l3]) (st := []) dL_law_496 ok_L_enter rfl mk_L_112 sm_L_enter rfl rfl (by omega) (Nat.le_of_ble_eq_true rfl) hk9 hn9 am_xh_nx (am_C_mono h (fun v K112 N113 I114 P115 z116 h => ?_) (fun _ _ _ _ _ _ h => h))
        replace h := am_iv_or h
        obtain ⟨x117, rfl, h⟩ := h
        show am_E d m_L_law 499 (k + 1) (n + 6) _ [am_i x117] K112 N113 I114 P115 z116 Q am_nx
        refine e_istore dL_law_499 ?_
        refine e_aload_n dL_law_501 rfl trivial ?_
        refine e_aload_n dL_law_502 rfl trivial ?_
        refine e_iload dL_law_503 rfl ?_
        refine e_iconst dL_law_505 ?_
        refine e_iadd dL_law_506 ?_
        obtain ⟨hK118, h⟩ := h
        obtain ⟨⟨h0, h1⟩, h⟩ := h
        refine e_iald dL_law_507 hK118 h0 h1 ?_
        obtain ⟨⟨hk9, hn9⟩, h⟩ := h
        obtain ⟨hK124, h⟩ := h
        refine e_callV (Mc := m_X8_enter) (vs := [am_i (I114 l0 (Int.toNat (am_wr (l4 + 1))))]) (st := []) dL_law_508 ok_X8_enter rfl ⟨by decide, rfl⟩ mk_L_114 im_X8_enter sl_X8_enter rfl rfl hK124 (by omega) (Nat.le_of_ble_eq_true rfl) hk9 hn9 am_xh_nx (am_C_mono h (fun v K119 N120 I121 P122 z123 h => ?_) (fun _ _ _ _ _ _ h => h))
        replace h := am_iv_or h
        obtain ⟨x125, rfl, h⟩ := h
        show am_E d m_L_law 511 (k + 1) (n + 6) _ [am_i x125] K119 N120 I121 P122 z123 Q am_nx
        refine e_istore dL_law_511 ?_
        refine e_aload_n dL_law_513 rfl trivial ?_
        obtain ⟨⟨hk9, hn9⟩, h⟩ := h
        obtain ⟨hK131, h⟩ := h
        refine e_callV (Mc := m_X8_thrown) (vs := []) (st := []) dL_law_514 ok_X8_thrown rfl ⟨by decide, rfl⟩ mk_L_95 im_X8_thrown sl_X8_thrown rfl rfl hK131 (by omega) (Nat.le_of_ble_eq_true rfl) hk9 hn9 am_xh_nx (am_C_mono h (fun v K126 N127 I128 P129 z130 h => ?_) (fun _ _ _ _ _ _ h => h))
        replace h := am_iv_or h
        obtain ⟨x132, rfl, h⟩ := h
        show am_E d m_L_law 517 (k + 1) (n + 6) _ [am_i x132] K126 N127 I128 P129 z130 Q am_nx
        refine e_iload dL_law_517 rfl ?_
        refine e_icmp_eq (tgt := 524) dL_law_519 (by decide) (fun hc => ?_) (fun hc => ?_)
        · replace h := h.1 hc
          refine e_iload dL_law_524 rfl ?_
          refine e_if_ne (tgt := 541) dL_law_526 (by decide) (fun hc => ?_) (fun hc => ?_)
          · replace h := h.1 hc
            refine e_goto (tgt := 1545) dL_law_541 (by decide) ?_
            refine e_iinc dL_law_1545 rfl ?_
            refine e_goto (tgt := 23) dL_law_1548 (by decide) ?_
            exact e_forget (am_sub_k (am_sub_k (am_sub_k (am_sub_k (am_sub_k (am_sub_d (am_sub_d (am_sub_d (am_sub_d am_sub_nil))))))))) h
          · replace h := h.2 hc
            refine e_aload_n dL_law_529 rfl trivial ?_
            refine e_iconst dL_law_530 ?_
            obtain ⟨hK133, h⟩ := h
            obtain ⟨⟨h0, h1⟩, h⟩ := h
            refine e_lald dL_law_531 hK133 h0 h1 ?_
            show am_E _ _ _ _ _ _ (am_j (I128 l3 0) :: _) _ _ _ _ _ _ _
            refine e_iload dL_law_532 rfl ?_
            refine e_i2l dL_law_534 ?_
            refine e_lcmp dL_law_535 (fun hc => ?_) (fun hc v hv => ?_)
            · replace h := h.1 hc
              refine e_if_eq (tgt := 541) dL_law_536 (by decide) (fun _ => ?_) (fun q => absurd rfl q)
              refine e_goto (tgt := 1545) dL_law_541 (by decide) ?_
              refine e_iinc dL_law_1545 rfl ?_
              refine e_goto (tgt := 23) dL_law_1548 (by decide) ?_
              exact e_forget (am_sub_k (am_sub_k (am_sub_k (am_sub_k (am_sub_k (am_sub_d (am_sub_d (am_sub_d (am_sub_d am_sub_nil))))))))) h
            · replace h := h.2 hc
              refine e_if_eq (tgt := 541) dL_law_536 (by decide) (fun q => absurd q hv) (fun _ => ?_)
              refine e_iconst dL_law_539 ?_
              obtain ⟨⟨hk9, hn9⟩, h⟩ := h
              exact e_ret_z dL_law_540 rfl (by decide) hk9 hn9 h
        · replace h := h.2 hc
          refine e_iconst dL_law_522 ?_
          obtain ⟨⟨hk9, hn9⟩, h⟩ := h
          exact e_ret_z dL_law_523 rfl (by decide) hk9 hn9 h
      · have h := h.2.2.2.2.2.2.1 (by omega)
        show am_E _ _ 544 _ _ _ _ _ _ _ _ _ _ _
        refine e_aload_n dL_law_544 rfl trivial ?_
        refine e_aload_n dL_law_545 rfl trivial ?_
        refine e_iload dL_law_546 rfl ?_
        refine e_iconst dL_law_548 ?_
        refine e_iadd dL_law_549 ?_
        obtain ⟨⟨h0, h1⟩, h⟩ := h
        refine e_iald dL_law_550 hK1 h0 h1 ?_
        refine e_aload_n dL_law_551 rfl trivial ?_
        obtain ⟨⟨hk9, hn9⟩, h⟩ := h
        refine e_callSX (Mc := m_L_read) (vs := [am_r l1, am_i (I l0 (Int.toNat (am_wr (l4 + 1)))), am_r l3]) (st := []) dL_law_552 ok_L_read rfl mk_L_115 sm_L_read rfl rfl (by omega) (Nat.le_of_ble_eq_true rfl) hk9 hn9 am_xh_nx (am_C_mono h (fun v K134 N135 I136 P137 z138 h => ?_) (fun _ _ _ _ _ _ h => h))
        replace h := am_iv_or h
        obtain ⟨x139, rfl, h⟩ := h
        show am_E d m_L_law 555 (k + 1) (n + 6) _ [am_i x139] K134 N135 I136 P137 z138 Q am_nx
        refine e_istore dL_law_555 ?_
        refine e_aload_n dL_law_557 rfl trivial ?_
        refine e_aload_n dL_law_558 rfl trivial ?_
        refine e_iload dL_law_559 rfl ?_
        refine e_iconst dL_law_561 ?_
        refine e_iadd dL_law_562 ?_
        obtain ⟨hK140, h⟩ := h
        obtain ⟨⟨h0, h1⟩, h⟩ := h
        refine e_iald dL_law_563 hK140 h0 h1 ?_
        obtain ⟨⟨hk9, hn9⟩, h⟩ := h
        obtain ⟨hK146, h⟩ := h
        refine e_callV (Mc := m_X8_read) (vs := [am_i (I136 l0 (Int.toNat (am_wr (l4 + 1))))]) (st := []) dL_law_564 ok_X8_read rfl ⟨by decide, rfl⟩ mk_L_117 im_X8_read sl_X8_read rfl rfl hK146 (by omega) (Nat.le_of_ble_eq_true rfl) hk9 hn9 am_xh_nx (am_C_mono h (fun v K141 N142 I143 P144 z145 h => ?_) (fun _ _ _ _ _ _ h => h))
        replace h := am_iv_or h
        obtain ⟨x147, rfl, h⟩ := h
        show am_E d m_L_law 567 (k + 1) (n + 6) _ [am_i x147] K141 N142 I143 P144 z145 Q am_nx
        refine e_istore dL_law_567 ?_
        refine e_aload_n dL_law_569 rfl trivial ?_
        obtain ⟨⟨hk9, hn9⟩, h⟩ := h
        obtain ⟨hK153, h⟩ := h
        refine e_callV (Mc := m_X8_thrown) (vs := []) (st := []) dL_law_570 ok_X8_thrown rfl ⟨by decide, rfl⟩ mk_L_95 im_X8_thrown sl_X8_thrown rfl rfl hK153 (by omega) (Nat.le_of_ble_eq_true rfl) hk9 hn9 am_xh_nx (am_C_mono h (fun v K148 N149 I150 P151 z152 h => ?_) (fun _ _ _ _ _ _ h => h))
        replace h := am_iv_or h
        obtain ⟨x154, rfl, h⟩ := h
        show am_E d m_L_law 573 (k + 1) (n + 6) _ [am_i x154] K148 N149 I150 P151 z152 Q am_nx
        refine e_iload dL_law_573 rfl ?_
        refine e_icmp_eq (tgt := 580) dL_law_575 (by decide) (fun hc => ?_) (fun hc => ?_)
        · replace h := h.1 hc
          refine e_iload dL_law_580 rfl ?_
          refine e_if_ne (tgt := 597) dL_law_582 (by decide) (fun hc => ?_) (fun hc => ?_)
          · replace h := h.1 hc
            refine e_goto (tgt := 1545) dL_law_597 (by decide) ?_
            refine e_iinc dL_law_1545 rfl ?_
            refine e_goto (tgt := 23) dL_law_1548 (by decide) ?_
            exact e_forget (am_sub_k (am_sub_k (am_sub_k (am_sub_k (am_sub_k (am_sub_d (am_sub_d (am_sub_d (am_sub_d am_sub_nil))))))))) h
          · replace h := h.2 hc
            refine e_aload_n dL_law_585 rfl trivial ?_
            refine e_iconst dL_law_586 ?_
            obtain ⟨hK155, h⟩ := h
            obtain ⟨⟨h0, h1⟩, h⟩ := h
            refine e_lald dL_law_587 hK155 h0 h1 ?_
            show am_E _ _ _ _ _ _ (am_j (I150 l3 0) :: _) _ _ _ _ _ _ _
            refine e_iload dL_law_588 rfl ?_
            refine e_i2l dL_law_590 ?_
            refine e_lcmp dL_law_591 (fun hc => ?_) (fun hc v hv => ?_)
            · replace h := h.1 hc
              refine e_if_eq (tgt := 597) dL_law_592 (by decide) (fun _ => ?_) (fun q => absurd rfl q)
              refine e_goto (tgt := 1545) dL_law_597 (by decide) ?_
              refine e_iinc dL_law_1545 rfl ?_
              refine e_goto (tgt := 23) dL_law_1548 (by decide) ?_
              exact e_forget (am_sub_k (am_sub_k (am_sub_k (am_sub_k (am_sub_k (am_sub_d (am_sub_d (am_sub_d (am_sub_d am_sub_nil))))))))) h
            · replace h := h.2 hc
              refine e_if_eq (tgt := 597) dL_law_592 (by decide) (fun q => absurd q hv) (fun _ => ?_)
              refine e_iconst dL_law_595 ?_
              obtain ⟨⟨hk9, hn9⟩, h⟩ := h
              exact e_ret_z dL_law_596 rfl (by decide) hk9 hn9 h
        · replace h := h.2 hc
          refine e_iconst dL_law_578 ?_
          obtain ⟨⟨hk9, hn9⟩, h⟩ := h
          exact e_ret_z dL_law_579 rfl (by decide) hk9 hn9 h
      · have h := h.2.2.2.2.2.2.2.1 (by omega)
        show am_E _ _ 600 _ _ _ _ _ _ _ _ _ _ _
        refine e_aload_n dL_law_600 rfl trivial ?_
        refine e_aload_n dL_law_601 rfl trivial ?_
        refine e_iload dL_law_602 rfl ?_
        refine e_iconst dL_law_604 ?_
        refine e_iadd dL_law_605 ?_
        obtain ⟨⟨h0, h1⟩, h⟩ := h
        refine e_iald dL_law_606 hK1 h0 h1 ?_
        refine e_aload_n dL_law_607 rfl trivial ?_
        obtain ⟨⟨hk9, hn9⟩, h⟩ := h
        refine e_callSX (Mc := m_L_move) (vs := [am_r l1, am_i (I l0 (Int.toNat (am_wr (l4 + 1)))), am_r l3]) (st := []) dL_law_608 ok_L_move rfl mk_L_118 sm_L_move rfl rfl (by omega) (Nat.le_of_ble_eq_true rfl) hk9 hn9 am_xh_nx (am_C_mono h (fun v K156 N157 I158 P159 z160 h => ?_) (fun _ _ _ _ _ _ h => h))
        replace h := am_iv_or h
        obtain ⟨x161, rfl, h⟩ := h
        show am_E d m_L_law 611 (k + 1) (n + 6) _ [am_i x161] K156 N157 I158 P159 z160 Q am_nx
        refine e_istore dL_law_611 ?_
        refine e_aload_n dL_law_613 rfl trivial ?_
        refine e_aload_n dL_law_614 rfl trivial ?_
        refine e_iload dL_law_615 rfl ?_
        refine e_iconst dL_law_617 ?_
        refine e_iadd dL_law_618 ?_
        obtain ⟨hK162, h⟩ := h
        obtain ⟨⟨h0, h1⟩, h⟩ := h
        refine e_iald dL_law_619 hK162 h0 h1 ?_
        obtain ⟨⟨hk9, hn9⟩, h⟩ := h
        obtain ⟨hK168, h⟩ := h
        refine e_callV (Mc := m_X8_move) (vs := [am_i (I158 l0 (Int.toNat (am_wr (l4 + 1))))]) (st := []) dL_law_620 ok_X8_move rfl ⟨by decide, rfl⟩ mk_L_120 im_X8_move sl_X8_move rfl rfl hK168 (by omega) (Nat.le_of_ble_eq_true rfl) hk9 hn9 am_xh_nx (am_C_mono h (fun v K163 N164 I165 P166 z167 h => ?_) (fun _ _ _ _ _ _ h => h))
        replace h := am_iv_or h
        obtain ⟨x169, rfl, h⟩ := h
        show am_E d m_L_law 623 (k + 1) (n + 6) _ [am_i x169] K163 N164 I165 P166 z167 Q am_nx
        refine e_istore dL_law_623 ?_
        refine e_aload_n dL_law_625 rfl trivial ?_
        obtain ⟨⟨hk9, hn9⟩, h⟩ := h
        obtain ⟨hK175, h⟩ := h
        refine e_callV (Mc := m_X8_thrown) (vs := []) (st := []) dL_law_626 ok_X8_thrown rfl ⟨by decide, rfl⟩ mk_L_95 im_X8_thrown sl_X8_thrown rfl rfl hK175 (by omega) (Nat.le_of_ble_eq_true rfl) hk9 hn9 am_xh_nx (am_C_mono h (fun v K170 N171 I172 P173 z174 h => ?_) (fun _ _ _ _ _ _ h => h))
        replace h := am_iv_or h
        obtain ⟨x176, rfl, h⟩ := h
        show am_E d m_L_law 629 (k + 1) (n + 6) _ [am_i x176] K170 N171 I172 P173 z174 Q am_nx
        refine e_iload dL_law_629 rfl ?_
        refine e_icmp_eq (tgt := 636) dL_law_631 (by decide) (fun hc => ?_) (fun hc => ?_)
        · replace h := h.1 hc
          refine e_iload dL_law_636 rfl ?_
          refine e_if_ne (tgt := 653) dL_law_638 (by decide) (fun hc => ?_) (fun hc => ?_)
          · replace h := h.1 hc
            refine e_goto (tgt := 1545) dL_law_653 (by decide) ?_
            refine e_iinc dL_law_1545 rfl ?_
            refine e_goto (tgt := 23) dL_law_1548 (by decide) ?_
            exact e_forget (am_sub_k (am_sub_k (am_sub_k (am_sub_k (am_sub_k (am_sub_d (am_sub_d (am_sub_d (am_sub_d am_sub_nil))))))))) h
          · replace h := h.2 hc
            refine e_aload_n dL_law_641 rfl trivial ?_
            refine e_iconst dL_law_642 ?_
            obtain ⟨hK177, h⟩ := h
            obtain ⟨⟨h0, h1⟩, h⟩ := h
            refine e_lald dL_law_643 hK177 h0 h1 ?_
            show am_E _ _ _ _ _ _ (am_j (I172 l3 0) :: _) _ _ _ _ _ _ _
            refine e_iload dL_law_644 rfl ?_
            refine e_i2l dL_law_646 ?_
            refine e_lcmp dL_law_647 (fun hc => ?_) (fun hc v hv => ?_)
            · replace h := h.1 hc
              refine e_if_eq (tgt := 653) dL_law_648 (by decide) (fun _ => ?_) (fun q => absurd rfl q)
              refine e_goto (tgt := 1545) dL_law_653 (by decide) ?_
              refine e_iinc dL_law_1545 rfl ?_
              refine e_goto (tgt := 23) dL_law_1548 (by decide) ?_
              exact e_forget (am_sub_k (am_sub_k (am_sub_k (am_sub_k (am_sub_k (am_sub_d (am_sub_d (am_sub_d (am_sub_d am_sub_nil))))))))) h
            · replace h := h.2 hc
              refine e_if_eq (tgt := 653) dL_law_648 (by decide) (fun q => absurd q hv) (fun _ => ?_)
              refine e_iconst dL_law_651 ?_
              obtain ⟨⟨hk9, hn9⟩, h⟩ := h
              exact e_ret_z dL_law_652 rfl (by decide) hk9 hn9 h
        · replace h := h.2 hc
          refine e_iconst dL_law_634 ?_
          obtain ⟨⟨hk9, hn9⟩, h⟩ := h
          exact e_ret_z dL_law_635 rfl (by decide) hk9 hn9 h
      · have h := h.2.2.2.2.2.2.2.2.1 (by omega)
        show am_E _ _ 656 _ _ _ _ _ _ _ _ _ _ _
        refine e_aload_n dL_law_656 rfl trivial ?_
        refine e_aload_n dL_law_657 rfl trivial ?_
        refine e_iload dL_law_658 rfl ?_
        refine e_iconst dL_law_660 ?_
        refine e_iadd dL_law_661 ?_
        obtain ⟨⟨h0, h1⟩, h⟩ := h
        refine e_iald dL_law_662 hK1 h0 h1 ?_
        refine e_aload_n dL_law_663 rfl trivial ?_
        obtain ⟨⟨hk9, hn9⟩, h⟩ := h
        refine e_callSX (Mc := m_L_takeOff) (vs := [am_r l1, am_i (I l0 (Int.toNat (am_wr (l4 + 1)))), am_r l3]) (st := []) dL_law_664 ok_L_takeOff rfl mk_L_121 sm_L_takeOff rfl rfl (by omega) (Nat.le_of_ble_eq_true rfl) hk9 hn9 am_xh_nx (am_C_mono h (fun v K178 N179 I180 P181 z182 h => ?_) (fun _ _ _ _ _ _ h => h))
        replace h := am_iv_or h
        obtain ⟨x183, rfl, h⟩ := h
        show am_E d m_L_law 667 (k + 1) (n + 6) _ [am_i x183] K178 N179 I180 P181 z182 Q am_nx
        refine e_istore dL_law_667 ?_
        refine e_aload_n dL_law_669 rfl trivial ?_
        refine e_aload_n dL_law_670 rfl trivial ?_
        refine e_iload dL_law_671 rfl ?_
        refine e_iconst dL_law_673 ?_
        refine e_iadd dL_law_674 ?_
        obtain ⟨hK184, h⟩ := h
        obtain ⟨⟨h0, h1⟩, h⟩ := h
        refine e_iald dL_law_675 hK184 h0 h1 ?_
        obtain ⟨⟨hk9, hn9⟩, h⟩ := h
        obtain ⟨hK190, h⟩ := h
        refine e_callV (Mc := m_X8_takeOff) (vs := [am_i (I180 l0 (Int.toNat (am_wr (l4 + 1))))]) (st := []) dL_law_676 ok_X8_takeOff rfl ⟨by decide, rfl⟩ mk_L_123 im_X8_takeOff sl_X8_takeOff rfl rfl hK190 (by omega) (Nat.le_of_ble_eq_true rfl) hk9 hn9 am_xh_nx (am_C_mono h (fun v K185 N186 I187 P188 z189 h => ?_) (fun _ _ _ _ _ _ h => h))
        replace h := am_iv_or h
        obtain ⟨x191, rfl, h⟩ := h
        show am_E d m_L_law 679 (k + 1) (n + 6) _ [am_i x191] K185 N186 I187 P188 z189 Q am_nx
        refine e_istore dL_law_679 ?_
        refine e_aload_n dL_law_681 rfl trivial ?_
        obtain ⟨⟨hk9, hn9⟩, h⟩ := h
        obtain ⟨hK197, h⟩ := h
        refine e_callV (Mc := m_X8_thrown) (vs := []) (st := []) dL_law_682 ok_X8_thrown rfl ⟨by decide, rfl⟩ mk_L_95 im_X8_thrown sl_X8_thrown rfl rfl hK197 (by omega) (Nat.le_of_ble_eq_true rfl) hk9 hn9 am_xh_nx (am_C_mono h (fun v K192 N193 I194 P195 z196 h => ?_) (fun _ _ _ _ _ _ h => h))
        replace h := am_iv_or h
        obtain ⟨x198, rfl, h⟩ := h
        show am_E d m_L_law 685 (k + 1) (n + 6) _ [am_i x198] K192 N193 I194 P195 z196 Q am_nx
        refine e_iload dL_law_685 rfl ?_
        refine e_icmp_eq (tgt := 692) dL_law_687 (by decide) (fun hc => ?_) (fun hc => ?_)
        · replace h := h.1 hc
          refine e_iload dL_law_692 rfl ?_
          refine e_if_ne (tgt := 709) dL_law_694 (by decide) (fun hc => ?_) (fun hc => ?_)
          · replace h := h.1 hc
            refine e_goto (tgt := 1545) dL_law_709 (by decide) ?_
            refine e_iinc dL_law_1545 rfl ?_
            refine e_goto (tgt := 23) dL_law_1548 (by decide) ?_
            exact e_forget (am_sub_k (am_sub_k (am_sub_k (am_sub_k (am_sub_k (am_sub_d (am_sub_d (am_sub_d (am_sub_d am_sub_nil))))))))) h
          · replace h := h.2 hc
            refine e_aload_n dL_law_697 rfl trivial ?_
            refine e_iconst dL_law_698 ?_
            obtain ⟨hK199, h⟩ := h
            obtain ⟨⟨h0, h1⟩, h⟩ := h
            refine e_lald dL_law_699 hK199 h0 h1 ?_
            show am_E _ _ _ _ _ _ (am_j (I194 l3 0) :: _) _ _ _ _ _ _ _
            refine e_iload dL_law_700 rfl ?_
            refine e_i2l dL_law_702 ?_
            refine e_lcmp dL_law_703 (fun hc => ?_) (fun hc v hv => ?_)
            · replace h := h.1 hc
              refine e_if_eq (tgt := 709) dL_law_704 (by decide) (fun _ => ?_) (fun q => absurd rfl q)
              refine e_goto (tgt := 1545) dL_law_709 (by decide) ?_
              refine e_iinc dL_law_1545 rfl ?_
              refine e_goto (tgt := 23) dL_law_1548 (by decide) ?_
              exact e_forget (am_sub_k (am_sub_k (am_sub_k (am_sub_k (am_sub_k (am_sub_d (am_sub_d (am_sub_d (am_sub_d am_sub_nil))))))))) h
            · replace h := h.2 hc
              refine e_if_eq (tgt := 709) dL_law_704 (by decide) (fun q => absurd q hv) (fun _ => ?_)
              refine e_iconst dL_law_707 ?_
              obtain ⟨⟨hk9, hn9⟩, h⟩ := h
              exact e_ret_z dL_law_708 rfl (by decide) hk9 hn9 h
        · replace h := h.2 hc
          refine e_iconst dL_law_690 ?_
          obtain ⟨⟨hk9, hn9⟩, h⟩ := h
          exact e_ret_z dL_law_691 rfl (by decide) hk9 hn9 h
      · have h := h.2.2.2.2.2.2.2.2.2.1 (by omega)
        show am_E _ _ 712 _ _ _ _ _ _ _ _ _ _ _
        refine e_aload_n dL_law_712 rfl trivial ?_
        refine e_aload_n dL_law_713 rfl trivial ?_
        obtain ⟨⟨hk9, hn9⟩, h⟩ := h
        refine e_callSX (Mc := m_L_undo) (vs := [am_r l1, am_r l3]) (st := []) dL_law_714 ok_L_undo rfl mk_L_124 sm_L_undo rfl rfl (by omega) (Nat.le_of_ble_eq_true rfl) hk9 hn9 am_xh_nx (am_C_mono h (fun v K200 N201 I202 P203 z204 h => ?_) (fun _ _ _ _ _ _ h => h))
        replace h := am_iv_or h
        obtain ⟨x205, rfl, h⟩ := h
        show am_E d m_L_law 717 (k + 1) (n + 6) _ [am_i x205] K200 N201 I202 P203 z204 Q am_nx
        refine e_istore dL_law_717 ?_
        refine e_aload_n dL_law_719 rfl trivial ?_
        obtain ⟨⟨hk9, hn9⟩, h⟩ := h
        obtain ⟨hK211, h⟩ := h
        refine e_callV (Mc := m_X8_undo) (vs := []) (st := []) dL_law_720 ok_X8_undo rfl ⟨by decide, rfl⟩ mk_L_127 im_X8_undo sl_X8_undo rfl rfl hK211 (by omega) (Nat.le_of_ble_eq_true rfl) hk9 hn9 am_xh_nx (am_C_mono h (fun v K206 N207 I208 P209 z210 h => ?_) (fun _ _ _ _ _ _ h => h))
        replace h := am_iv_or h
        obtain ⟨x212, rfl, h⟩ := h
        show am_E d m_L_law 723 (k + 1) (n + 6) _ [am_i x212] K206 N207 I208 P209 z210 Q am_nx
        refine e_istore dL_law_723 ?_
        refine e_aload_n dL_law_725 rfl trivial ?_
        obtain ⟨⟨hk9, hn9⟩, h⟩ := h
        obtain ⟨hK218, h⟩ := h
        refine e_callV (Mc := m_X8_thrown) (vs := []) (st := []) dL_law_726 ok_X8_thrown rfl ⟨by decide, rfl⟩ mk_L_95 im_X8_thrown sl_X8_thrown rfl rfl hK218 (by omega) (Nat.le_of_ble_eq_true rfl) hk9 hn9 am_xh_nx (am_C_mono h (fun v K213 N214 I215 P216 z217 h => ?_) (fun _ _ _ _ _ _ h => h))
        replace h := am_iv_or h
        obtain ⟨x219, rfl, h⟩ := h
        show am_E d m_L_law 729 (k + 1) (n + 6) _ [am_i x219] K213 N214 I215 P216 z217 Q am_nx
        refine e_iload dL_law_729 rfl ?_
        refine e_icmp_eq (tgt := 736) dL_law_731 (by decide) (fun hc => ?_) (fun hc => ?_)
        · replace h := h.1 hc
          refine e_iload dL_law_736 rfl ?_
          refine e_if_ne (tgt := 753) dL_law_738 (by decide) (fun hc => ?_) (fun hc => ?_)
          · replace h := h.1 hc
            refine e_goto (tgt := 1545) dL_law_753 (by decide) ?_
            refine e_iinc dL_law_1545 rfl ?_
            refine e_goto (tgt := 23) dL_law_1548 (by decide) ?_
            exact e_forget (am_sub_k (am_sub_k (am_sub_k (am_sub_k (am_sub_k (am_sub_d (am_sub_d (am_sub_d (am_sub_d am_sub_nil))))))))) h
          · replace h := h.2 hc
            refine e_aload_n dL_law_741 rfl trivial ?_
            refine e_iconst dL_law_742 ?_
            obtain ⟨hK220, h⟩ := h
            obtain ⟨⟨h0, h1⟩, h⟩ := h
            refine e_lald dL_law_743 hK220 h0 h1 ?_
            show am_E _ _ _ _ _ _ (am_j (I215 l3 0) :: _) _ _ _ _ _ _ _
            refine e_iload dL_law_744 rfl ?_
            refine e_i2l dL_law_746 ?_
            refine e_lcmp dL_law_747 (fun hc => ?_) (fun hc v hv => ?_)
            · replace h := h.1 hc
              refine e_if_eq (tgt := 753) dL_law_748 (by decide) (fun _ => ?_) (fun q => absurd rfl q)
              refine e_goto (tgt := 1545) dL_law_753 (by decide) ?_
              refine e_iinc dL_law_1545 rfl ?_
              refine e_goto (tgt := 23) dL_law_1548 (by decide) ?_
              exact e_forget (am_sub_k (am_sub_k (am_sub_k (am_sub_k (am_sub_k (am_sub_d (am_sub_d (am_sub_d (am_sub_d am_sub_nil))))))))) h
            · replace h := h.2 hc
              refine e_if_eq (tgt := 753) dL_law_748 (by decide) (fun q => absurd q hv) (fun _ => ?_)
              refine e_iconst dL_law_751 ?_
              obtain ⟨⟨hk9, hn9⟩, h⟩ := h
              exact e_ret_z dL_law_752 rfl (by decide) hk9 hn9 h
        · replace h := h.2 hc
          refine e_iconst dL_law_734 ?_
          obtain ⟨⟨hk9, hn9⟩, h⟩ := h
          exact e_ret_z dL_law_735 rfl (by decide) hk9 hn9 h
      · have h := h.2.2.2.2.2.2.2.2.2.2.1 (by omega)
        show am_E _ _ 756 _ _ _ _ _ _ _ _ _ _ _
        refine e_aload_n dL_law_756 rfl trivial ?_
        refine e_aload_n dL_law_757 rfl trivial ?_
        refine e_iload dL_law_758 rfl ?_
        refine e_iconst dL_law_760 ?_
        refine e_iadd dL_law_761 ?_
        obtain ⟨⟨h0, h1⟩, h⟩ := h
        refine e_iald dL_law_762 hK1 h0 h1 ?_
        refine e_aload_n dL_law_763 rfl trivial ?_
        refine e_iload dL_law_764 rfl ?_
        refine e_iconst dL_law_766 ?_
        refine e_iadd dL_law_767 ?_
        obtain ⟨⟨h0, h1⟩, h⟩ := h
        refine e_iald dL_law_768 hK1 h0 h1 ?_
        refine e_aload_n dL_law_769 rfl trivial ?_
        obtain ⟨⟨hk9, hn9⟩, h⟩ := h
        refine e_callSX (Mc := m_L_part) (vs := [am_r l1, am_i (I l0 (Int.toNat (am_wr (l4 + 1)))), am_i (I l0 (Int.toNat (am_wr (l4 + 2)))), am_r l3]) (st := []) dL_law_770 ok_L_part rfl mk_L_128 sm_L_part rfl rfl (by omega) (Nat.le_of_ble_eq_true rfl) hk9 hn9 am_xh_nx (am_C_mono h (fun v K221 N222 I223 P224 z225 h => ?_) (fun _ _ _ _ _ _ h => h))
        replace h := am_iv_or h
        obtain ⟨x226, rfl, h⟩ := h
        show am_E d m_L_law 773 (k + 1) (n + 6) _ [am_i x226] K221 N222 I223 P224 z225 Q am_nx
        refine e_istore dL_law_773 ?_
        refine e_aload_n dL_law_775 rfl trivial ?_
        refine e_aload_n dL_law_776 rfl trivial ?_
        refine e_iload dL_law_777 rfl ?_
        refine e_iconst dL_law_779 ?_
        refine e_iadd dL_law_780 ?_
        obtain ⟨hK227, h⟩ := h
        obtain ⟨⟨h0, h1⟩, h⟩ := h
        refine e_iald dL_law_781 hK227 h0 h1 ?_
        refine e_aload_n dL_law_782 rfl trivial ?_
        refine e_iload dL_law_783 rfl ?_
        refine e_iconst dL_law_785 ?_
        refine e_iadd dL_law_786 ?_
        obtain ⟨⟨h0, h1⟩, h⟩ := h
        refine e_iald dL_law_787 hK227 h0 h1 ?_
        obtain ⟨⟨hk9, hn9⟩, h⟩ := h
        obtain ⟨hK233, h⟩ := h
        refine e_callV (Mc := m_X8_part) (vs := [am_i (I223 l0 (Int.toNat (am_wr (l4 + 1)))), am_i (I223 l0 (Int.toNat (am_wr (l4 + 2))))]) (st := []) dL_law_788 ok_X8_part rfl ⟨by decide, rfl⟩ mk_L_130 im_X8_part sl_X8_part rfl rfl hK233 (by omega) (Nat.le_of_ble_eq_true rfl) hk9 hn9 am_xh_nx (am_C_mono h (fun v K228 N229 I230 P231 z232 h => ?_) (fun _ _ _ _ _ _ h => h))
        replace h := am_iv_or h
        obtain ⟨x234, rfl, h⟩ := h
        show am_E d m_L_law 791 (k + 1) (n + 6) _ [am_i x234] K228 N229 I230 P231 z232 Q am_nx
        refine e_istore dL_law_791 ?_
        refine e_aload_n dL_law_793 rfl trivial ?_
        obtain ⟨⟨hk9, hn9⟩, h⟩ := h
        obtain ⟨hK240, h⟩ := h
        refine e_callV (Mc := m_X8_thrown) (vs := []) (st := []) dL_law_794 ok_X8_thrown rfl ⟨by decide, rfl⟩ mk_L_95 im_X8_thrown sl_X8_thrown rfl rfl hK240 (by omega) (Nat.le_of_ble_eq_true rfl) hk9 hn9 am_xh_nx (am_C_mono h (fun v K235 N236 I237 P238 z239 h => ?_) (fun _ _ _ _ _ _ h => h))
        replace h := am_iv_or h
        obtain ⟨x241, rfl, h⟩ := h
        show am_E d m_L_law 797 (k + 1) (n + 6) _ [am_i x241] K235 N236 I237 P238 z239 Q am_nx
        refine e_iload dL_law_797 rfl ?_
        refine e_icmp_eq (tgt := 804) dL_law_799 (by decide) (fun hc => ?_) (fun hc => ?_)
        · replace h := h.1 hc
          refine e_iload dL_law_804 rfl ?_
          refine e_if_ne (tgt := 821) dL_law_806 (by decide) (fun hc => ?_) (fun hc => ?_)
          · replace h := h.1 hc
            refine e_goto (tgt := 1545) dL_law_821 (by decide) ?_
            refine e_iinc dL_law_1545 rfl ?_
            refine e_goto (tgt := 23) dL_law_1548 (by decide) ?_
            exact e_forget (am_sub_k (am_sub_k (am_sub_k (am_sub_k (am_sub_k (am_sub_d (am_sub_d (am_sub_d (am_sub_d am_sub_nil))))))))) h
          · replace h := h.2 hc
            refine e_aload_n dL_law_809 rfl trivial ?_
            refine e_iconst dL_law_810 ?_
            obtain ⟨hK242, h⟩ := h
            obtain ⟨⟨h0, h1⟩, h⟩ := h
            refine e_lald dL_law_811 hK242 h0 h1 ?_
            show am_E _ _ _ _ _ _ (am_j (I237 l3 0) :: _) _ _ _ _ _ _ _
            refine e_iload dL_law_812 rfl ?_
            refine e_i2l dL_law_814 ?_
            refine e_lcmp dL_law_815 (fun hc => ?_) (fun hc v hv => ?_)
            · replace h := h.1 hc
              refine e_if_eq (tgt := 821) dL_law_816 (by decide) (fun _ => ?_) (fun q => absurd rfl q)
              refine e_goto (tgt := 1545) dL_law_821 (by decide) ?_
              refine e_iinc dL_law_1545 rfl ?_
              refine e_goto (tgt := 23) dL_law_1548 (by decide) ?_
              exact e_forget (am_sub_k (am_sub_k (am_sub_k (am_sub_k (am_sub_k (am_sub_d (am_sub_d (am_sub_d (am_sub_d am_sub_nil))))))))) h
            · replace h := h.2 hc
              refine e_if_eq (tgt := 821) dL_law_816 (by decide) (fun q => absurd q hv) (fun _ => ?_)
              refine e_iconst dL_law_819 ?_
              obtain ⟨⟨hk9, hn9⟩, h⟩ := h
              exact e_ret_z dL_law_820 rfl (by decide) hk9 hn9 h
        · replace h := h.2 hc
          refine e_iconst dL_law_802 ?_
          obtain ⟨⟨hk9, hn9⟩, h⟩ := h
          exact e_ret_z dL_law_803 rfl (by decide) hk9 hn9 h
      · have h := h.2.2.2.2.2.2.2.2.2.2.2.1 (by omega)
        show am_E _ _ 824 _ _ _ _ _ _ _ _ _ _ _
        refine e_aload_n dL_law_824 rfl trivial ?_
        refine e_aload_n dL_law_825 rfl trivial ?_
        refine e_iload dL_law_826 rfl ?_
        refine e_iconst dL_law_828 ?_
        refine e_iadd dL_law_829 ?_
        obtain ⟨⟨h0, h1⟩, h⟩ := h
        refine e_iald dL_law_830 hK1 h0 h1 ?_
        refine e_aload_n dL_law_831 rfl trivial ?_
        refine e_iload dL_law_832 rfl ?_
        refine e_iconst dL_law_834 ?_
        refine e_iadd dL_law_835 ?_
        obtain ⟨⟨h0, h1⟩, h⟩ := h
        refine e_iald dL_law_836 hK1 h0 h1 ?_
        refine e_aload_n dL_law_837 rfl trivial ?_
        obtain ⟨⟨hk9, hn9⟩, h⟩ := h
        refine e_callSX (Mc := m_L_lane) (vs := [am_r l1, am_i (I l0 (Int.toNat (am_wr (l4 + 1)))), am_i (I l0 (Int.toNat (am_wr (l4 + 2)))), am_r l3]) (st := []) dL_law_838 ok_L_lane rfl mk_L_131 sm_L_lane rfl rfl (by omega) (Nat.le_of_ble_eq_true rfl) hk9 hn9 am_xh_nx (am_C_mono h (fun v K243 N244 I245 P246 z247 h => ?_) (fun _ _ _ _ _ _ h => h))
        replace h := am_iv_or h
        obtain ⟨x248, rfl, h⟩ := h
        show am_E d m_L_law 841 (k + 1) (n + 6) _ [am_i x248] K243 N244 I245 P246 z247 Q am_nx
        refine e_istore dL_law_841 ?_
        refine e_aload_n dL_law_843 rfl trivial ?_
        refine e_aload_n dL_law_844 rfl trivial ?_
        refine e_iload dL_law_845 rfl ?_
        refine e_iconst dL_law_847 ?_
        refine e_iadd dL_law_848 ?_
        obtain ⟨hK249, h⟩ := h
        obtain ⟨⟨h0, h1⟩, h⟩ := h
        refine e_iald dL_law_849 hK249 h0 h1 ?_
        refine e_aload_n dL_law_850 rfl trivial ?_
        refine e_iload dL_law_851 rfl ?_
        refine e_iconst dL_law_853 ?_
        refine e_iadd dL_law_854 ?_
        obtain ⟨⟨h0, h1⟩, h⟩ := h
        refine e_iald dL_law_855 hK249 h0 h1 ?_
        obtain ⟨⟨hk9, hn9⟩, h⟩ := h
        obtain ⟨hK255, h⟩ := h
        refine e_callV (Mc := m_X8_lane) (vs := [am_i (I245 l0 (Int.toNat (am_wr (l4 + 1)))), am_i (I245 l0 (Int.toNat (am_wr (l4 + 2))))]) (st := []) dL_law_856 ok_X8_lane rfl ⟨by decide, rfl⟩ mk_L_133 im_X8_lane sl_X8_lane rfl rfl hK255 (by omega) (Nat.le_of_ble_eq_true rfl) hk9 hn9 am_xh_nx (am_C_mono h (fun v K250 N251 I252 P253 z254 h => ?_) (fun _ _ _ _ _ _ h => h))
        replace h := am_iv_or h
        obtain ⟨x256, rfl, h⟩ := h
        show am_E d m_L_law 859 (k + 1) (n + 6) _ [am_i x256] K250 N251 I252 P253 z254 Q am_nx
        refine e_istore dL_law_859 ?_
        refine e_aload_n dL_law_861 rfl trivial ?_
        obtain ⟨⟨hk9, hn9⟩, h⟩ := h
        obtain ⟨hK262, h⟩ := h
        refine e_callV (Mc := m_X8_thrown) (vs := []) (st := []) dL_law_862 ok_X8_thrown rfl ⟨by decide, rfl⟩ mk_L_95 im_X8_thrown sl_X8_thrown rfl rfl hK262 (by omega) (Nat.le_of_ble_eq_true rfl) hk9 hn9 am_xh_nx (am_C_mono h (fun v K257 N258 I259 P260 z261 h => ?_) (fun _ _ _ _ _ _ h => h))
        replace h := am_iv_or h
        obtain ⟨x263, rfl, h⟩ := h
        show am_E d m_L_law 865 (k + 1) (n + 6) _ [am_i x263] K257 N258 I259 P260 z261 Q am_nx
        refine e_iload dL_law_865 rfl ?_
        refine e_icmp_eq (tgt := 872) dL_law_867 (by decide) (fun hc => ?_) (fun hc => ?_)
        · replace h := h.1 hc
          refine e_iload dL_law_872 rfl ?_
          refine e_if_ne (tgt := 889) dL_law_874 (by decide) (fun hc => ?_) (fun hc => ?_)
          · replace h := h.1 hc
            refine e_goto (tgt := 1545) dL_law_889 (by decide) ?_
            refine e_iinc dL_law_1545 rfl ?_
            refine e_goto (tgt := 23) dL_law_1548 (by decide) ?_
            exact e_forget (am_sub_k (am_sub_k (am_sub_k (am_sub_k (am_sub_k (am_sub_d (am_sub_d (am_sub_d (am_sub_d am_sub_nil))))))))) h
          · replace h := h.2 hc
            refine e_aload_n dL_law_877 rfl trivial ?_
            refine e_iconst dL_law_878 ?_
            obtain ⟨hK264, h⟩ := h
            obtain ⟨⟨h0, h1⟩, h⟩ := h
            refine e_lald dL_law_879 hK264 h0 h1 ?_
            show am_E _ _ _ _ _ _ (am_j (I259 l3 0) :: _) _ _ _ _ _ _ _
            refine e_iload dL_law_880 rfl ?_
            refine e_i2l dL_law_882 ?_
            refine e_lcmp dL_law_883 (fun hc => ?_) (fun hc v hv => ?_)
            · replace h := h.1 hc
              refine e_if_eq (tgt := 889) dL_law_884 (by decide) (fun _ => ?_) (fun q => absurd rfl q)
              refine e_goto (tgt := 1545) dL_law_889 (by decide) ?_
              refine e_iinc dL_law_1545 rfl ?_
              refine e_goto (tgt := 23) dL_law_1548 (by decide) ?_
              exact e_forget (am_sub_k (am_sub_k (am_sub_k (am_sub_k (am_sub_k (am_sub_d (am_sub_d (am_sub_d (am_sub_d am_sub_nil))))))))) h
            · replace h := h.2 hc
              refine e_if_eq (tgt := 889) dL_law_884 (by decide) (fun q => absurd q hv) (fun _ => ?_)
              refine e_iconst dL_law_887 ?_
              obtain ⟨⟨hk9, hn9⟩, h⟩ := h
              exact e_ret_z dL_law_888 rfl (by decide) hk9 hn9 h
        · replace h := h.2 hc
          refine e_iconst dL_law_870 ?_
          obtain ⟨⟨hk9, hn9⟩, h⟩ := h
          exact e_ret_z dL_law_871 rfl (by decide) hk9 hn9 h
      · have h := h.2.2.2.2.2.2.2.2.2.2.2.2.1 (by omega)
        show am_E _ _ 892 _ _ _ _ _ _ _ _ _ _ _
        refine e_aload_n dL_law_892 rfl trivial ?_
        refine e_aload_n dL_law_893 rfl trivial ?_
        refine e_iload dL_law_894 rfl ?_
        refine e_iconst dL_law_896 ?_
        refine e_iadd dL_law_897 ?_
        obtain ⟨⟨h0, h1⟩, h⟩ := h
        refine e_iald dL_law_898 hK1 h0 h1 ?_
        refine e_aload_n dL_law_899 rfl trivial ?_
        obtain ⟨⟨hk9, hn9⟩, h⟩ := h
        refine e_callSX (Mc := m_L_total) (vs := [am_r l1, am_i (I l0 (Int.toNat (am_wr (l4 + 1)))), am_r l3]) (st := []) dL_law_900 ok_L_total rfl mk_L_134 sm_L_total rfl rfl (by omega) (Nat.le_of_ble_eq_true rfl) hk9 hn9 am_xh_nx (am_C_mono h (fun v K265 N266 I267 P268 z269 h => ?_) (fun _ _ _ _ _ _ h => h))
        replace h := am_iv_or h
        obtain ⟨x270, rfl, h⟩ := h
        show am_E d m_L_law 903 (k + 1) (n + 6) _ [am_i x270] K265 N266 I267 P268 z269 Q am_nx
        refine e_istore dL_law_903 ?_
        refine e_aload_n dL_law_905 rfl trivial ?_
        refine e_aload_n dL_law_906 rfl trivial ?_
        refine e_iload dL_law_907 rfl ?_
        refine e_iconst dL_law_909 ?_
        refine e_iadd dL_law_910 ?_
        obtain ⟨hK271, h⟩ := h
        obtain ⟨⟨h0, h1⟩, h⟩ := h
        refine e_iald dL_law_911 hK271 h0 h1 ?_
        obtain ⟨⟨hk9, hn9⟩, h⟩ := h
        obtain ⟨hK277, h⟩ := h
        refine e_callV (Mc := m_X8_total) (vs := [am_i (I267 l0 (Int.toNat (am_wr (l4 + 1))))]) (st := []) dL_law_912 ok_X8_total rfl ⟨by decide, rfl⟩ mk_L_136 im_X8_total sl_X8_total rfl rfl hK277 (by omega) (Nat.le_of_ble_eq_true rfl) hk9 hn9 am_xh_nx (am_C_mono h (fun v K272 N273 I274 P275 z276 h => ?_) (fun _ _ _ _ _ _ h => h))
        replace h := am_iv_or h
        obtain ⟨x278, rfl, h⟩ := h
        show am_E d m_L_law 915 (k + 1) (n + 6) _ [am_i x278] K272 N273 I274 P275 z276 Q am_nx
        refine e_istore dL_law_915 ?_
        refine e_aload_n dL_law_917 rfl trivial ?_
        obtain ⟨⟨hk9, hn9⟩, h⟩ := h
        obtain ⟨hK284, h⟩ := h
        refine e_callV (Mc := m_X8_thrown) (vs := []) (st := []) dL_law_918 ok_X8_thrown rfl ⟨by decide, rfl⟩ mk_L_95 im_X8_thrown sl_X8_thrown rfl rfl hK284 (by omega) (Nat.le_of_ble_eq_true rfl) hk9 hn9 am_xh_nx (am_C_mono h (fun v K279 N280 I281 P282 z283 h => ?_) (fun _ _ _ _ _ _ h => h))
        replace h := am_iv_or h
        obtain ⟨x285, rfl, h⟩ := h
        show am_E d m_L_law 921 (k + 1) (n + 6) _ [am_i x285] K279 N280 I281 P282 z283 Q am_nx
        refine e_iload dL_law_921 rfl ?_
        refine e_icmp_eq (tgt := 928) dL_law_923 (by decide) (fun hc => ?_) (fun hc => ?_)
        · replace h := h.1 hc
          refine e_iload dL_law_928 rfl ?_
          refine e_if_ne (tgt := 945) dL_law_930 (by decide) (fun hc => ?_) (fun hc => ?_)
          · replace h := h.1 hc
            refine e_goto (tgt := 1545) dL_law_945 (by decide) ?_
            refine e_iinc dL_law_1545 rfl ?_
            refine e_goto (tgt := 23) dL_law_1548 (by decide) ?_
            exact e_forget (am_sub_k (am_sub_k (am_sub_k (am_sub_k (am_sub_k (am_sub_d (am_sub_d (am_sub_d (am_sub_d am_sub_nil))))))))) h
          · replace h := h.2 hc
            refine e_aload_n dL_law_933 rfl trivial ?_
            refine e_iconst dL_law_934 ?_
            obtain ⟨hK286, h⟩ := h
            obtain ⟨⟨h0, h1⟩, h⟩ := h
            refine e_lald dL_law_935 hK286 h0 h1 ?_
            show am_E _ _ _ _ _ _ (am_j (I281 l3 0) :: _) _ _ _ _ _ _ _
            refine e_iload dL_law_936 rfl ?_
            refine e_i2l dL_law_938 ?_
            refine e_lcmp dL_law_939 (fun hc => ?_) (fun hc v hv => ?_)
            · replace h := h.1 hc
              refine e_if_eq (tgt := 945) dL_law_940 (by decide) (fun _ => ?_) (fun q => absurd rfl q)
              refine e_goto (tgt := 1545) dL_law_945 (by decide) ?_
              refine e_iinc dL_law_1545 rfl ?_
              refine e_goto (tgt := 23) dL_law_1548 (by decide) ?_
              exact e_forget (am_sub_k (am_sub_k (am_sub_k (am_sub_k (am_sub_k (am_sub_d (am_sub_d (am_sub_d (am_sub_d am_sub_nil))))))))) h
            · replace h := h.2 hc
              refine e_if_eq (tgt := 945) dL_law_940 (by decide) (fun q => absurd q hv) (fun _ => ?_)
              refine e_iconst dL_law_943 ?_
              obtain ⟨⟨hk9, hn9⟩, h⟩ := h
              exact e_ret_z dL_law_944 rfl (by decide) hk9 hn9 h
        · replace h := h.2 hc
          refine e_iconst dL_law_926 ?_
          obtain ⟨⟨hk9, hn9⟩, h⟩ := h
          exact e_ret_z dL_law_927 rfl (by decide) hk9 hn9 h
      · have h := h.2.2.2.2.2.2.2.2.2.2.2.2.2.1 (by omega)
        show am_E _ _ 948 _ _ _ _ _ _ _ _ _ _ _
        refine e_aload_n dL_law_948 rfl trivial ?_
        refine e_aload_n dL_law_949 rfl trivial ?_
        refine e_iload dL_law_950 rfl ?_
        refine e_iconst dL_law_952 ?_
        refine e_iadd dL_law_953 ?_
        obtain ⟨⟨h0, h1⟩, h⟩ := h
        refine e_iald dL_law_954 hK1 h0 h1 ?_
        refine e_aload_n dL_law_955 rfl trivial ?_
        obtain ⟨⟨hk9, hn9⟩, h⟩ := h
        refine e_callSX (Mc := m_L_lost) (vs := [am_r l1, am_i (I l0 (Int.toNat (am_wr (l4 + 1)))), am_r l3]) (st := []) dL_law_956 ok_L_lost rfl mk_L_137 sm_L_lost rfl rfl (by omega) (Nat.le_of_ble_eq_true rfl) hk9 hn9 am_xh_nx (am_C_mono h (fun v K287 N288 I289 P290 z291 h => ?_) (fun _ _ _ _ _ _ h => h))
        replace h := am_iv_or h
        obtain ⟨x292, rfl, h⟩ := h
        show am_E d m_L_law 959 (k + 1) (n + 6) _ [am_i x292] K287 N288 I289 P290 z291 Q am_nx
        refine e_istore dL_law_959 ?_
        refine e_aload_n dL_law_961 rfl trivial ?_
        refine e_aload_n dL_law_962 rfl trivial ?_
        refine e_iload dL_law_963 rfl ?_
        refine e_iconst dL_law_965 ?_
        refine e_iadd dL_law_966 ?_
        obtain ⟨hK293, h⟩ := h
        obtain ⟨⟨h0, h1⟩, h⟩ := h
        refine e_iald dL_law_967 hK293 h0 h1 ?_
        obtain ⟨⟨hk9, hn9⟩, h⟩ := h
        obtain ⟨hK299, h⟩ := h
        refine e_callV (Mc := m_X8_lost) (vs := [am_i (I289 l0 (Int.toNat (am_wr (l4 + 1))))]) (st := []) dL_law_968 ok_X8_lost rfl ⟨by decide, rfl⟩ mk_L_139 im_X8_lost sl_X8_lost rfl rfl hK299 (by omega) (Nat.le_of_ble_eq_true rfl) hk9 hn9 am_xh_nx (am_C_mono h (fun v K294 N295 I296 P297 z298 h => ?_) (fun _ _ _ _ _ _ h => h))
        replace h := am_iv_or h
        obtain ⟨x300, rfl, h⟩ := h
        show am_E d m_L_law 971 (k + 1) (n + 6) _ [am_i x300] K294 N295 I296 P297 z298 Q am_nx
        refine e_istore dL_law_971 ?_
        refine e_aload_n dL_law_973 rfl trivial ?_
        obtain ⟨⟨hk9, hn9⟩, h⟩ := h
        obtain ⟨hK306, h⟩ := h
        refine e_callV (Mc := m_X8_thrown) (vs := []) (st := []) dL_law_974 ok_X8_thrown rfl ⟨by decide, rfl⟩ mk_L_95 im_X8_thrown sl_X8_thrown rfl rfl hK306 (by omega) (Nat.le_of_ble_eq_true rfl) hk9 hn9 am_xh_nx (am_C_mono h (fun v K301 N302 I303 P304 z305 h => ?_) (fun _ _ _ _ _ _ h => h))
        replace h := am_iv_or h
        obtain ⟨x307, rfl, h⟩ := h
        show am_E d m_L_law 977 (k + 1) (n + 6) _ [am_i x307] K301 N302 I303 P304 z305 Q am_nx
        refine e_iload dL_law_977 rfl ?_
        refine e_icmp_eq (tgt := 984) dL_law_979 (by decide) (fun hc => ?_) (fun hc => ?_)
        · replace h := h.1 hc
          refine e_iload dL_law_984 rfl ?_
          refine e_if_ne (tgt := 1001) dL_law_986 (by decide) (fun hc => ?_) (fun hc => ?_)
          · replace h := h.1 hc
            refine e_goto (tgt := 1545) dL_law_1001 (by decide) ?_
            refine e_iinc dL_law_1545 rfl ?_
            refine e_goto (tgt := 23) dL_law_1548 (by decide) ?_
            exact e_forget (am_sub_k (am_sub_k (am_sub_k (am_sub_k (am_sub_k (am_sub_d (am_sub_d (am_sub_d (am_sub_d am_sub_nil))))))))) h
          · replace h := h.2 hc
            refine e_aload_n dL_law_989 rfl trivial ?_
            refine e_iconst dL_law_990 ?_
            obtain ⟨hK308, h⟩ := h
            obtain ⟨⟨h0, h1⟩, h⟩ := h
            refine e_lald dL_law_991 hK308 h0 h1 ?_
            show am_E _ _ _ _ _ _ (am_j (I303 l3 0) :: _) _ _ _ _ _ _ _
            refine e_iload dL_law_992 rfl ?_
            refine e_i2l dL_law_994 ?_
            refine e_lcmp dL_law_995 (fun hc => ?_) (fun hc v hv => ?_)
            · replace h := h.1 hc
              refine e_if_eq (tgt := 1001) dL_law_996 (by decide) (fun _ => ?_) (fun q => absurd rfl q)
              refine e_goto (tgt := 1545) dL_law_1001 (by decide) ?_
              refine e_iinc dL_law_1545 rfl ?_
              refine e_goto (tgt := 23) dL_law_1548 (by decide) ?_
              exact e_forget (am_sub_k (am_sub_k (am_sub_k (am_sub_k (am_sub_k (am_sub_d (am_sub_d (am_sub_d (am_sub_d am_sub_nil))))))))) h
            · replace h := h.2 hc
              refine e_if_eq (tgt := 1001) dL_law_996 (by decide) (fun q => absurd q hv) (fun _ => ?_)
              refine e_iconst dL_law_999 ?_
              obtain ⟨⟨hk9, hn9⟩, h⟩ := h
              exact e_ret_z dL_law_1000 rfl (by decide) hk9 hn9 h
        · replace h := h.2 hc
          refine e_iconst dL_law_982 ?_
          obtain ⟨⟨hk9, hn9⟩, h⟩ := h
          exact e_ret_z dL_law_983 rfl (by decide) hk9 hn9 h
      · have h := h.2.2.2.2.2.2.2.2.2.2.2.2.2.2.1 (by omega)
        show am_E _ _ 1004 _ _ _ _ _ _ _ _ _ _ _
        refine e_aload_n dL_law_1004 rfl trivial ?_
        refine e_aload_n dL_law_1005 rfl trivial ?_
        refine e_iload dL_law_1006 rfl ?_
        refine e_iconst dL_law_1008 ?_
        refine e_iadd dL_law_1009 ?_
        obtain ⟨⟨h0, h1⟩, h⟩ := h
        refine e_iald dL_law_1010 hK1 h0 h1 ?_
        refine e_aload_n dL_law_1011 rfl trivial ?_
        obtain ⟨⟨hk9, hn9⟩, h⟩ := h
        refine e_callSX (Mc := m_L_setting) (vs := [am_r l1, am_i (I l0 (Int.toNat (am_wr (l4 + 1)))), am_r l3]) (st := []) dL_law_1012 ok_L_setting rfl mk_L_140 sm_L_setting rfl rfl (by omega) (Nat.le_of_ble_eq_true rfl) hk9 hn9 am_xh_nx (am_C_mono h (fun v K309 N310 I311 P312 z313 h => ?_) (fun _ _ _ _ _ _ h => h))
        replace h := am_iv_or h
        obtain ⟨x314, rfl, h⟩ := h
        show am_E d m_L_law 1015 (k + 1) (n + 6) _ [am_i x314] K309 N310 I311 P312 z313 Q am_nx
        refine e_istore dL_law_1015 ?_
        refine e_aload_n dL_law_1017 rfl trivial ?_
        refine e_aload_n dL_law_1018 rfl trivial ?_
        refine e_iload dL_law_1019 rfl ?_
        refine e_iconst dL_law_1021 ?_
        refine e_iadd dL_law_1022 ?_
        obtain ⟨hK315, h⟩ := h
        obtain ⟨⟨h0, h1⟩, h⟩ := h
        refine e_iald dL_law_1023 hK315 h0 h1 ?_
        obtain ⟨⟨hk9, hn9⟩, h⟩ := h
        obtain ⟨hK321, h⟩ := h
        refine e_callV (Mc := m_X8_setting) (vs := [am_i (I311 l0 (Int.toNat (am_wr (l4 + 1))))]) (st := []) dL_law_1024 ok_X8_setting rfl ⟨by decide, rfl⟩ mk_L_142 im_X8_setting sl_X8_setting rfl rfl hK321 (by omega) (Nat.le_of_ble_eq_true rfl) hk9 hn9 am_xh_nx (am_C_mono h (fun v K316 N317 I318 P319 z320 h => ?_) (fun _ _ _ _ _ _ h => h))
        replace h := am_iv_or h
        obtain ⟨x322, rfl, h⟩ := h
        show am_E d m_L_law 1027 (k + 1) (n + 6) _ [am_i x322] K316 N317 I318 P319 z320 Q am_nx
        refine e_istore dL_law_1027 ?_
        refine e_aload_n dL_law_1029 rfl trivial ?_
        obtain ⟨⟨hk9, hn9⟩, h⟩ := h
        obtain ⟨hK328, h⟩ := h
        refine e_callV (Mc := m_X8_thrown) (vs := []) (st := []) dL_law_1030 ok_X8_thrown rfl ⟨by decide, rfl⟩ mk_L_95 im_X8_thrown sl_X8_thrown rfl rfl hK328 (by omega) (Nat.le_of_ble_eq_true rfl) hk9 hn9 am_xh_nx (am_C_mono h (fun v K323 N324 I325 P326 z327 h => ?_) (fun _ _ _ _ _ _ h => h))
        replace h := am_iv_or h
        obtain ⟨x329, rfl, h⟩ := h
        show am_E d m_L_law 1033 (k + 1) (n + 6) _ [am_i x329] K323 N324 I325 P326 z327 Q am_nx
        refine e_iload dL_law_1033 rfl ?_
        refine e_icmp_eq (tgt := 1040) dL_law_1035 (by decide) (fun hc => ?_) (fun hc => ?_)
        · replace h := h.1 hc
          refine e_iload dL_law_1040 rfl ?_
          refine e_if_ne (tgt := 1057) dL_law_1042 (by decide) (fun hc => ?_) (fun hc => ?_)
          · replace h := h.1 hc
            refine e_goto (tgt := 1545) dL_law_1057 (by decide) ?_
            refine e_iinc dL_law_1545 rfl ?_
            refine e_goto (tgt := 23) dL_law_1548 (by decide) ?_
            exact e_forget (am_sub_k (am_sub_k (am_sub_k (am_sub_k (am_sub_k (am_sub_d (am_sub_d (am_sub_d (am_sub_d am_sub_nil))))))))) h
          · replace h := h.2 hc
            refine e_aload_n dL_law_1045 rfl trivial ?_
            refine e_iconst dL_law_1046 ?_
            obtain ⟨hK330, h⟩ := h
            obtain ⟨⟨h0, h1⟩, h⟩ := h
            refine e_lald dL_law_1047 hK330 h0 h1 ?_
            show am_E _ _ _ _ _ _ (am_j (I325 l3 0) :: _) _ _ _ _ _ _ _
            refine e_iload dL_law_1048 rfl ?_
            refine e_i2l dL_law_1050 ?_
            refine e_lcmp dL_law_1051 (fun hc => ?_) (fun hc v hv => ?_)
            · replace h := h.1 hc
              refine e_if_eq (tgt := 1057) dL_law_1052 (by decide) (fun _ => ?_) (fun q => absurd rfl q)
              refine e_goto (tgt := 1545) dL_law_1057 (by decide) ?_
              refine e_iinc dL_law_1545 rfl ?_
              refine e_goto (tgt := 23) dL_law_1548 (by decide) ?_
              exact e_forget (am_sub_k (am_sub_k (am_sub_k (am_sub_k (am_sub_k (am_sub_d (am_sub_d (am_sub_d (am_sub_d am_sub_nil))))))))) h
            · replace h := h.2 hc
              refine e_if_eq (tgt := 1057) dL_law_1052 (by decide) (fun q => absurd q hv) (fun _ => ?_)
              refine e_iconst dL_law_1055 ?_
              obtain ⟨⟨hk9, hn9⟩, h⟩ := h
              exact e_ret_z dL_law_1056 rfl (by decide) hk9 hn9 h
        · replace h := h.2 hc
          refine e_iconst dL_law_1038 ?_
          obtain ⟨⟨hk9, hn9⟩, h⟩ := h
          exact e_ret_z dL_law_1039 rfl (by decide) hk9 hn9 h
      · have h := h.2.2.2.2.2.2.2.2.2.2.2.2.2.2.2.1 (by omega)
        show am_E _ _ 1060 _ _ _ _ _ _ _ _ _ _ _
        refine e_aload_n dL_law_1060 rfl trivial ?_
        refine e_aload_n dL_law_1061 rfl trivial ?_
        refine e_iload dL_law_1062 rfl ?_
        refine e_iconst dL_law_1064 ?_
        refine e_iadd dL_law_1065 ?_
        obtain ⟨⟨h0, h1⟩, h⟩ := h
        refine e_iald dL_law_1066 hK1 h0 h1 ?_
        refine e_aload_n dL_law_1067 rfl trivial ?_
        obtain ⟨⟨hk9, hn9⟩, h⟩ := h
        refine e_callSX (Mc := m_L_routeAt) (vs := [am_r l1, am_i (I l0 (Int.toNat (am_wr (l4 + 1)))), am_r l3]) (st := []) dL_law_1068 ok_L_routeAt rfl mk_L_143 sm_L_routeAt rfl rfl (by omega) (Nat.le_of_ble_eq_true rfl) hk9 hn9 am_xh_nx (am_C_mono h (fun v K331 N332 I333 P334 z335 h => ?_) (fun _ _ _ _ _ _ h => h))
        replace h := am_iv_or h
        obtain ⟨x336, rfl, h⟩ := h
        show am_E d m_L_law 1071 (k + 1) (n + 6) _ [am_i x336] K331 N332 I333 P334 z335 Q am_nx
        refine e_istore dL_law_1071 ?_
        refine e_aload_n dL_law_1073 rfl trivial ?_
        refine e_aload_n dL_law_1074 rfl trivial ?_
        refine e_iload dL_law_1075 rfl ?_
        refine e_iconst dL_law_1077 ?_
        refine e_iadd dL_law_1078 ?_
        obtain ⟨hK337, h⟩ := h
        obtain ⟨⟨h0, h1⟩, h⟩ := h
        refine e_iald dL_law_1079 hK337 h0 h1 ?_
        obtain ⟨⟨hk9, hn9⟩, h⟩ := h
        obtain ⟨hK343, h⟩ := h
        refine e_callV (Mc := m_X8_routeAt) (vs := [am_i (I333 l0 (Int.toNat (am_wr (l4 + 1))))]) (st := []) dL_law_1080 ok_X8_routeAt rfl ⟨by decide, rfl⟩ mk_L_145 im_X8_routeAt sl_X8_routeAt rfl rfl hK343 (by omega) (Nat.le_of_ble_eq_true rfl) hk9 hn9 am_xh_nx (am_C_mono h (fun v K338 N339 I340 P341 z342 h => ?_) (fun _ _ _ _ _ _ h => h))
        replace h := am_iv_or h
        obtain ⟨x344, rfl, h⟩ := h
        show am_E d m_L_law 1083 (k + 1) (n + 6) _ [am_i x344] K338 N339 I340 P341 z342 Q am_nx
        refine e_istore dL_law_1083 ?_
        refine e_aload_n dL_law_1085 rfl trivial ?_
        obtain ⟨⟨hk9, hn9⟩, h⟩ := h
        obtain ⟨hK350, h⟩ := h
        refine e_callV (Mc := m_X8_thrown) (vs := []) (st := []) dL_law_1086 ok_X8_thrown rfl ⟨by decide, rfl⟩ mk_L_95 im_X8_thrown sl_X8_thrown rfl rfl hK350 (by omega) (Nat.le_of_ble_eq_true rfl) hk9 hn9 am_xh_nx (am_C_mono h (fun v K345 N346 I347 P348 z349 h => ?_) (fun _ _ _ _ _ _ h => h))
        replace h := am_iv_or h
        obtain ⟨x351, rfl, h⟩ := h
        show am_E d m_L_law 1089 (k + 1) (n + 6) _ [am_i x351] K345 N346 I347 P348 z349 Q am_nx
        refine e_iload dL_law_1089 rfl ?_
        refine e_icmp_eq (tgt := 1096) dL_law_1091 (by decide) (fun hc => ?_) (fun hc => ?_)
        · replace h := h.1 hc
          refine e_iload dL_law_1096 rfl ?_
          refine e_if_ne (tgt := 1113) dL_law_1098 (by decide) (fun hc => ?_) (fun hc => ?_)
          · replace h := h.1 hc
            refine e_goto (tgt := 1545) dL_law_1113 (by decide) ?_
            refine e_iinc dL_law_1545 rfl ?_
            refine e_goto (tgt := 23) dL_law_1548 (by decide) ?_
            exact e_forget (am_sub_k (am_sub_k (am_sub_k (am_sub_k (am_sub_k (am_sub_d (am_sub_d (am_sub_d (am_sub_d am_sub_nil))))))))) h
          · replace h := h.2 hc
            refine e_aload_n dL_law_1101 rfl trivial ?_
            refine e_iconst dL_law_1102 ?_
            obtain ⟨hK352, h⟩ := h
            obtain ⟨⟨h0, h1⟩, h⟩ := h
            refine e_lald dL_law_1103 hK352 h0 h1 ?_
            show am_E _ _ _ _ _ _ (am_j (I347 l3 0) :: _) _ _ _ _ _ _ _
            refine e_iload dL_law_1104 rfl ?_
            refine e_i2l dL_law_1106 ?_
            refine e_lcmp dL_law_1107 (fun hc => ?_) (fun hc v hv => ?_)
            · replace h := h.1 hc
              refine e_if_eq (tgt := 1113) dL_law_1108 (by decide) (fun _ => ?_) (fun q => absurd rfl q)
              refine e_goto (tgt := 1545) dL_law_1113 (by decide) ?_
              refine e_iinc dL_law_1545 rfl ?_
              refine e_goto (tgt := 23) dL_law_1548 (by decide) ?_
              exact e_forget (am_sub_k (am_sub_k (am_sub_k (am_sub_k (am_sub_k (am_sub_d (am_sub_d (am_sub_d (am_sub_d am_sub_nil))))))))) h
            · replace h := h.2 hc
              refine e_if_eq (tgt := 1113) dL_law_1108 (by decide) (fun q => absurd q hv) (fun _ => ?_)
              refine e_iconst dL_law_1111 ?_
              obtain ⟨⟨hk9, hn9⟩, h⟩ := h
              exact e_ret_z dL_law_1112 rfl (by decide) hk9 hn9 h
        · replace h := h.2 hc
          refine e_iconst dL_law_1094 ?_
          obtain ⟨⟨hk9, hn9⟩, h⟩ := h
          exact e_ret_z dL_law_1095 rfl (by decide) hk9 hn9 h
      · have h := h.2.2.2.2.2.2.2.2.2.2.2.2.2.2.2.2.1 (by omega)
        show am_E _ _ 1116 _ _ _ _ _ _ _ _ _ _ _
        refine e_aload_n dL_law_1116 rfl trivial ?_
        refine e_aload_n dL_law_1117 rfl trivial ?_
        refine e_iload dL_law_1118 rfl ?_
        refine e_iconst dL_law_1120 ?_
        refine e_iadd dL_law_1121 ?_
        obtain ⟨⟨h0, h1⟩, h⟩ := h
        refine e_iald dL_law_1122 hK1 h0 h1 ?_
        refine e_aload_n dL_law_1123 rfl trivial ?_
        obtain ⟨⟨hk9, hn9⟩, h⟩ := h
        refine e_callSX (Mc := m_L_gapAhead) (vs := [am_r l1, am_i (I l0 (Int.toNat (am_wr (l4 + 1)))), am_r l3]) (st := []) dL_law_1124 ok_L_gapAhead rfl mk_L_146 sm_L_gapAhead rfl rfl (by omega) (Nat.le_of_ble_eq_true rfl) hk9 hn9 am_xh_nx (am_C_mono h (fun v K353 N354 I355 P356 z357 h => ?_) (fun _ _ _ _ _ _ h => h))
        replace h := am_iv_or h
        obtain ⟨x358, rfl, h⟩ := h
        show am_E d m_L_law 1127 (k + 1) (n + 6) _ [am_i x358] K353 N354 I355 P356 z357 Q am_nx
        refine e_istore dL_law_1127 ?_
        refine e_aload_n dL_law_1129 rfl trivial ?_
        refine e_aload_n dL_law_1130 rfl trivial ?_
        refine e_iload dL_law_1131 rfl ?_
        refine e_iconst dL_law_1133 ?_
        refine e_iadd dL_law_1134 ?_
        obtain ⟨hK359, h⟩ := h
        obtain ⟨⟨h0, h1⟩, h⟩ := h
        refine e_iald dL_law_1135 hK359 h0 h1 ?_
        obtain ⟨⟨hk9, hn9⟩, h⟩ := h
        obtain ⟨hK365, h⟩ := h
        refine e_callV (Mc := m_X8_gapAhead) (vs := [am_i (I355 l0 (Int.toNat (am_wr (l4 + 1))))]) (st := []) dL_law_1136 ok_X8_gapAhead rfl ⟨by decide, rfl⟩ mk_L_148 im_X8_gapAhead sl_X8_gapAhead rfl rfl hK365 (by omega) (Nat.le_of_ble_eq_true rfl) hk9 hn9 am_xh_nx (am_C_mono h (fun v K360 N361 I362 P363 z364 h => ?_) (fun _ _ _ _ _ _ h => h))
        replace h := am_iv_or h
        obtain ⟨x366, rfl, h⟩ := h
        show am_E d m_L_law 1139 (k + 1) (n + 6) _ [am_i x366] K360 N361 I362 P363 z364 Q am_nx
        refine e_istore dL_law_1139 ?_
        refine e_aload_n dL_law_1141 rfl trivial ?_
        obtain ⟨⟨hk9, hn9⟩, h⟩ := h
        obtain ⟨hK372, h⟩ := h
        refine e_callV (Mc := m_X8_thrown) (vs := []) (st := []) dL_law_1142 ok_X8_thrown rfl ⟨by decide, rfl⟩ mk_L_95 im_X8_thrown sl_X8_thrown rfl rfl hK372 (by omega) (Nat.le_of_ble_eq_true rfl) hk9 hn9 am_xh_nx (am_C_mono h (fun v K367 N368 I369 P370 z371 h => ?_) (fun _ _ _ _ _ _ h => h))
        replace h := am_iv_or h
        obtain ⟨x373, rfl, h⟩ := h
        show am_E d m_L_law 1145 (k + 1) (n + 6) _ [am_i x373] K367 N368 I369 P370 z371 Q am_nx
        refine e_iload dL_law_1145 rfl ?_
        refine e_icmp_eq (tgt := 1152) dL_law_1147 (by decide) (fun hc => ?_) (fun hc => ?_)
        · replace h := h.1 hc
          refine e_iload dL_law_1152 rfl ?_
          refine e_if_ne (tgt := 1169) dL_law_1154 (by decide) (fun hc => ?_) (fun hc => ?_)
          · replace h := h.1 hc
            refine e_goto (tgt := 1545) dL_law_1169 (by decide) ?_
            refine e_iinc dL_law_1545 rfl ?_
            refine e_goto (tgt := 23) dL_law_1548 (by decide) ?_
            exact e_forget (am_sub_k (am_sub_k (am_sub_k (am_sub_k (am_sub_k (am_sub_d (am_sub_d (am_sub_d (am_sub_d am_sub_nil))))))))) h
          · replace h := h.2 hc
            refine e_aload_n dL_law_1157 rfl trivial ?_
            refine e_iconst dL_law_1158 ?_
            obtain ⟨hK374, h⟩ := h
            obtain ⟨⟨h0, h1⟩, h⟩ := h
            refine e_lald dL_law_1159 hK374 h0 h1 ?_
            show am_E _ _ _ _ _ _ (am_j (I369 l3 0) :: _) _ _ _ _ _ _ _
            refine e_iload dL_law_1160 rfl ?_
            refine e_i2l dL_law_1162 ?_
            refine e_lcmp dL_law_1163 (fun hc => ?_) (fun hc v hv => ?_)
            · replace h := h.1 hc
              refine e_if_eq (tgt := 1169) dL_law_1164 (by decide) (fun _ => ?_) (fun q => absurd rfl q)
              refine e_goto (tgt := 1545) dL_law_1169 (by decide) ?_
              refine e_iinc dL_law_1545 rfl ?_
              refine e_goto (tgt := 23) dL_law_1548 (by decide) ?_
              exact e_forget (am_sub_k (am_sub_k (am_sub_k (am_sub_k (am_sub_k (am_sub_d (am_sub_d (am_sub_d (am_sub_d am_sub_nil))))))))) h
            · replace h := h.2 hc
              refine e_if_eq (tgt := 1169) dL_law_1164 (by decide) (fun q => absurd q hv) (fun _ => ?_)
              refine e_iconst dL_law_1167 ?_
              obtain ⟨⟨hk9, hn9⟩, h⟩ := h
              exact e_ret_z dL_law_1168 rfl (by decide) hk9 hn9 h
        · replace h := h.2 hc
          refine e_iconst dL_law_1150 ?_
          obtain ⟨⟨hk9, hn9⟩, h⟩ := h
          exact e_ret_z dL_law_1151 rfl (by decide) hk9 hn9 h
      · have h := h.2.2.2.2.2.2.2.2.2.2.2.2.2.2.2.2.2.1 (by omega)
        show am_E _ _ 1172 _ _ _ _ _ _ _ _ _ _ _
        refine e_aload_n dL_law_1172 rfl trivial ?_
        refine e_aload_n dL_law_1173 rfl trivial ?_
        refine e_iload dL_law_1174 rfl ?_
        refine e_iconst dL_law_1176 ?_
        refine e_iadd dL_law_1177 ?_
        obtain ⟨⟨h0, h1⟩, h⟩ := h
        refine e_iald dL_law_1178 hK1 h0 h1 ?_
        refine e_aload_n dL_law_1179 rfl trivial ?_
        obtain ⟨⟨hk9, hn9⟩, h⟩ := h
        refine e_callSX (Mc := m_L_ranked) (vs := [am_r l1, am_i (I l0 (Int.toNat (am_wr (l4 + 1)))), am_r l3]) (st := []) dL_law_1180 ok_L_ranked rfl mk_L_149 sm_L_ranked rfl rfl (by omega) (Nat.le_of_ble_eq_true rfl) hk9 hn9 am_xh_nx (am_C_mono h (fun v K375 N376 I377 P378 z379 h => ?_) (fun _ _ _ _ _ _ h => h))
        replace h := am_iv_or h
        obtain ⟨x380, rfl, h⟩ := h
        show am_E d m_L_law 1183 (k + 1) (n + 6) _ [am_i x380] K375 N376 I377 P378 z379 Q am_nx
        refine e_istore dL_law_1183 ?_
        refine e_aload_n dL_law_1185 rfl trivial ?_
        refine e_aload_n dL_law_1186 rfl trivial ?_
        refine e_iload dL_law_1187 rfl ?_
        refine e_iconst dL_law_1189 ?_
        refine e_iadd dL_law_1190 ?_
        obtain ⟨hK381, h⟩ := h
        obtain ⟨⟨h0, h1⟩, h⟩ := h
        refine e_iald dL_law_1191 hK381 h0 h1 ?_
        obtain ⟨⟨hk9, hn9⟩, h⟩ := h
        obtain ⟨hK387, h⟩ := h
        refine e_callV (Mc := m_X8_ranked) (vs := [am_i (I377 l0 (Int.toNat (am_wr (l4 + 1))))]) (st := []) dL_law_1192 ok_X8_ranked rfl ⟨by decide, rfl⟩ mk_L_151 im_X8_ranked sl_X8_ranked rfl rfl hK387 (by omega) (Nat.le_of_ble_eq_true rfl) hk9 hn9 am_xh_nx (am_C_mono h (fun v K382 N383 I384 P385 z386 h => ?_) (fun _ _ _ _ _ _ h => h))
        replace h := am_iv_or h
        obtain ⟨x388, rfl, h⟩ := h
        show am_E d m_L_law 1195 (k + 1) (n + 6) _ [am_i x388] K382 N383 I384 P385 z386 Q am_nx
        refine e_istore dL_law_1195 ?_
        refine e_aload_n dL_law_1197 rfl trivial ?_
        obtain ⟨⟨hk9, hn9⟩, h⟩ := h
        obtain ⟨hK394, h⟩ := h
        refine e_callV (Mc := m_X8_thrown) (vs := []) (st := []) dL_law_1198 ok_X8_thrown rfl ⟨by decide, rfl⟩ mk_L_95 im_X8_thrown sl_X8_thrown rfl rfl hK394 (by omega) (Nat.le_of_ble_eq_true rfl) hk9 hn9 am_xh_nx (am_C_mono h (fun v K389 N390 I391 P392 z393 h => ?_) (fun _ _ _ _ _ _ h => h))
        replace h := am_iv_or h
        obtain ⟨x395, rfl, h⟩ := h
        show am_E d m_L_law 1201 (k + 1) (n + 6) _ [am_i x395] K389 N390 I391 P392 z393 Q am_nx
        refine e_iload dL_law_1201 rfl ?_
        refine e_icmp_eq (tgt := 1208) dL_law_1203 (by decide) (fun hc => ?_) (fun hc => ?_)
        · replace h := h.1 hc
          refine e_iload dL_law_1208 rfl ?_
          refine e_if_ne (tgt := 1225) dL_law_1210 (by decide) (fun hc => ?_) (fun hc => ?_)
          · replace h := h.1 hc
            refine e_goto (tgt := 1545) dL_law_1225 (by decide) ?_
            refine e_iinc dL_law_1545 rfl ?_
            refine e_goto (tgt := 23) dL_law_1548 (by decide) ?_
            exact e_forget (am_sub_k (am_sub_k (am_sub_k (am_sub_k (am_sub_k (am_sub_d (am_sub_d (am_sub_d (am_sub_d am_sub_nil))))))))) h
          · replace h := h.2 hc
            refine e_aload_n dL_law_1213 rfl trivial ?_
            refine e_iconst dL_law_1214 ?_
            obtain ⟨hK396, h⟩ := h
            obtain ⟨⟨h0, h1⟩, h⟩ := h
            refine e_lald dL_law_1215 hK396 h0 h1 ?_
            show am_E _ _ _ _ _ _ (am_j (I391 l3 0) :: _) _ _ _ _ _ _ _
            refine e_iload dL_law_1216 rfl ?_
            refine e_i2l dL_law_1218 ?_
            refine e_lcmp dL_law_1219 (fun hc => ?_) (fun hc v hv => ?_)
            · replace h := h.1 hc
              refine e_if_eq (tgt := 1225) dL_law_1220 (by decide) (fun _ => ?_) (fun q => absurd rfl q)
              refine e_goto (tgt := 1545) dL_law_1225 (by decide) ?_
              refine e_iinc dL_law_1545 rfl ?_
              refine e_goto (tgt := 23) dL_law_1548 (by decide) ?_
              exact e_forget (am_sub_k (am_sub_k (am_sub_k (am_sub_k (am_sub_k (am_sub_d (am_sub_d (am_sub_d (am_sub_d am_sub_nil))))))))) h
            · replace h := h.2 hc
              refine e_if_eq (tgt := 1225) dL_law_1220 (by decide) (fun q => absurd q hv) (fun _ => ?_)
              refine e_iconst dL_law_1223 ?_
              obtain ⟨⟨hk9, hn9⟩, h⟩ := h
              exact e_ret_z dL_law_1224 rfl (by decide) hk9 hn9 h
        · replace h := h.2 hc
          refine e_iconst dL_law_1206 ?_
          obtain ⟨⟨hk9, hn9⟩, h⟩ := h
          exact e_ret_z dL_law_1207 rfl (by decide) hk9 hn9 h
      · have h := h.2.2.2.2.2.2.2.2.2.2.2.2.2.2.2.2.2.2.1 (by omega)
        show am_E _ _ 1228 _ _ _ _ _ _ _ _ _ _ _
        refine e_aload_n dL_law_1228 rfl trivial ?_
        obtain ⟨⟨hk9, hn9⟩, h⟩ := h
        obtain ⟨hK402, h⟩ := h
        refine e_callV (Mc := m_X7_share) (vs := []) (st := []) dL_law_1229 ok_X7_share rfl ⟨by decide, rfl⟩ mk_L_152 im_X7_share sl_X7_share rfl rfl hK402 (by omega) (Nat.le_of_ble_eq_true rfl) hk9 hn9 am_xh_nx (am_C_mono h (fun v K397 N398 I399 P400 z401 h => ?_) (fun _ _ _ _ _ _ h => h))
        replace h := am_dv_or h
        obtain ⟨x403, rfl, h⟩ := h
        show am_E d m_L_law 1232 k n _ [am_d x403] K397 N398 I399 P400 z401 Q am_nx
        refine e_dstore dL_law_1232 ?_
        refine e_aload_n dL_law_1234 rfl trivial ?_
        obtain ⟨⟨hk9, hn9⟩, h⟩ := h
        obtain ⟨hK409, h⟩ := h
        refine e_callV (Mc := m_X8_share) (vs := []) (st := []) dL_law_1235 ok_X8_share rfl ⟨by decide, rfl⟩ mk_L_156 im_X8_share sl_X8_share rfl rfl hK409 (by omega) (Nat.le_of_ble_eq_true rfl) hk9 hn9 am_xh_nx (am_C_mono h (fun v K404 N405 I406 P407 z408 h => ?_) (fun _ _ _ _ _ _ h => h))
        replace h := am_dv_or h
        obtain ⟨x410, rfl, h⟩ := h
        show am_E d m_L_law 1238 k n _ [am_d x410] K404 N405 I406 P407 z408 Q am_nx
        refine e_dstore dL_law_1238 ?_
        refine e_dload dL_law_1240 rfl ?_
        refine e_dload dL_law_1242 rfl ?_
        refine e_dcmp dL_law_1244 ?_
        refine e_if_eq (tgt := 1266) dL_law_1245 (by decide) (fun hc => ?_) (fun hc => ?_)
        · replace h := h.1 hc
          refine e_goto (tgt := 1545) dL_law_1266 (by decide) ?_
          refine e_iinc dL_law_1545 rfl ?_
          refine e_goto (tgt := 23) dL_law_1548 (by decide) ?_
          exact e_forget (am_sub_k (am_sub_k (am_sub_k (am_sub_k (am_sub_k (am_sub_d (am_sub_d (am_sub_d (am_sub_d am_sub_nil))))))))) h
        · replace h := h.2 hc
          refine e_dload dL_law_1248 rfl ?_
          refine e_dload dL_law_1250 rfl ?_
          refine e_dcmp dL_law_1252 ?_
          refine e_if_eq (tgt := 1264) dL_law_1253 (by decide) (fun hc => ?_) (fun hc => ?_)
          · replace h := h.1 hc
            refine e_iconst dL_law_1264 ?_
            obtain ⟨⟨hk9, hn9⟩, h⟩ := h
            exact e_ret_z dL_law_1265 rfl (by decide) hk9 hn9 h
          · replace h := h.2 hc
            refine e_dload dL_law_1256 rfl ?_
            refine e_dload dL_law_1258 rfl ?_
            refine e_dcmp dL_law_1260 ?_
            refine e_if_ne (tgt := 1266) dL_law_1261 (by decide) (fun hc => ?_) (fun hc => ?_)
            · replace h := h.1 hc
              refine e_goto (tgt := 1545) dL_law_1266 (by decide) ?_
              refine e_iinc dL_law_1545 rfl ?_
              refine e_goto (tgt := 23) dL_law_1548 (by decide) ?_
              exact e_forget (am_sub_k (am_sub_k (am_sub_k (am_sub_k (am_sub_k (am_sub_d (am_sub_d (am_sub_d (am_sub_d am_sub_nil))))))))) h
            · replace h := h.2 hc
              refine e_iconst dL_law_1264 ?_
              obtain ⟨⟨hk9, hn9⟩, h⟩ := h
              exact e_ret_z dL_law_1265 rfl (by decide) hk9 hn9 h
      · have h := h.2.2.2.2.2.2.2.2.2.2.2.2.2.2.2.2.2.2.2.1 (by omega)
        show am_E _ _ 1269 _ _ _ _ _ _ _ _ _ _ _
        refine e_aload_n dL_law_1269 rfl trivial ?_
        refine e_aload_n dL_law_1270 rfl trivial ?_
        refine e_iload dL_law_1271 rfl ?_
        refine e_iconst dL_law_1273 ?_
        refine e_iadd dL_law_1274 ?_
        obtain ⟨⟨h0, h1⟩, h⟩ := h
        refine e_iald dL_law_1275 hK1 h0 h1 ?_
        refine e_aload_n dL_law_1276 rfl trivial ?_
        obtain ⟨⟨hk9, hn9⟩, h⟩ := h
        refine e_callSX (Mc := m_L_fateOf) (vs := [am_r l1, am_i (I l0 (Int.toNat (am_wr (l4 + 1)))), am_r l3]) (st := []) dL_law_1277 ok_L_fateOf rfl mk_L_157 sm_L_fateOf rfl rfl (by omega) (Nat.le_of_ble_eq_true rfl) hk9 hn9 am_xh_nx (am_C_mono h (fun v K411 N412 I413 P414 z415 h => ?_) (fun _ _ _ _ _ _ h => h))
        replace h := am_iv_or h
        obtain ⟨x416, rfl, h⟩ := h
        show am_E d m_L_law 1280 (k + 1) (n + 6) _ [am_i x416] K411 N412 I413 P414 z415 Q am_nx
        refine e_istore dL_law_1280 ?_
        refine e_aload_n dL_law_1282 rfl trivial ?_
        refine e_aload_n dL_law_1283 rfl trivial ?_
        refine e_iload dL_law_1284 rfl ?_
        refine e_iconst dL_law_1286 ?_
        refine e_iadd dL_law_1287 ?_
        obtain ⟨hK417, h⟩ := h
        obtain ⟨⟨h0, h1⟩, h⟩ := h
        refine e_iald dL_law_1288 hK417 h0 h1 ?_
        obtain ⟨⟨hk9, hn9⟩, h⟩ := h
        obtain ⟨hK423, h⟩ := h
        refine e_callV (Mc := m_X8_fateOf) (vs := [am_i (I413 l0 (Int.toNat (am_wr (l4 + 1))))]) (st := []) dL_law_1289 ok_X8_fateOf rfl ⟨by decide, rfl⟩ mk_L_159 im_X8_fateOf sl_X8_fateOf rfl rfl hK423 (by omega) (Nat.le_of_ble_eq_true rfl) hk9 hn9 am_xh_nx (am_C_mono h (fun v K418 N419 I420 P421 z422 h => ?_) (fun _ _ _ _ _ _ h => h))
        replace h := am_iv_or h
        obtain ⟨x424, rfl, h⟩ := h
        show am_E d m_L_law 1292 (k + 1) (n + 6) _ [am_i x424] K418 N419 I420 P421 z422 Q am_nx
        refine e_istore dL_law_1292 ?_
        refine e_aload_n dL_law_1294 rfl trivial ?_
        obtain ⟨⟨hk9, hn9⟩, h⟩ := h
        obtain ⟨hK430, h⟩ := h
        refine e_callV (Mc := m_X8_thrown) (vs := []) (st := []) dL_law_1295 ok_X8_thrown rfl ⟨by decide, rfl⟩ mk_L_95 im_X8_thrown sl_X8_thrown rfl rfl hK430 (by omega) (Nat.le_of_ble_eq_true rfl) hk9 hn9 am_xh_nx (am_C_mono h (fun v K425 N426 I427 P428 z429 h => ?_) (fun _ _ _ _ _ _ h => h))
        replace h := am_iv_or h
        obtain ⟨x431, rfl, h⟩ := h
        show am_E d m_L_law 1298 (k + 1) (n + 6) _ [am_i x431] K425 N426 I427 P428 z429 Q am_nx
        refine e_iload dL_law_1298 rfl ?_
        refine e_icmp_eq (tgt := 1305) dL_law_1300 (by decide) (fun hc => ?_) (fun hc => ?_)
        · replace h := h.1 hc
          refine e_iload dL_law_1305 rfl ?_
          refine e_if_ne (tgt := 1322) dL_law_1307 (by decide) (fun hc => ?_) (fun hc => ?_)
          · replace h := h.1 hc
            refine e_goto (tgt := 1545) dL_law_1322 (by decide) ?_
            refine e_iinc dL_law_1545 rfl ?_
            refine e_goto (tgt := 23) dL_law_1548 (by decide) ?_
            exact e_forget (am_sub_k (am_sub_k (am_sub_k (am_sub_k (am_sub_k (am_sub_d (am_sub_d (am_sub_d (am_sub_d am_sub_nil))))))))) h
          · replace h := h.2 hc
            refine e_aload_n dL_law_1310 rfl trivial ?_
            refine e_iconst dL_law_1311 ?_
            obtain ⟨hK432, h⟩ := h
            obtain ⟨⟨h0, h1⟩, h⟩ := h
            refine e_lald dL_law_1312 hK432 h0 h1 ?_
            show am_E _ _ _ _ _ _ (am_j (I427 l3 0) :: _) _ _ _ _ _ _ _
            refine e_iload dL_law_1313 rfl ?_
            refine e_i2l dL_law_1315 ?_
            refine e_lcmp dL_law_1316 (fun hc => ?_) (fun hc v hv => ?_)
            · replace h := h.1 hc
              refine e_if_eq (tgt := 1322) dL_law_1317 (by decide) (fun _ => ?_) (fun q => absurd rfl q)
              refine e_goto (tgt := 1545) dL_law_1322 (by decide) ?_
              refine e_iinc dL_law_1545 rfl ?_
              refine e_goto (tgt := 23) dL_law_1548 (by decide) ?_
              exact e_forget (am_sub_k (am_sub_k (am_sub_k (am_sub_k (am_sub_k (am_sub_d (am_sub_d (am_sub_d (am_sub_d am_sub_nil))))))))) h
            · replace h := h.2 hc
              refine e_if_eq (tgt := 1322) dL_law_1317 (by decide) (fun q => absurd q hv) (fun _ => ?_)
              refine e_iconst dL_law_1320 ?_
              obtain ⟨⟨hk9, hn9⟩, h⟩ := h
              exact e_ret_z dL_law_1321 rfl (by decide) hk9 hn9 h
        · replace h := h.2 hc
          refine e_iconst dL_law_1303 ?_
          obtain ⟨⟨hk9, hn9⟩, h⟩ := h
          exact e_ret_z dL_law_1304 rfl (by decide) hk9 hn9 h
      · have h := h.2.2.2.2.2.2.2.2.2.2.2.2.2.2.2.2.2.2.2.2.1 (by omega)
        show am_E _ _ 1325 _ _ _ _ _ _ _ _ _ _ _
        refine e_aload_n dL_law_1325 rfl trivial ?_
        obtain ⟨⟨hk9, hn9⟩, h⟩ := h
        obtain ⟨hK438, h⟩ := h
        refine e_callV (Mc := m_X7_entryIn) (vs := []) (st := []) dL_law_1326 ok_X7_entryIn rfl ⟨by decide, rfl⟩ mk_L_160 im_X7_entryIn sl_X7_entryIn rfl rfl hK438 (by omega) (Nat.le_of_ble_eq_true rfl) hk9 hn9 am_xh_nx (am_C_mono h (fun v K433 N434 I435 P436 z437 h => ?_) (fun _ _ _ _ _ _ h => h))
        replace h := am_iv_or h
        obtain ⟨x439, rfl, h⟩ := h
        show am_E d m_L_law 1329 k n _ [am_i x439] K433 N434 I435 P436 z437 Q am_nx
        refine e_aload_n dL_law_1329 rfl trivial ?_
        obtain ⟨⟨hk9, hn9⟩, h⟩ := h
        obtain ⟨hK445, h⟩ := h
        refine e_callV (Mc := m_X8_entryIn) (vs := []) (st := [am_i x439]) dL_law_1330 ok_X8_entryIn rfl ⟨by decide, rfl⟩ mk_L_163 im_X8_entryIn sl_X8_entryIn rfl rfl hK445 (by omega) (Nat.le_of_ble_eq_true rfl) hk9 hn9 am_xh_nx (am_C_mono h (fun v K440 N441 I442 P443 z444 h => ?_) (fun _ _ _ _ _ _ h => h))
        replace h := am_iv_or h
        obtain ⟨x446, rfl, h⟩ := h
        show am_E d m_L_law 1333 k n _ [am_i x446, am_i x439] K440 N441 I442 P443 z444 Q am_nx
        refine e_icmp_eq (tgt := 1545) dL_law_1333 (by decide) (fun hc => ?_) (fun hc => ?_)
        · replace h := h.1 hc
          refine e_iinc dL_law_1545 rfl ?_
          refine e_goto (tgt := 23) dL_law_1548 (by decide) ?_
          exact e_forget (am_sub_k (am_sub_k (am_sub_k (am_sub_k (am_sub_k (am_sub_d (am_sub_d (am_sub_d (am_sub_d am_sub_nil))))))))) h
        · replace h := h.2 hc
          refine e_iconst dL_law_1336 ?_
          obtain ⟨⟨hk9, hn9⟩, h⟩ := h
          exact e_ret_z dL_law_1337 rfl (by decide) hk9 hn9 h
      · have h := h.2.2.2.2.2.2.2.2.2.2.2.2.2.2.2.2.2.2.2.2.2.1 (by omega)
        show am_E _ _ 1338 _ _ _ _ _ _ _ _ _ _ _
        refine e_aload_n dL_law_1338 rfl trivial ?_
        obtain ⟨⟨hk9, hn9⟩, h⟩ := h
        obtain ⟨hK452, h⟩ := h
        refine e_callV (Mc := m_X7_nextLeaving) (vs := []) (st := []) dL_law_1339 ok_X7_nextLeaving rfl ⟨by decide, rfl⟩ mk_L_164 im_X7_nextLeaving sl_X7_nextLeaving rfl rfl hK452 (by omega) (Nat.le_of_ble_eq_true rfl) hk9 hn9 am_xh_nx (am_C_mono h (fun v K447 N448 I449 P450 z451 h => ?_) (fun _ _ _ _ _ _ h => h))
        replace h := am_iv_or h
        obtain ⟨x453, rfl, h⟩ := h
        show am_E d m_L_law 1342 k n _ [am_i x453] K447 N448 I449 P450 z451 Q am_nx
        refine e_aload_n dL_law_1342 rfl trivial ?_
        obtain ⟨⟨hk9, hn9⟩, h⟩ := h
        obtain ⟨hK459, h⟩ := h
        refine e_callV (Mc := m_X8_nextLeaving) (vs := []) (st := [am_i x453]) dL_law_1343 ok_X8_nextLeaving rfl ⟨by decide, rfl⟩ mk_L_167 im_X8_nextLeaving sl_X8_nextLeaving rfl rfl hK459 (by omega) (Nat.le_of_ble_eq_true rfl) hk9 hn9 am_xh_nx (am_C_mono h (fun v K454 N455 I456 P457 z458 h => ?_) (fun _ _ _ _ _ _ h => h))
        replace h := am_iv_or h
        obtain ⟨x460, rfl, h⟩ := h
        show am_E d m_L_law 1346 k n _ [am_i x460, am_i x453] K454 N455 I456 P457 z458 Q am_nx
        refine e_icmp_eq (tgt := 1545) dL_law_1346 (by decide) (fun hc => ?_) (fun hc => ?_)
        · replace h := h.1 hc
          refine e_iinc dL_law_1545 rfl ?_
          refine e_goto (tgt := 23) dL_law_1548 (by decide) ?_
          exact e_forget (am_sub_k (am_sub_k (am_sub_k (am_sub_k (am_sub_k (am_sub_d (am_sub_d (am_sub_d (am_sub_d am_sub_nil))))))))) h
        · replace h := h.2 hc
          refine e_iconst dL_law_1349 ?_
          obtain ⟨⟨hk9, hn9⟩, h⟩ := h
          exact e_ret_z dL_law_1350 rfl (by decide) hk9 hn9 h
      · have h := h.2.2.2.2.2.2.2.2.2.2.2.2.2.2.2.2.2.2.2.2.2.2.1 (by omega)
        show am_E _ _ 1351 _ _ _ _ _ _ _ _ _ _ _
        refine e_aload_n dL_law_1351 rfl trivial ?_
        refine e_aload_n dL_law_1352 rfl trivial ?_
        refine e_iload dL_law_1353 rfl ?_
        refine e_iconst dL_law_1355 ?_
        refine e_iadd dL_law_1356 ?_
        obtain ⟨⟨h0, h1⟩, h⟩ := h
        refine e_iald dL_law_1357 hK1 h0 h1 ?_
        refine e_aload_n dL_law_1358 rfl trivial ?_
        refine e_iload dL_law_1359 rfl ?_
        refine e_iconst dL_law_1361 ?_
        refine e_iadd dL_law_1362 ?_
        obtain ⟨⟨h0, h1⟩, h⟩ := h
        refine e_iald dL_law_1363 hK1 h0 h1 ?_
        refine e_aload_n dL_law_1364 rfl trivial ?_
        obtain ⟨⟨hk9, hn9⟩, h⟩ := h
        refine e_callSX (Mc := m_L_laneFor) (vs := [am_r l1, am_i (I l0 (Int.toNat (am_wr (l4 + 1)))), am_i (I l0 (Int.toNat (am_wr (l4 + 2)))), am_r l3]) (st := []) dL_law_1365 ok_L_laneFor rfl mk_L_168 sm_L_laneFor rfl rfl (by omega) (Nat.le_of_ble_eq_true rfl) hk9 hn9 am_xh_nx (am_C_mono h (fun v K461 N462 I463 P464 z465 h => ?_) (fun _ _ _ _ _ _ h => h))
        replace h := am_iv_or h
        obtain ⟨x466, rfl, h⟩ := h
        show am_E d m_L_law 1368 (k + 1) (n + 6) _ [am_i x466] K461 N462 I463 P464 z465 Q am_nx
        refine e_istore dL_law_1368 ?_
        refine e_aload_n dL_law_1370 rfl trivial ?_
        refine e_aload_n dL_law_1371 rfl trivial ?_
        refine e_iload dL_law_1372 rfl ?_
        refine e_iconst dL_law_1374 ?_
        refine e_iadd dL_law_1375 ?_
        obtain ⟨hK467, h⟩ := h
        obtain ⟨⟨h0, h1⟩, h⟩ := h
        refine e_iald dL_law_1376 hK467 h0 h1 ?_
        refine e_aload_n dL_law_1377 rfl trivial ?_
        refine e_iload dL_law_1378 rfl ?_
        refine e_iconst dL_law_1380 ?_
        refine e_iadd dL_law_1381 ?_
        obtain ⟨⟨h0, h1⟩, h⟩ := h
        refine e_iald dL_law_1382 hK467 h0 h1 ?_
        obtain ⟨⟨hk9, hn9⟩, h⟩ := h
        obtain ⟨hK473, h⟩ := h
        refine e_callV (Mc := m_X8_laneFor) (vs := [am_i (I463 l0 (Int.toNat (am_wr (l4 + 1)))), am_i (I463 l0 (Int.toNat (am_wr (l4 + 2))))]) (st := []) dL_law_1383 ok_X8_laneFor rfl ⟨by decide, rfl⟩ mk_L_170 im_X8_laneFor sl_X8_laneFor rfl rfl hK473 (by omega) (Nat.le_of_ble_eq_true rfl) hk9 hn9 am_xh_nx (am_C_mono h (fun v K468 N469 I470 P471 z472 h => ?_) (fun _ _ _ _ _ _ h => h))
        replace h := am_iv_or h
        obtain ⟨x474, rfl, h⟩ := h
        show am_E d m_L_law 1386 (k + 1) (n + 6) _ [am_i x474] K468 N469 I470 P471 z472 Q am_nx
        refine e_istore dL_law_1386 ?_
        refine e_aload_n dL_law_1388 rfl trivial ?_
        obtain ⟨⟨hk9, hn9⟩, h⟩ := h
        obtain ⟨hK480, h⟩ := h
        refine e_callV (Mc := m_X8_thrown) (vs := []) (st := []) dL_law_1389 ok_X8_thrown rfl ⟨by decide, rfl⟩ mk_L_95 im_X8_thrown sl_X8_thrown rfl rfl hK480 (by omega) (Nat.le_of_ble_eq_true rfl) hk9 hn9 am_xh_nx (am_C_mono h (fun v K475 N476 I477 P478 z479 h => ?_) (fun _ _ _ _ _ _ h => h))
        replace h := am_iv_or h
        obtain ⟨x481, rfl, h⟩ := h
        show am_E d m_L_law 1392 (k + 1) (n + 6) _ [am_i x481] K475 N476 I477 P478 z479 Q am_nx
        refine e_iload dL_law_1392 rfl ?_
        refine e_icmp_eq (tgt := 1399) dL_law_1394 (by decide) (fun hc => ?_) (fun hc => ?_)
        · replace h := h.1 hc
          refine e_iload dL_law_1399 rfl ?_
          refine e_if_ne (tgt := 1416) dL_law_1401 (by decide) (fun hc => ?_) (fun hc => ?_)
          · replace h := h.1 hc
            refine e_goto (tgt := 1545) dL_law_1416 (by decide) ?_
            refine e_iinc dL_law_1545 rfl ?_
            refine e_goto (tgt := 23) dL_law_1548 (by decide) ?_
            exact e_forget (am_sub_k (am_sub_k (am_sub_k (am_sub_k (am_sub_k (am_sub_d (am_sub_d (am_sub_d (am_sub_d am_sub_nil))))))))) h
          · replace h := h.2 hc
            refine e_aload_n dL_law_1404 rfl trivial ?_
            refine e_iconst dL_law_1405 ?_
            obtain ⟨hK482, h⟩ := h
            obtain ⟨⟨h0, h1⟩, h⟩ := h
            refine e_lald dL_law_1406 hK482 h0 h1 ?_
            show am_E _ _ _ _ _ _ (am_j (I477 l3 0) :: _) _ _ _ _ _ _ _
            refine e_iload dL_law_1407 rfl ?_
            refine e_i2l dL_law_1409 ?_
            refine e_lcmp dL_law_1410 (fun hc => ?_) (fun hc v hv => ?_)
            · replace h := h.1 hc
              refine e_if_eq (tgt := 1416) dL_law_1411 (by decide) (fun _ => ?_) (fun q => absurd rfl q)
              refine e_goto (tgt := 1545) dL_law_1416 (by decide) ?_
              refine e_iinc dL_law_1545 rfl ?_
              refine e_goto (tgt := 23) dL_law_1548 (by decide) ?_
              exact e_forget (am_sub_k (am_sub_k (am_sub_k (am_sub_k (am_sub_k (am_sub_d (am_sub_d (am_sub_d (am_sub_d am_sub_nil))))))))) h
            · replace h := h.2 hc
              refine e_if_eq (tgt := 1416) dL_law_1411 (by decide) (fun q => absurd q hv) (fun _ => ?_)
              refine e_iconst dL_law_1414 ?_
              obtain ⟨⟨hk9, hn9⟩, h⟩ := h
              exact e_ret_z dL_law_1415 rfl (by decide) hk9 hn9 h
        · replace h := h.2 hc
          refine e_iconst dL_law_1397 ?_
          obtain ⟨⟨hk9, hn9⟩, h⟩ := h
          exact e_ret_z dL_law_1398 rfl (by decide) hk9 hn9 h
      · have h := h.2.2.2.2.2.2.2.2.2.2.2.2.2.2.2.2.2.2.2.2.2.2.2.1 (by omega)
        show am_E _ _ 1419 _ _ _ _ _ _ _ _ _ _ _
        refine e_aload_n dL_law_1419 rfl trivial ?_
        refine e_aload_n dL_law_1420 rfl trivial ?_
        refine e_iload dL_law_1421 rfl ?_
        refine e_iconst dL_law_1423 ?_
        refine e_iadd dL_law_1424 ?_
        obtain ⟨⟨h0, h1⟩, h⟩ := h
        refine e_iald dL_law_1425 hK1 h0 h1 ?_
        refine e_aload_n dL_law_1426 rfl trivial ?_
        obtain ⟨⟨hk9, hn9⟩, h⟩ := h
        refine e_callSX (Mc := m_L_append) (vs := [am_r l1, am_i (I l0 (Int.toNat (am_wr (l4 + 1)))), am_r l3]) (st := []) dL_law_1427 ok_L_append rfl mk_L_171 sm_L_append rfl rfl (by omega) (Nat.le_of_ble_eq_true rfl) hk9 hn9 am_xh_nx (am_C_mono h (fun v K483 N484 I485 P486 z487 h => ?_) (fun _ _ _ _ _ _ h => h))
        replace h := am_iv_or h
        obtain ⟨x488, rfl, h⟩ := h
        show am_E d m_L_law 1430 (k + 1) (n + 6) _ [am_i x488] K483 N484 I485 P486 z487 Q am_nx
        refine e_istore dL_law_1430 ?_
        refine e_aload_n dL_law_1432 rfl trivial ?_
        refine e_aload_n dL_law_1433 rfl trivial ?_
        refine e_iload dL_law_1434 rfl ?_
        refine e_iconst dL_law_1436 ?_
        refine e_iadd dL_law_1437 ?_
        obtain ⟨hK489, h⟩ := h
        obtain ⟨⟨h0, h1⟩, h⟩ := h
        refine e_iald dL_law_1438 hK489 h0 h1 ?_
        obtain ⟨⟨hk9, hn9⟩, h⟩ := h
        obtain ⟨hK495, h⟩ := h
        refine e_callV (Mc := m_X8_append) (vs := [am_i (I485 l0 (Int.toNat (am_wr (l4 + 1))))]) (st := []) dL_law_1439 ok_X8_append rfl ⟨by decide, rfl⟩ mk_L_173 im_X8_append sl_X8_append rfl rfl hK495 (by omega) (Nat.le_of_ble_eq_true rfl) hk9 hn9 am_xh_nx (am_C_mono h (fun v K490 N491 I492 P493 z494 h => ?_) (fun _ _ _ _ _ _ h => h))
        replace h := am_iv_or h
        obtain ⟨x496, rfl, h⟩ := h
        show am_E d m_L_law 1442 (k + 1) (n + 6) _ [am_i x496] K490 N491 I492 P493 z494 Q am_nx
        refine e_istore dL_law_1442 ?_
        refine e_aload_n dL_law_1444 rfl trivial ?_
        obtain ⟨⟨hk9, hn9⟩, h⟩ := h
        obtain ⟨hK502, h⟩ := h
        refine e_callV (Mc := m_X8_thrown) (vs := []) (st := []) dL_law_1445 ok_X8_thrown rfl ⟨by decide, rfl⟩ mk_L_95 im_X8_thrown sl_X8_thrown rfl rfl hK502 (by omega) (Nat.le_of_ble_eq_true rfl) hk9 hn9 am_xh_nx (am_C_mono h (fun v K497 N498 I499 P500 z501 h => ?_) (fun _ _ _ _ _ _ h => h))
        replace h := am_iv_or h
        obtain ⟨x503, rfl, h⟩ := h
        show am_E d m_L_law 1448 (k + 1) (n + 6) _ [am_i x503] K497 N498 I499 P500 z501 Q am_nx
        refine e_iload dL_law_1448 rfl ?_
        refine e_icmp_eq (tgt := 1455) dL_law_1450 (by decide) (fun hc => ?_) (fun hc => ?_)
        · replace h := h.1 hc
          refine e_iload dL_law_1455 rfl ?_
          refine e_if_ne (tgt := 1472) dL_law_1457 (by decide) (fun hc => ?_) (fun hc => ?_)
          · replace h := h.1 hc
            refine e_goto (tgt := 1545) dL_law_1472 (by decide) ?_
            refine e_iinc dL_law_1545 rfl ?_
            refine e_goto (tgt := 23) dL_law_1548 (by decide) ?_
            exact e_forget (am_sub_k (am_sub_k (am_sub_k (am_sub_k (am_sub_k (am_sub_d (am_sub_d (am_sub_d (am_sub_d am_sub_nil))))))))) h
          · replace h := h.2 hc
            refine e_aload_n dL_law_1460 rfl trivial ?_
            refine e_iconst dL_law_1461 ?_
            obtain ⟨hK504, h⟩ := h
            obtain ⟨⟨h0, h1⟩, h⟩ := h
            refine e_lald dL_law_1462 hK504 h0 h1 ?_
            show am_E _ _ _ _ _ _ (am_j (I499 l3 0) :: _) _ _ _ _ _ _ _
            refine e_iload dL_law_1463 rfl ?_
            refine e_i2l dL_law_1465 ?_
            refine e_lcmp dL_law_1466 (fun hc => ?_) (fun hc v hv => ?_)
            · replace h := h.1 hc
              refine e_if_eq (tgt := 1472) dL_law_1467 (by decide) (fun _ => ?_) (fun q => absurd rfl q)
              refine e_goto (tgt := 1545) dL_law_1472 (by decide) ?_
              refine e_iinc dL_law_1545 rfl ?_
              refine e_goto (tgt := 23) dL_law_1548 (by decide) ?_
              exact e_forget (am_sub_k (am_sub_k (am_sub_k (am_sub_k (am_sub_k (am_sub_d (am_sub_d (am_sub_d (am_sub_d am_sub_nil))))))))) h
            · replace h := h.2 hc
              refine e_if_eq (tgt := 1472) dL_law_1467 (by decide) (fun q => absurd q hv) (fun _ => ?_)
              refine e_iconst dL_law_1470 ?_
              obtain ⟨⟨hk9, hn9⟩, h⟩ := h
              exact e_ret_z dL_law_1471 rfl (by decide) hk9 hn9 h
        · replace h := h.2 hc
          refine e_iconst dL_law_1453 ?_
          obtain ⟨⟨hk9, hn9⟩, h⟩ := h
          exact e_ret_z dL_law_1454 rfl (by decide) hk9 hn9 h
      · have h := h.2.2.2.2.2.2.2.2.2.2.2.2.2.2.2.2.2.2.2.2.2.2.2.2.1 (by omega)
        show am_E _ _ 1475 _ _ _ _ _ _ _ _ _ _ _
        refine e_aload_n dL_law_1475 rfl trivial ?_
        obtain ⟨⟨hk9, hn9⟩, h⟩ := h
        obtain ⟨hK510, h⟩ := h
        refine e_callV (Mc := m_X7_clear) (vs := []) (st := []) dL_law_1476 ok_X7_clear rfl ⟨by decide, rfl⟩ mk_L_174 im_X7_clear sl_X7_clear rfl rfl hK510 (by omega) (Nat.le_of_ble_eq_true rfl) hk9 hn9 am_xh_nx (am_C_mono h (fun v K505 N506 I507 P508 z509 h => ?_) (fun _ _ _ _ _ _ h => h))
        replace h := am_iv_or h
        obtain ⟨x511, rfl, h⟩ := h
        show am_E d m_L_law 1479 k n _ [am_i x511] K505 N506 I507 P508 z509 Q am_nx
        refine e_aload_n dL_law_1479 rfl trivial ?_
        obtain ⟨⟨hk9, hn9⟩, h⟩ := h
        obtain ⟨hK517, h⟩ := h
        refine e_callV (Mc := m_X8_clear) (vs := []) (st := [am_i x511]) dL_law_1480 ok_X8_clear rfl ⟨by decide, rfl⟩ mk_L_177 im_X8_clear sl_X8_clear rfl rfl hK517 (by omega) (Nat.le_of_ble_eq_true rfl) hk9 hn9 am_xh_nx (am_C_mono h (fun v K512 N513 I514 P515 z516 h => ?_) (fun _ _ _ _ _ _ h => h))
        replace h := am_iv_or h
        obtain ⟨x518, rfl, h⟩ := h
        show am_E d m_L_law 1483 k n _ [am_i x518, am_i x511] K512 N513 I514 P515 z516 Q am_nx
        refine e_icmp_eq (tgt := 1545) dL_law_1483 (by decide) (fun hc => ?_) (fun hc => ?_)
        · replace h := h.1 hc
          refine e_iinc dL_law_1545 rfl ?_
          refine e_goto (tgt := 23) dL_law_1548 (by decide) ?_
          exact e_forget (am_sub_k (am_sub_k (am_sub_k (am_sub_k (am_sub_k (am_sub_d (am_sub_d (am_sub_d (am_sub_d am_sub_nil))))))))) h
        · replace h := h.2 hc
          refine e_iconst dL_law_1486 ?_
          obtain ⟨⟨hk9, hn9⟩, h⟩ := h
          exact e_ret_z dL_law_1487 rfl (by decide) hk9 hn9 h
      · have h := h.2.2.2.2.2.2.2.2.2.2.2.2.2.2.2.2.2.2.2.2.2.2.2.2.2.1 (by omega)
        show am_E _ _ 1488 _ _ _ _ _ _ _ _ _ _ _
        refine e_aload_n dL_law_1488 rfl trivial ?_
        obtain ⟨⟨hk9, hn9⟩, h⟩ := h
        obtain ⟨hK524, h⟩ := h
        refine e_callV (Mc := m_X7_errorPosition) (vs := []) (st := []) dL_law_1489 ok_X7_errorPosition rfl ⟨by decide, rfl⟩ mk_L_178 im_X7_errorPosition sl_X7_errorPosition rfl rfl hK524 (by omega) (Nat.le_of_ble_eq_true rfl) hk9 hn9 am_xh_nx (am_C_mono h (fun v K519 N520 I521 P522 z523 h => ?_) (fun _ _ _ _ _ _ h => h))
        replace h := am_iv_or h
        obtain ⟨x525, rfl, h⟩ := h
        show am_E d m_L_law 1492 k n _ [am_i x525] K519 N520 I521 P522 z523 Q am_nx
        refine e_aload_n dL_law_1492 rfl trivial ?_
        obtain ⟨⟨hk9, hn9⟩, h⟩ := h
        obtain ⟨hK531, h⟩ := h
        refine e_callV (Mc := m_X8_errorPosition) (vs := []) (st := [am_i x525]) dL_law_1493 ok_X8_errorPosition rfl ⟨by decide, rfl⟩ mk_L_181 im_X8_errorPosition sl_X8_errorPosition rfl rfl hK531 (by omega) (Nat.le_of_ble_eq_true rfl) hk9 hn9 am_xh_nx (am_C_mono h (fun v K526 N527 I528 P529 z530 h => ?_) (fun _ _ _ _ _ _ h => h))
        replace h := am_iv_or h
        obtain ⟨x532, rfl, h⟩ := h
        show am_E d m_L_law 1496 k n _ [am_i x532, am_i x525] K526 N527 I528 P529 z530 Q am_nx
        refine e_icmp_eq (tgt := 1545) dL_law_1496 (by decide) (fun hc => ?_) (fun hc => ?_)
        · replace h := h.1 hc
          refine e_iinc dL_law_1545 rfl ?_
          refine e_goto (tgt := 23) dL_law_1548 (by decide) ?_
          exact e_forget (am_sub_k (am_sub_k (am_sub_k (am_sub_k (am_sub_k (am_sub_d (am_sub_d (am_sub_d (am_sub_d am_sub_nil))))))))) h
        · replace h := h.2 hc
          refine e_iconst dL_law_1499 ?_
          obtain ⟨⟨hk9, hn9⟩, h⟩ := h
          exact e_ret_z dL_law_1500 rfl (by decide) hk9 hn9 h
      · have h := h.2.2.2.2.2.2.2.2.2.2.2.2.2.2.2.2.2.2.2.2.2.2.2.2.2.2.1 (by omega)
        show am_E _ _ 1501 _ _ _ _ _ _ _ _ _ _ _
        refine e_aload_n dL_law_1501 rfl trivial ?_
        refine e_aload_n dL_law_1502 rfl trivial ?_
        obtain ⟨⟨hk9, hn9⟩, h⟩ := h
        refine e_callSX (Mc := m_L_load) (vs := [am_r l1, am_r l3]) (st := []) dL_law_1503 ok_L_load rfl mk_L_182 sm_L_load rfl rfl (by omega) (Nat.le_of_ble_eq_true rfl) hk9 hn9 am_xh_nx (am_C_mono h (fun v K533 N534 I535 P536 z537 h => ?_) (fun _ _ _ _ _ _ h => h))
        replace h := am_iv_or h
        obtain ⟨x538, rfl, h⟩ := h
        show am_E d m_L_law 1506 (k + 5) (n + 326) _ [am_i x538] K533 N534 I535 P536 z537 Q am_nx
        refine e_istore dL_law_1506 ?_
        refine e_aload_n dL_law_1508 rfl trivial ?_
        obtain ⟨⟨hk9, hn9⟩, h⟩ := h
        obtain ⟨hK544, h⟩ := h
        refine e_callV (Mc := m_X8_load) (vs := []) (st := []) dL_law_1509 ok_X8_load rfl ⟨by decide, rfl⟩ mk_L_184 im_X8_load sl_X8_load rfl rfl hK544 (by omega) (Nat.le_of_ble_eq_true rfl) hk9 hn9 am_xh_nx (am_C_mono h (fun v K539 N540 I541 P542 z543 h => ?_) (fun _ _ _ _ _ _ h => h))
        replace h := am_iv_or h
        obtain ⟨x545, rfl, h⟩ := h
        show am_E d m_L_law 1512 (k + 5) (n + 326) _ [am_i x545] K539 N540 I541 P542 z543 Q am_nx
        refine e_istore dL_law_1512 ?_
        refine e_aload_n dL_law_1514 rfl trivial ?_
        obtain ⟨⟨hk9, hn9⟩, h⟩ := h
        obtain ⟨hK551, h⟩ := h
        refine e_callV (Mc := m_X8_thrown) (vs := []) (st := []) dL_law_1515 ok_X8_thrown rfl ⟨by decide, rfl⟩ mk_L_95 im_X8_thrown sl_X8_thrown rfl rfl hK551 (by omega) (Nat.le_of_ble_eq_true rfl) hk9 hn9 am_xh_nx (am_C_mono h (fun v K546 N547 I548 P549 z550 h => ?_) (fun _ _ _ _ _ _ h => h))
        replace h := am_iv_or h
        obtain ⟨x552, rfl, h⟩ := h
        show am_E d m_L_law 1518 (k + 5) (n + 326) _ [am_i x552] K546 N547 I548 P549 z550 Q am_nx
        refine e_iload dL_law_1518 rfl ?_
        refine e_icmp_eq (tgt := 1525) dL_law_1520 (by decide) (fun hc => ?_) (fun hc => ?_)
        · replace h := h.1 hc
          refine e_iload dL_law_1525 rfl ?_
          refine e_if_ne (tgt := 1542) dL_law_1527 (by decide) (fun hc => ?_) (fun hc => ?_)
          · replace h := h.1 hc
            refine e_goto (tgt := 1545) dL_law_1542 (by decide) ?_
            refine e_iinc dL_law_1545 rfl ?_
            refine e_goto (tgt := 23) dL_law_1548 (by decide) ?_
            exact e_forget (am_sub_k (am_sub_k (am_sub_k (am_sub_k (am_sub_k (am_sub_d (am_sub_d (am_sub_d (am_sub_d am_sub_nil))))))))) h
          · replace h := h.2 hc
            refine e_aload_n dL_law_1530 rfl trivial ?_
            refine e_iconst dL_law_1531 ?_
            obtain ⟨hK553, h⟩ := h
            obtain ⟨⟨h0, h1⟩, h⟩ := h
            refine e_lald dL_law_1532 hK553 h0 h1 ?_
            show am_E _ _ _ _ _ _ (am_j (I548 l3 0) :: _) _ _ _ _ _ _ _
            refine e_iload dL_law_1533 rfl ?_
            refine e_i2l dL_law_1535 ?_
            refine e_lcmp dL_law_1536 (fun hc => ?_) (fun hc v hv => ?_)
            · replace h := h.1 hc
              refine e_if_eq (tgt := 1542) dL_law_1537 (by decide) (fun _ => ?_) (fun q => absurd rfl q)
              refine e_goto (tgt := 1545) dL_law_1542 (by decide) ?_
              refine e_iinc dL_law_1545 rfl ?_
              refine e_goto (tgt := 23) dL_law_1548 (by decide) ?_
              exact e_forget (am_sub_k (am_sub_k (am_sub_k (am_sub_k (am_sub_k (am_sub_d (am_sub_d (am_sub_d (am_sub_d am_sub_nil))))))))) h
            · replace h := h.2 hc
              refine e_if_eq (tgt := 1542) dL_law_1537 (by decide) (fun q => absurd q hv) (fun _ => ?_)
              refine e_iconst dL_law_1540 ?_
              obtain ⟨⟨hk9, hn9⟩, h⟩ := h
              exact e_ret_z dL_law_1541 rfl (by decide) hk9 hn9 h
        · replace h := h.2 hc
          refine e_iconst dL_law_1523 ?_
          obtain ⟨⟨hk9, hn9⟩, h⟩ := h
          exact e_ret_z dL_law_1524 rfl (by decide) hk9 hn9 h
    · intro hc
      have h := h.2.2.2.2.2.2.2.2.2.2.2.2.2.2.2.2.2.2.2.2.2.2.2.2.2.2.2 hc
      show am_E _ _ 1545 _ _ _ _ _ _ _ _ _ _ _
      refine e_iinc dL_law_1545 rfl ?_
      refine e_goto (tgt := 23) dL_law_1548 (by decide) ?_
      exact e_forget (am_sub_k (am_sub_k (am_sub_k (am_sub_k (am_sub_k (am_sub_d (am_sub_d (am_sub_d (am_sub_d am_sub_nil))))))))) h
