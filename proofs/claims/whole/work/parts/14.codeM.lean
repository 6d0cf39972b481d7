set_option maxRecDepth 100000 in
set_option maxHeartbeats 4000000 in
theorem wf_X8_init {d : Nat} (hd : 1 ≤ d) {s : Nat} {K N : Nat → Nat} {I : Nat → Nat → Int} {P : Nat → Nat → Option Nat} {z : Nat} {Q : am_V → am_T} (h :
  (0 + 1 ≤ 5 ∧ 0 + 3200 ≤ 25688) ∧ ∀ K1 N2 b3 z4, K1 = am_u1 K (z + 4) 10 → N2 = am_u1 N (z + 4) (Int.toNat 3200) → b3 = z + 4 → z4 = z + 1 → K1 s = 8 ∧ ∀ P7, P7 = am_p2 P s 0 (some b3) → (0 + 1 + 1 ≤ 5 ∧ 0 + 3200 + 19200 ≤ 25688) ∧ ∀ K8 N9 b10 z11, K8 = am_u1 K1 (z4 + 4) 10 → N9 = am_u1 N2 (z4 + 4) (Int.toNat 19200) → b10 = z4 + 4 → z11 = z4 + 1 → K8 s = 8 ∧ ∀ P14, P14 = am_p2 P7 s 1 (some b10) → (0 + 1 + 1 + 1 ≤ 5 ∧ 0 + 3200 + 19200 + 3200 ≤ 25688) ∧ ∀ K15 N16 b17 z18, K15 = am_u1 K8 (z11 + 4) 10 → N16 = am_u1 N9 (z11 + 4) (Int.toNat 3200) → b17 = z11 + 4 → z18 = z11 + 1 → K15 s = 8 ∧ ∀ P21, P21 = am_p2 P14 s 2 (some b17) → (0 + 1 + 1 + 1 + 1 ≤ 5 ∧ 0 + 3200 + 19200 + 3200 + 80 ≤ 25688) ∧ ∀ K22 N23 b24 z25, K22 = am_u1 K15 (z18 + 4) 10 → N23 = am_u1 N16 (z18 + 4) (Int.toNat 80) → b24 = z18 + 4 → z25 = z18 + 1 → K22 s = 8 ∧ ∀ P28, P28 = am_p2 P21 s 3 (some b24) → (0 + 1 + 1 + 1 + 1 + 1 ≤ 5 ∧ 0 + 3200 + 19200 + 3200 + 80 + 8 ≤ 25688) ∧ ∀ K29 N30 b31 z32, K29 = am_u1 K22 (z25 + 4) 10 → N30 = am_u1 N23 (z25 + 4) (Int.toNat 8) → b31 = z25 + 4 → z32 = z25 + 1 → K29 s = 8 ∧ ∀ P35, P35 = am_p2 P28 s 4 (some b31) → ∃ b36, P35 s 0 = some b36 ∧ K29 b36 = 10 ∧ (0 ≤ (1 : Int) ∧ (1 : Int) < N30 b36) ∧ ∀ I38, I38 = am_u2 I b36 (Int.toNat 1) 300 → (0 ≤ (2 : Int) ∧ (2 : Int) < N30 b36) ∧ ∀ I39, I39 = am_u2 I38 b36 (Int.toNat 2) 20 → (0 ≤ (3 : Int) ∧ (3 : Int) < N30 b36) ∧ ∀ I40, I40 = am_u2 I39 b36 (Int.toNat 3) 50 → (0 ≤ (4 : Int) ∧ (4 : Int) < N30 b36) ∧ ∀ I41, I41 = am_u2 I40 b36 (Int.toNat 4) 40 → (0 ≤ (5 : Int) ∧ (5 : Int) < N30 b36) ∧ ∀ I42, I42 = am_u2 I41 b36 (Int.toNat 5) 2000 → (0 ≤ (6 : Int) ∧ (6 : Int) < N30 b36) ∧ ∀ I43, I43 = am_u2 I42 b36 (Int.toNat 6) 5 → (0 ≤ (106 : Int) ∧ (106 : Int) < N30 b36) ∧ ∀ I44, I44 = am_u2 I43 b36 (Int.toNat 106) 120 → (0 ≤ (11 : Int) ∧ (11 : Int) < N30 b36) ∧ ∀ I45, I45 = am_u2 I44 b36 (Int.toNat 11) 1 → (0 + 1 + 1 + 1 + 1 + 1 ≤ 5 ∧ 0 + 3200 + 19200 + 3200 + 80 + 8 ≤ 25688) ∧ Q am_nl K29 N30 I45 P35 z32) :
  am_C d m_X8_init [am_r s] K N I P z Q am_nx := by
  refine am_C_of ok_X8_init (fun v hv => am_v1all _ rfl v hv) (Nat.le_of_ble_eq_true rfl) ?_
  show am_E d m_X8_init 0 0 0 [some (am_r s)] [] K N I P z Q am_nx
  refine e_aload_n dX8_init_0 rfl trivial ?_
  refine e_oinit dX8_init_1 mk_X8_1 oi oc (by omega) (Nat.le_of_ble_eq_true rfl) ?_
  refine e_aload_n dX8_init_4 rfl trivial ?_
  refine e_sipush dX8_init_5 ?_
  obtain ⟨⟨hk9, hn9⟩, h⟩ := h
  refine e_newa_int dX8_init_8 ac_int (by decide) (by decide) hk9 hn9 ?_
  replace h := h _ _ _ _ rfl rfl rfl rfl
  have hK5 : (am_u1 K (z + 4) 10) (z + 4) = 10 := by simp [am_u1]
  generalize eK1 : am_u1 K (z + 4) 10 = K1 at h hK5 ⊢
  generalize eN2 : am_u1 N (z + 4) (Int.toNat 3200) = N2 at h ⊢
  generalize eb3 : z + 4 = b3 at h hK5 ⊢
  generalize ez4 : z + 1 = z4 at h ⊢
  obtain ⟨hK6, h⟩ := h
  refine e_putrF1 dX8_init_10 fk_X8_7 rfl rfl rfl rfl hK6 ?_
  replace h := h _ rfl
  generalize am_p2 P s 0 (some b3) = P7 at h ⊢
  refine e_aload_n dX8_init_13 rfl trivial ?_
  refine e_sipush dX8_init_14 ?_
  obtain ⟨⟨hk9, hn9⟩, h⟩ := h
  refine e_newa_int dX8_init_17 ac_int (by decide) (by decide) hk9 hn9 ?_
  replace h := h _ _ _ _ rfl rfl rfl rfl
  have hK12 : (am_u1 K1 (z4 + 4) 10) (z4 + 4) = 10 := by simp [am_u1]
  generalize eK8 : am_u1 K1 (z4 + 4) 10 = K8 at h hK12 ⊢
  generalize eN9 : am_u1 N2 (z4 + 4) (Int.toNat 19200) = N9 at h ⊢
  generalize eb10 : z4 + 4 = b10 at h hK12 ⊢
  generalize ez11 : z4 + 1 = z11 at h ⊢
  obtain ⟨hK13, h⟩ := h
  refine e_putrF1 dX8_init_19 fk_X8_13 rfl rfl rfl rfl hK13 ?_
  replace h := h _ rfl
  generalize am_p2 P7 s 1 (some b10) = P14 at h ⊢
  refine e_aload_n dX8_init_22 rfl trivial ?_
  refine e_sipush dX8_init_23 ?_
  obtain ⟨⟨hk9, hn9⟩, h⟩ := h
  refine e_newa_int dX8_init_26 ac_int (by decide) (by decide) hk9 hn9 ?_
  replace h := h _ _ _ _ rfl rfl rfl rfl
  have hK19 : (am_u1 K8 (z11 + 4) 10) (z11 + 4) = 10 := by simp [am_u1]
  generalize eK15 : am_u1 K8 (z11 + 4) 10 = K15 at h hK19 ⊢
  generalize eN16 : am_u1 N9 (z11 + 4) (Int.toNat 3200) = N16 at h ⊢
  generalize eb17 : z11 + 4 = b17 at h hK19 ⊢
  generalize ez18 : z11 + 1 = z18 at h ⊢
  obtain ⟨hK20, h⟩ := h
  refine e_putrF1 dX8_init_28 fk_X8_16 rfl rfl rfl rfl hK20 ?_
  replace h := h _ rfl
  generalize am_p2 P14 s 2 (some b17) = P21 at h ⊢
  refine e_aload_n dX8_init_31 rfl trivial ?_
  refine e_bipush dX8_init_32 ?_
  obtain ⟨⟨hk9, hn9⟩, h⟩ := h
  refine e_newa_int dX8_init_34 ac_int (by decide) (by decide) hk9 hn9 ?_
  replace h := h _ _ _ _ rfl rfl rfl rfl
  have hK26 : (am_u1 K15 (z18 + 4) 10) (z18 + 4) = 10 := by simp [am_u1]
  generalize eK22 : am_u1 K15 (z18 + 4) 10 = K22 at h hK26 ⊢
  generalize eN23 : am_u1 N16 (z18 + 4) (Int.toNat 80) = N23 at h ⊢
  generalize eb24 : z18 + 4 = b24 at h hK26 ⊢
  generalize ez25 : z18 + 1 = z25 at h ⊢
  obtain ⟨hK27, h⟩ := h
  refine e_putrF1 dX8_init_36 fk_X8_19 rfl rfl rfl rfl hK27 ?_
  replace h := h _ rfl
  generalize am_p2 P21 s 3 (some b24) = P28 at h ⊢
  refine e_aload_n dX8_init_39 rfl trivial ?_
  refine e_bipush dX8_init_40 ?_
  obtain ⟨⟨hk9, hn9⟩, h⟩ := h
  refine e_newa_int dX8_init_42 ac_int (by decide) (by decide) hk9 hn9 ?_
  replace h := h _ _ _ _ rfl rfl rfl rfl
  have hK33 : (am_u1 K22 (z25 + 4) 10) (z25 + 4) = 10 := by simp [am_u1]
  generalize eK29 : am_u1 K22 (z25 + 4) 10 = K29 at h hK33 ⊢
  generalize eN30 : am_u1 N23 (z25 + 4) (Int.toNat 8) = N30 at h ⊢
  generalize eb31 : z25 + 4 = b31 at h hK33 ⊢
  generalize ez32 : z25 + 1 = z32 at h ⊢
  obtain ⟨hK34, h⟩ := h
  refine e_putrF1 dX8_init_44 fk_X8_22 rfl rfl rfl rfl hK34 ?_
  replace h := h _ rfl
  generalize am_p2 P28 s 4 (some b31) = P35 at h ⊢
  refine e_aload_n dX8_init_47 rfl trivial ?_
  obtain ⟨b36, hb36, h⟩ := h
  refine e_getr1 dX8_init_48 fk_X8_7 rfl hK34 hb36 ?_
  refine e_iconst dX8_init_51 ?_
  refine e_sipush dX8_init_52 ?_
  obtain ⟨hK37, h⟩ := h
  obtain ⟨⟨h0, h1⟩, h⟩ := h
  refine e_iast dX8_init_55 hK37 h0 h1 ?_
  replace h := h _ rfl
  generalize am_u2 I b36 (Int.toNat 1) 300 = I38 at h ⊢
  refine e_aload_n dX8_init_56 rfl trivial ?_
  refine e_getr1 dX8_init_57 fk_X8_7 rfl hK34 hb36 ?_
  refine e_iconst dX8_init_60 ?_
  refine e_bipush dX8_init_61 ?_
  obtain ⟨⟨h0, h1⟩, h⟩ := h
  refine e_iast dX8_init_63 hK37 h0 h1 ?_
  replace h := h _ rfl
  generalize am_u2 I38 b36 (Int.toNat 2) 20 = I39 at h ⊢
  refine e_aload_n dX8_init_64 rfl trivial ?_
  refine e_getr1 dX8_init_65 fk_X8_7 rfl hK34 hb36 ?_
  refine e_iconst dX8_init_68 ?_
  refine e_bipush dX8_init_69 ?_
  obtain ⟨⟨h0, h1⟩, h⟩ := h
  refine e_iast dX8_init_71 hK37 h0 h1 ?_
  replace h := h _ rfl
  generalize am_u2 I39 b36 (Int.toNat 3) 50 = I40 at h ⊢
  refine e_aload_n dX8_init_72 rfl trivial ?_
  refine e_getr1 dX8_init_73 fk_X8_7 rfl hK34 hb36 ?_
  refine e_iconst dX8_init_76 ?_
  refine e_bipush dX8_init_77 ?_
  obtain ⟨⟨h0, h1⟩, h⟩ := h
  refine e_iast dX8_init_79 hK37 h0 h1 ?_
  replace h := h _ rfl
  generalize am_u2 I40 b36 (Int.toNat 4) 40 = I41 at h ⊢
  refine e_aload_n dX8_init_80 rfl trivial ?_
  refine e_getr1 dX8_init_81 fk_X8_7 rfl hK34 hb36 ?_
  refine e_iconst dX8_init_84 ?_
  refine e_sipush dX8_init_85 ?_
  obtain ⟨⟨h0, h1⟩, h⟩ := h
  refine e_iast dX8_init_88 hK37 h0 h1 ?_
  replace h := h _ rfl
  generalize am_u2 I41 b36 (Int.toNat 5) 2000 = I42 at h ⊢
  refine e_aload_n dX8_init_89 rfl trivial ?_
  refine e_getr1 dX8_init_90 fk_X8_7 rfl hK34 hb36 ?_
  refine e_bipush dX8_init_93 ?_
  refine e_iconst dX8_init_95 ?_
  obtain ⟨⟨h0, h1⟩, h⟩ := h
  refine e_iast dX8_init_96 hK37 h0 h1 ?_
  replace h := h _ rfl
  generalize am_u2 I42 b36 (Int.toNat 6) 5 = I43 at h ⊢
  refine e_aload_n dX8_init_97 rfl trivial ?_
  refine e_getr1 dX8_init_98 fk_X8_7 rfl hK34 hb36 ?_
  refine e_bipush dX8_init_101 ?_
  refine e_bipush dX8_init_103 ?_
  obtain ⟨⟨h0, h1⟩, h⟩ := h
  refine e_iast dX8_init_105 hK37 h0 h1 ?_
  replace h := h _ rfl
  generalize am_u2 I43 b36 (Int.toNat 106) 120 = I44 at h ⊢
  refine e_aload_n dX8_init_106 rfl trivial ?_
  refine e_getr1 dX8_init_107 fk_X8_7 rfl hK34 hb36 ?_
  refine e_bipush dX8_init_110 ?_
  refine e_iconst dX8_init_112 ?_
  obtain ⟨⟨h0, h1⟩, h⟩ := h
  refine e_iast dX8_init_113 hK37 h0 h1 ?_
  replace h := h _ rfl
  generalize am_u2 I44 b36 (Int.toNat 11) 1 = I45 at h ⊢
  obtain ⟨⟨hk9, hn9⟩, h⟩ := h
  exact e_ret_v dX8_init_114 rfl hk9 hn9 h
set_option maxRecDepth 100000 in
set_option maxHeartbeats 4000000 in
theorem wf_X8_thrown {d : Nat} {s : Nat} {K N : Nat → Nat} {I : Nat → Nat → Int} {P : Nat → Nat → Option Nat} {z : Nat} {Q : am_V → am_T} (h :
  K s = 8 ∧ Q (am_i (I s 7)) K N I P z) :
  am_C d m_X8_thrown [am_r s] K N I P z Q am_nx := by
  refine am_C_of ok_X8_thrown (fun v hv => am_v1all _ rfl v hv) (Nat.le_of_ble_eq_true rfl) ?_
  show am_E d m_X8_thrown 0 0 0 [some (am_r s)] [] K N I P z Q am_nx
  refine e_aload_n dX8_thrown_0 rfl trivial ?_
  obtain ⟨hK1, h⟩ := h
  refine e_geti dX8_thrown_1 fk_X8_25 rfl hK1 ?_
  exact e_ret_i dX8_thrown_4 rfl (Nat.le_of_ble_eq_true rfl) (Nat.le_of_ble_eq_true rfl) h
set_option maxRecDepth 100000 in
set_option maxHeartbeats 4000000 in
theorem wf_X8_refuse {d : Nat} {s : Nat} {a1 : Int} {K N : Nat → Nat} {I : Nat → Nat → Int} {P : Nat → Nat → Option Nat} {z : Nat} {Q : am_V → am_T} (h :
  K s = 8 ∧ ∀ I2, I2 = am_u2 I s 7 a1 → Q (am_i 0) K N I2 P z) :
  am_C d m_X8_refuse [am_r s, am_i a1] K N I P z Q am_nx := by
  refine am_C_of ok_X8_refuse (fun v hv => am_v1all _ rfl v hv) (Nat.le_of_ble_eq_true rfl) ?_
  show am_E d m_X8_refuse 0 0 0 [some (am_r s), some (am_i a1)] [] K N I P z Q am_nx
  refine e_aload_n dX8_refuse_0 rfl trivial ?_
  refine e_iload_n dX8_refuse_1 rfl ?_
  obtain ⟨hK1, h⟩ := h
  refine e_puti dX8_refuse_2 fk_X8_25 rfl (Or.inl rfl) hK1 ?_
  replace h := h _ rfl
  generalize am_u2 I s 7 a1 = I2 at h ⊢
  refine e_iconst dX8_refuse_5 ?_
  exact e_ret_i dX8_refuse_6 rfl (Nat.le_of_ble_eq_true rfl) (Nat.le_of_ble_eq_true rfl) h
set_option maxRecDepth 100000 in
set_option maxHeartbeats 4000000 in
theorem wf_X8_in {d : Nat} {a1 : Int} {a2 : Int} {a3 : Int} {K N : Nat → Nat} {I : Nat → Nat → Int} {P : Nat → Nat → Option Nat} {z : Nat} {Q : am_V → am_T} (h :
  ((a1 < a2 →
    Q (am_i 0) K N I P z) ∧
    (¬ (a1 < a2) →
    ((a3 < a1 →
      Q (am_i 0) K N I P z) ∧
      (¬ (a3 < a1) →
      Q (am_i 1) K N I P z))))) :
  am_C d m_X8_in [am_i a1, am_i a2, am_i a3] K N I P z Q am_nx := by
  refine am_C_of ok_X8_in (fun v hv => am_v1all _ rfl v hv) (Nat.le_of_ble_eq_true rfl) ?_
  show am_E d m_X8_in 0 0 0 [some (am_i a1), some (am_i a2), some (am_i a3)] [] K N I P z Q am_nx
  refine e_iload_n dX8_in_0 rfl ?_
  refine e_iload_n dX8_in_1 rfl ?_
  refine e_icmp_lt (tgt := 14) dX8_in_2 (by decide) (fun hc => ?_) (fun hc => ?_)
  · replace h := h.1 hc
    refine e_iconst dX8_in_14 ?_
    exact e_ret_z dX8_in_15 rfl (by decide) (Nat.le_of_ble_eq_true rfl) (Nat.le_of_ble_eq_true rfl) h
  · replace h := h.2 hc
    refine e_iload_n dX8_in_5 rfl ?_
    refine e_iload_n dX8_in_6 rfl ?_
    refine e_icmp_gt (tgt := 14) dX8_in_7 (by decide) (fun hc => ?_) (fun hc => ?_)
    · replace h := h.1 hc
      refine e_iconst dX8_in_14 ?_
      exact e_ret_z dX8_in_15 rfl (by decide) (Nat.le_of_ble_eq_true rfl) (Nat.le_of_ble_eq_true rfl) h
    · replace h := h.2 hc
      refine e_iconst dX8_in_10 ?_
      refine e_goto (tgt := 15) dX8_in_11 (by decide) ?_
      exact e_ret_z dX8_in_15 rfl (by decide) (Nat.le_of_ble_eq_true rfl) (Nat.le_of_ble_eq_true rfl) h
set_option maxRecDepth 100000 in
set_option maxHeartbeats 4000000 in
theorem wf_X8_one {d : Nat} {a1 : Int} {K N : Nat → Nat} {I : Nat → Nat → Int} {P : Nat → Nat → Option Nat} {z : Nat} {Q : am_V → am_T} (h :
  ((a1 = 0 →
    Q (am_i 0) K N I P z) ∧
    (¬ (a1 = 0) →
    Q (am_i 1) K N I P z))) :
  am_C d m_X8_one [am_i a1] K N I P z Q am_nx := by
  refine am_C_of ok_X8_one (fun v hv => am_v1all _ rfl v hv) (Nat.le_of_ble_eq_true rfl) ?_
  show am_E d m_X8_one 0 0 0 [some (am_i a1)] [] K N I P z Q am_nx
  refine e_iload_n dX8_one_0 rfl ?_
  refine e_if_eq (tgt := 8) dX8_one_1 (by decide) (fun hc => ?_) (fun hc => ?_)
  · replace h := h.1 hc
    refine e_iconst dX8_one_8 ?_
    exact e_ret_i dX8_one_9 rfl (Nat.le_of_ble_eq_true rfl) (Nat.le_of_ble_eq_true rfl) h
  · replace h := h.2 hc
    refine e_iconst dX8_one_4 ?_
    refine e_goto (tgt := 9) dX8_one_5 (by decide) ?_
    exact e_ret_i dX8_one_9 rfl (Nat.le_of_ble_eq_true rfl) (Nat.le_of_ble_eq_true rfl) h
def L_X8_save_11 (d : Nat) (l0 : Nat) (l1 : Int) (K N : Nat → Nat) (I : Nat → Nat → Int) (P : Nat → Nat → Option Nat) (z : Nat) (Q : am_V → am_T) : Prop := am_E d m_X8_save 11 0 0 [some (am_r l0), some (am_i l1)] [] K N I P z Q am_nx
def L_X8_save_52 (d : Nat) (l0 : Nat) (l1 : Int) (K N : Nat → Nat) (I : Nat → Nat → Int) (P : Nat → Nat → Option Nat) (z : Nat) (Q : am_V → am_T) : Prop := am_E d m_X8_save 52 0 0 [some (am_r l0), some (am_i l1)] [] K N I P z Q am_nx
set_option maxRecDepth 100000 in
set_option maxHeartbeats 4000000 in
theorem wf_X8_save {d : Nat} {s : Nat} {K N : Nat → Nat} {I : Nat → Nat → Int} {P : Nat → Nat → Option Nat} {z : Nat} {Q : am_V → am_T} (h :
  K s = 8 ∧ ((¬ I s 5 = 6 →
    L_X8_save_52 d s 0 K N I P z Q) ∧
    (I s 5 = 6 →
    L_X8_save_11 d s 0 K N I P z Q))) :
  am_C d m_X8_save [am_r s] K N I P z Q am_nx := by
  refine am_C_of ok_X8_save (fun v hv => am_v1all _ rfl v hv) (Nat.le_of_ble_eq_true rfl) ?_
  show am_E d m_X8_save 0 0 0 [some (am_r s), none] [] K N I P z Q am_nx
  refine e_aload_n dX8_save_0 rfl trivial ?_
  obtain ⟨hK1, h⟩ := h
  refine e_geti dX8_save_1 fk_X8_29 rfl hK1 ?_
  refine e_bipush dX8_save_4 ?_
  refine e_icmp_ne (tgt := 50) dX8_save_6 (by decide) (fun hc => ?_) (fun hc => ?_)
  · replace h := h.1 hc
    refine e_iconst dX8_save_50 ?_
    refine e_istore_n dX8_save_51 ?_
    exact e_forget (am_sub_k (am_sub_k am_sub_nil)) h
  · replace h := h.2 hc
    refine e_iconst dX8_save_9 ?_
    refine e_istore_n dX8_save_10 ?_
    exact e_forget (am_sub_k (am_sub_k am_sub_nil)) h
set_option maxRecDepth 100000 in
set_option maxHeartbeats 4000000 in
theorem wf_X8_save_11 {d : Nat} {l0 : Nat} {l1 : Int} {K N : Nat → Nat} {I : Nat → Nat → Int} {P : Nat → Nat → Option Nat} {z : Nat} {Q : am_V → am_T} (h :
  ((16000 ≤ l1 →
    K l0 = 8 ∧ ∀ I2, I2 = am_u2 I l0 5 (am_wr (I l0 5 - 1)) → L_X8_save_52 d l0 0 K N I2 P z Q) ∧
    (¬ (16000 ≤ l1) →
    K l0 = 8 ∧ ∃ b4, P l0 1 = some b4 ∧ K b4 = 10 ∧ (0 ≤ am_wr (l1 + 3200) ∧ am_wr (l1 + 3200) < N b4) ∧ (0 ≤ l1 ∧ l1 < N b4) ∧ ∀ I6, I6 = am_u2 I b4 (Int.toNat l1) (I b4 (Int.toNat (am_wr (l1 + 3200)))) → L_X8_save_11 d l0 (am_wr (l1 + 1)) K N I6 P z Q))) :
  L_X8_save_11 d l0 l1 K N I P z Q := by
  unfold L_X8_save_11
  refine e_iload_n dX8_save_11 rfl ?_
  refine e_sipush dX8_save_12 ?_
  refine e_icmp_ge (tgt := 40) dX8_save_15 (by decide) (fun hc => ?_) (fun hc => ?_)
  · replace h := h.1 hc
    refine e_aload_n dX8_save_40 rfl trivial ?_
    refine e_dup dX8_save_41 rfl ?_
    obtain ⟨hK1, h⟩ := h
    refine e_geti dX8_save_42 fk_X8_29 rfl hK1 ?_
    refine e_iconst dX8_save_45 ?_
    refine e_isub dX8_save_46 ?_
    refine e_puti dX8_save_47 fk_X8_29 rfl (Or.inl rfl) hK1 ?_
    replace h := h _ rfl
    generalize am_u2 I l0 5 (am_wr (I l0 5 - 1)) = I2 at h ⊢
    refine e_iconst dX8_save_50 ?_
    refine e_istore_n dX8_save_51 ?_
    exact e_forget (am_sub_k (am_sub_k am_sub_nil)) h
  · replace h := h.2 hc
    refine e_aload_n dX8_save_18 rfl trivial ?_
    obtain ⟨hK3, h⟩ := h
    obtain ⟨b4, hb4, h⟩ := h
    refine e_getr1 dX8_save_19 fk_X8_13 rfl hK3 hb4 ?_
    refine e_iload_n dX8_save_22 rfl ?_
    refine e_aload_n dX8_save_23 rfl trivial ?_
    refine e_getr1 dX8_save_24 fk_X8_13 rfl hK3 hb4 ?_
    refine e_iload_n dX8_save_27 rfl ?_
    refine e_sipush dX8_save_28 ?_
    refine e_iadd dX8_save_31 ?_
    obtain ⟨hK5, h⟩ := h
    obtain ⟨⟨h0, h1⟩, h⟩ := h
    refine e_iald dX8_save_32 hK5 h0 h1 ?_
    obtain ⟨⟨h0, h1⟩, h⟩ := h
    refine e_iast dX8_save_33 hK5 h0 h1 ?_
    replace h := h _ rfl
    generalize am_u2 I b4 (Int.toNat l1) (I b4 (Int.toNat (am_wr (l1 + 3200)))) = I6 at h ⊢
    refine e_iinc dX8_save_34 rfl ?_
    refine e_goto (tgt := 11) dX8_save_37 (by decide) ?_
    exact e_forget (am_sub_k (am_sub_k am_sub_nil)) h
set_option maxRecDepth 100000 in
set_option maxHeartbeats 4000000 in
theorem wf_X8_save_52 {d : Nat} {l0 : Nat} {l1 : Int} {K N : Nat → Nat} {I : Nat → Nat → Int} {P : Nat → Nat → Option Nat} {z : Nat} {Q : am_V → am_T} (h :
  ((3200 ≤ l1 →
    K l0 = 8 ∧ ∀ I2, I2 = am_u2 I l0 5 (am_wr (I l0 5 + 1)) → Q am_nl K N I2 P z) ∧
    (¬ (3200 ≤ l1) →
    K l0 = 8 ∧ ∃ b4, P l0 1 = some b4 ∧ ∃ b5, P l0 0 = some b5 ∧ K b5 = 10 ∧ (0 ≤ l1 ∧ l1 < N b5) ∧ K b4 = 10 ∧ (0 ≤ am_wr ((am_wr (I l0 5 * 3200)) + l1) ∧ am_wr ((am_wr (I l0 5 * 3200)) + l1) < N b4) ∧ ∀ I8, I8 = am_u2 I b4 (Int.toNat (am_wr ((am_wr (I l0 5 * 3200)) + l1))) (I b5 (Int.toNat l1)) → L_X8_save_52 d l0 (am_wr (l1 + 1)) K N I8 P z Q))) :
  L_X8_save_52 d l0 l1 K N I P z Q := by
  unfold L_X8_save_52
  refine e_iload_n dX8_save_52 rfl ?_
  refine e_sipush dX8_save_53 ?_
  refine e_icmp_ge (tgt := 86) dX8_save_56 (by decide) (fun hc => ?_) (fun hc => ?_)
  · replace h := h.1 hc
    refine e_aload_n dX8_save_86 rfl trivial ?_
    refine e_dup dX8_save_87 rfl ?_
    obtain ⟨hK1, h⟩ := h
    refine e_geti dX8_save_88 fk_X8_29 rfl hK1 ?_
    refine e_iconst dX8_save_91 ?_
    refine e_iadd dX8_save_92 ?_
    refine e_puti dX8_save_93 fk_X8_29 rfl (Or.inl rfl) hK1 ?_
    replace h := h _ rfl
    generalize am_u2 I l0 5 (am_wr (I l0 5 + 1)) = I2 at h ⊢
    exact e_ret_v dX8_save_96 rfl (Nat.le_of_ble_eq_true rfl) (Nat.le_of_ble_eq_true rfl) h
  · replace h := h.2 hc
    refine e_aload_n dX8_save_59 rfl trivial ?_
    obtain ⟨hK3, h⟩ := h
    obtain ⟨b4, hb4, h⟩ := h
    refine e_getr1 dX8_save_60 fk_X8_13 rfl hK3 hb4 ?_
    refine e_aload_n dX8_save_63 rfl trivial ?_
    refine e_geti dX8_save_64 fk_X8_29 rfl hK3 ?_
    refine e_sipush dX8_save_67 ?_
    refine e_imul dX8_save_70 ?_
    refine e_iload_n dX8_save_71 rfl ?_
    refine e_iadd dX8_save_72 ?_
    refine e_aload_n dX8_save_73 rfl trivial ?_
    obtain ⟨b5, hb5, h⟩ := h
    refine e_getr1 dX8_save_74 fk_X8_7 rfl hK3 hb5 ?_
    refine e_iload_n dX8_save_77 rfl ?_
    obtain ⟨hK6, h⟩ := h
    obtain ⟨⟨h0, h1⟩, h⟩ := h
    refine e_iald dX8_save_78 hK6 h0 h1 ?_
    obtain ⟨hK7, h⟩ := h
    obtain ⟨⟨h0, h1⟩, h⟩ := h
    refine e_iast dX8_save_79 hK7 h0 h1 ?_
    replace h := h _ rfl
    generalize am_u2 I b4 (Int.toNat (am_wr ((am_wr (I l0 5 * 3200)) + l1))) (I b5 (Int.toNat l1)) = I8 at h ⊢
    refine e_iinc dX8_save_80 rfl ?_
    refine e_goto (tgt := 52) dX8_save_83 (by decide) ?_
    exact e_forget (am_sub_k (am_sub_k am_sub_nil)) h
set_option maxRecDepth 100000 in
set_option maxHeartbeats 4000000 in
theorem wf_X8_isOn {d : Nat} {s : Nat} {a1 : Int} {K N : Nat → Nat} {I : Nat → Nat → Int} {P : Nat → Nat → Option Nat} {z : Nat} {Q : am_V → am_T} (h :
  K s = 8 ∧ ∃ b2, P s 0 = some b2 ∧ K b2 = 10 ∧ (0 ≤ am_wr (800 + a1) ∧ am_wr (800 + a1) < N b2) ∧ ((¬ I b2 (Int.toNat (am_wr (800 + a1))) = 0 →
    Q (am_i 0) K N I P z) ∧
    (I b2 (Int.toNat (am_wr (800 + a1))) = 0 →
    Q (am_i 1) K N I P z))) :
  am_C d m_X8_isOn [am_r s, am_i a1] K N I P z Q am_nx := by
  refine am_C_of ok_X8_isOn (fun v hv => am_v1all _ rfl v hv) (Nat.le_of_ble_eq_true rfl) ?_
  show am_E d m_X8_isOn 0 0 0 [some (am_r s), some (am_i a1)] [] K N I P z Q am_nx
  refine e_aload_n dX8_isOn_0 rfl trivial ?_
  obtain ⟨hK1, h⟩ := h
  obtain ⟨b2, hb2, h⟩ := h
  refine e_getr1 dX8_isOn_1 fk_X8_7 rfl hK1 hb2 ?_
  refine e_sipush dX8_isOn_4 ?_
  refine e_iload_n dX8_isOn_7 rfl ?_
  refine e_iadd dX8_isOn_8 ?_
  obtain ⟨hK3, h⟩ := h
  obtain ⟨⟨h0, h1⟩, h⟩ := h
  refine e_iald dX8_isOn_9 hK3 h0 h1 ?_
  refine e_if_ne (tgt := 17) dX8_isOn_10 (by decide) (fun hc => ?_) (fun hc => ?_)
  · replace h := h.1 hc
    refine e_iconst dX8_isOn_17 ?_
    exact e_ret_z dX8_isOn_18 rfl (by decide) (Nat.le_of_ble_eq_true rfl) (Nat.le_of_ble_eq_true rfl) h
  · replace h := h.2 hc
    refine e_iconst dX8_isOn_13 ?_
    refine e_goto (tgt := 18) dX8_isOn_14 (by decide) ?_
    exact e_ret_z dX8_isOn_18 rfl (by decide) (Nat.le_of_ble_eq_true rfl) (Nat.le_of_ble_eq_true rfl) h
def L_X8_onBelt_4 (d : Nat) (l0 : Nat) (l1 : Int) (l2 : Int) (K N : Nat → Nat) (I : Nat → Nat → Int) (P : Nat → Nat → Option Nat) (z : Nat) (Q : am_V → am_T) : Prop := am_E d m_X8_onBelt 4 0 0 [some (am_r l0), some (am_i l1), some (am_i l2)] [] K N I P z Q am_nx
set_option maxRecDepth 100000 in
set_option maxHeartbeats 4000000 in
theorem wf_X8_onBelt {d : Nat} {s : Nat} {K N : Nat → Nat} {I : Nat → Nat → Int} {P : Nat → Nat → Option Nat} {z : Nat} {Q : am_V → am_T} (h :
  L_X8_onBelt_4 d s 0 0 K N I P z Q) :
  am_C d m_X8_onBelt [am_r s] K N I P z Q am_nx := by
  refine am_C_of ok_X8_onBelt (fun v hv => am_v1all _ rfl v hv) (Nat.le_of_ble_eq_true rfl) ?_
  show am_E d m_X8_onBelt 0 0 0 [some (am_r s), none, none] [] K N I P z Q am_nx
  refine e_iconst dX8_onBelt_0 ?_
  refine e_istore_n dX8_onBelt_1 ?_
  refine e_iconst dX8_onBelt_2 ?_
  refine e_istore_n dX8_onBelt_3 ?_
  exact e_forget (am_sub_k (am_sub_k (am_sub_k am_sub_nil))) h
set_option maxRecDepth 100000 in
set_option maxHeartbeats 4000000 in
theorem wf_X8_onBelt_4 {d : Nat} (hd : 1 ≤ d) {l0 : Nat} {l1 : Int} {l2 : Int} {K N : Nat → Nat} {I : Nat → Nat → Int} {P : Nat → Nat → Option Nat} {z : Nat} {Q : am_V → am_T} (h :
  K l0 = 8 ∧ ∃ b2, P l0 0 = some b2 ∧ K b2 = 10 ∧ (0 ≤ (9 : Int) ∧ (9 : Int) < N b2) ∧ ((I b2 9 ≤ l2 →
    Q (am_i l1) K N I P z) ∧
    (¬ (I b2 9 ≤ l2) →
    am_C (d - 1) m_X8_isOn [am_r l0, am_i l2] K N I P z (fun v K4 N5 I6 P7 z8 => am_iv v fun x9 =>
      am_C (d - 1) m_X8_one [am_i x9] K4 N5 I6 P7 z8 (fun v K10 N11 I12 P13 z14 => am_iv v fun x15 =>
      L_X8_onBelt_4 d l0 (am_wr (l1 + x15)) (am_wr (l2 + 1)) K10 N11 I12 P13 z14 Q) am_nx) am_nx))) :
  L_X8_onBelt_4 d l0 l1 l2 K N I P z Q := by
  unfold L_X8_onBelt_4
  refine e_iload_n dX8_onBelt_4 rfl ?_
  refine e_aload_n dX8_onBelt_5 rfl trivial ?_
  obtain ⟨hK1, h⟩ := h
  obtain ⟨b2, hb2, h⟩ := h
  refine e_getr1 dX8_onBelt_6 fk_X8_7 rfl hK1 hb2 ?_
  refine e_bipush dX8_onBelt_9 ?_
  obtain ⟨hK3, h⟩ := h
  obtain ⟨⟨h0, h1⟩, h⟩ := h
  refine e_iald dX8_onBelt_11 hK3 h0 h1 ?_
  show am_E _ _ _ _ _ _ (am_i (I b2 9) :: _) _ _ _ _ _ _ _
  refine e_icmp_ge (tgt := 32) dX8_onBelt_12 (by decide) (fun hc => ?_) (fun hc => ?_)
  · replace h := h.1 hc
    refine e_iload_n dX8_onBelt_32 rfl ?_
    exact e_ret_i dX8_onBelt_33 rfl (Nat.le_of_ble_eq_true rfl) (Nat.le_of_ble_eq_true rfl) h
  · replace h := h.2 hc
    refine e_iload_n dX8_onBelt_15 rfl ?_
    refine e_aload_n dX8_onBelt_16 rfl trivial ?_
    refine e_iload_n dX8_onBelt_17 rfl ?_
    refine e_callV (Mc := m_X8_isOn) (vs := [am_i l2]) (st := [am_i l1]) dX8_onBelt_18 ok_X8_isOn rfl ⟨by decide, rfl⟩ mk_X8_32 im_X8_isOn sl_X8_isOn rfl rfl hK1 (by omega) (Nat.le_of_ble_eq_true rfl) (Nat.le_of_ble_eq_true rfl) (Nat.le_of_ble_eq_true rfl) am_xh_nx (am_C_mono h (fun v K4 N5 I6 P7 z8 h => ?_) (fun _ _ _ _ _ _ h => h))
    replace h := am_iv_or h
    obtain ⟨x9, rfl, h⟩ := h
    show am_E d m_X8_onBelt 21 _ _ _ [am_i x9, am_i l1] K4 N5 I6 P7 z8 Q am_nx
    refine e_callS (Mc := m_X8_one) (vs := [am_i x9]) (st := [am_i l1]) dX8_onBelt_21 ok_X8_one rfl mk_X8_36 sm_X8_one rfl rfl (by omega) (Nat.le_of_ble_eq_true rfl) (Nat.le_of_ble_eq_true rfl) (Nat.le_of_ble_eq_true rfl) am_xh_nx (am_C_mono h (fun v K10 N11 I12 P13 z14 h => ?_) (fun _ _ _ _ _ _ h => h))
    replace h := am_iv_or h
    obtain ⟨x15, rfl, h⟩ := h
    show am_E d m_X8_onBelt 24 _ _ _ [am_i x15, am_i l1] K10 N11 I12 P13 z14 Q am_nx
    refine e_iadd dX8_onBelt_24 ?_
    refine e_istore_n dX8_onBelt_25 ?_
    refine e_iinc dX8_onBelt_26 rfl ?_
    refine e_goto (tgt := 4) dX8_onBelt_29 (by decide) ?_
    exact e_forget (am_sub_k (am_sub_k (am_sub_k am_sub_nil))) h
set_option maxRecDepth 100000 in
set_option maxHeartbeats 4000000 in
theorem wf_X8_isLane {d : Nat} (hd : 1 ≤ d) {s : Nat} {a1 : Int} {K N : Nat → Nat} {I : Nat → Nat → Int} {P : Nat → Nat → Option Nat} {z : Nat} {Q : am_V → am_T} (h :
  K s = 8 ∧ ∃ b2, P s 0 = some b2 ∧ K b2 = 10 ∧ (0 ≤ (7 : Int) ∧ (7 : Int) < N b2) ∧ am_C (d - 1) m_X8_in [am_i a1, am_i 0, am_i (am_wr (I b2 7 - 1))] K N I P z (fun v K4 N5 I6 P7 z8 => am_iv v fun x9 =>
    (x9 = 0 ∨ x9 = 1) ∧ Q (am_i x9) K4 N5 I6 P7 z8) am_nx) :
  am_C d m_X8_isLane [am_r s, am_i a1] K N I P z Q am_nx := by
  refine am_C_of ok_X8_isLane (fun v hv => am_v1all _ rfl v hv) (Nat.le_of_ble_eq_true rfl) ?_
  show am_E d m_X8_isLane 0 0 0 [some (am_r s), some (am_i a1)] [] K N I P z Q am_nx
  refine e_iload_n dX8_isLane_0 rfl ?_
  refine e_iconst dX8_isLane_1 ?_
  refine e_aload_n dX8_isLane_2 rfl trivial ?_
  obtain ⟨hK1, h⟩ := h
  obtain ⟨b2, hb2, h⟩ := h
  refine e_getr1 dX8_isLane_3 fk_X8_7 rfl hK1 hb2 ?_
  refine e_bipush dX8_isLane_6 ?_
  obtain ⟨hK3, h⟩ := h
  obtain ⟨⟨h0, h1⟩, h⟩ := h
  refine e_iald dX8_isLane_8 hK3 h0 h1 ?_
  show am_E _ _ _ _ _ _ (am_i (I b2 7) :: _) _ _ _ _ _ _ _
  refine e_iconst dX8_isLane_9 ?_
  refine e_isub dX8_isLane_10 ?_
  refine e_callS (Mc := m_X8_in) (vs := [am_i a1, am_i 0, am_i (am_wr (I b2 7 - 1))]) (st := []) dX8_isLane_11 ok_X8_in rfl mk_X8_40 sm_X8_in rfl rfl (by omega) (Nat.le_of_ble_eq_true rfl) (Nat.le_of_ble_eq_true rfl) (Nat.le_of_ble_eq_true rfl) am_xh_nx (am_C_mono h (fun v K4 N5 I6 P7 z8 h => ?_) (fun _ _ _ _ _ _ h => h))
  replace h := am_iv_or h
  obtain ⟨x9, rfl, h⟩ := h
  show am_E d m_X8_isLane 14 _ _ _ [am_i x9] K4 N5 I6 P7 z8 Q am_nx
  obtain ⟨hz01, h⟩ := h
  exact e_ret_z dX8_isLane_14 rfl hz01 (Nat.le_of_ble_eq_true rfl) (Nat.le_of_ble_eq_true rfl) h
set_option maxRecDepth 100000 in
set_option maxHeartbeats 4000000 in
theorem wf_X8_isPart {d : Nat} (hd : 1 ≤ d) {s : Nat} {a1 : Int} {K N : Nat → Nat} {I : Nat → Nat → Int} {P : Nat → Nat → Option Nat} {z : Nat} {Q : am_V → am_T} (h :
  K s = 8 ∧ ∃ b2, P s 0 = some b2 ∧ K b2 = 10 ∧ (0 ≤ (9 : Int) ∧ (9 : Int) < N b2) ∧ am_C (d - 1) m_X8_in [am_i a1, am_i 0, am_i (am_wr (I b2 9 - 1))] K N I P z (fun v K4 N5 I6 P7 z8 => am_iv v fun x9 =>
    (x9 = 0 ∨ x9 = 1) ∧ Q (am_i x9) K4 N5 I6 P7 z8) am_nx) :
  am_C d m_X8_isPart [am_r s, am_i a1] K N I P z Q am_nx := by
  refine am_C_of ok_X8_isPart (fun v hv => am_v1all _ rfl v hv) (Nat.le_of_ble_eq_true rfl) ?_
  show am_E d m_X8_isPart 0 0 0 [some (am_r s), some (am_i a1)] [] K N I P z Q am_nx
  refine e_iload_n dX8_isPart_0 rfl ?_
  refine e_iconst dX8_isPart_1 ?_
  refine e_aload_n dX8_isPart_2 rfl trivial ?_
  obtain ⟨hK1, h⟩ := h
  obtain ⟨b2, hb2, h⟩ := h
  refine e_getr1 dX8_isPart_3 fk_X8_7 rfl hK1 hb2 ?_
  refine e_bipush dX8_isPart_6 ?_
  obtain ⟨hK3, h⟩ := h
  obtain ⟨⟨h0, h1⟩, h⟩ := h
  refine e_iald dX8_isPart_8 hK3 h0 h1 ?_
  show am_E _ _ _ _ _ _ (am_i (I b2 9) :: _) _ _ _ _ _ _ _
  refine e_iconst dX8_isPart_9 ?_
  refine e_isub dX8_isPart_10 ?_
  refine e_callS (Mc := m_X8_in) (vs := [am_i a1, am_i 0, am_i (am_wr (I b2 9 - 1))]) (st := []) dX8_isPart_11 ok_X8_in rfl mk_X8_40 sm_X8_in rfl rfl (by omega) (Nat.le_of_ble_eq_true rfl) (Nat.le_of_ble_eq_true rfl) (Nat.le_of_ble_eq_true rfl) am_xh_nx (am_C_mono h (fun v K4 N5 I6 P7 z8 h => ?_) (fun _ _ _ _ _ _ h => h))
  replace h := am_iv_or h
  obtain ⟨x9, rfl, h⟩ := h
  show am_E d m_X8_isPart 14 _ _ _ [am_i x9] K4 N5 I6 P7 z8 Q am_nx
  obtain ⟨hz01, h⟩ := h
  exact e_ret_z dX8_isPart_14 rfl hz01 (Nat.le_of_ble_eq_true rfl) (Nat.le_of_ble_eq_true rfl) h
set_option maxRecDepth 100000 in
set_option maxHeartbeats 4000000 in
theorem wf_X8_isCode {d : Nat} (hd : 1 ≤ d) {a1 : Int} {K N : Nat → Nat} {I : Nat → Nat → Int} {P : Nat → Nat → Option Nat} {z : Nat} {Q : am_V → am_T} (h :
  am_C (d - 1) m_X8_in [am_i a1, am_i 0, am_i 999] K N I P z (fun v K1 N2 I3 P4 z5 => am_iv v fun x6 =>
    (x6 = 0 ∨ x6 = 1) ∧ Q (am_i x6) K1 N2 I3 P4 z5) am_nx) :
  am_C d m_X8_isCode [am_i a1] K N I P z Q am_nx := by
  refine am_C_of ok_X8_isCode (fun v hv => am_v1all _ rfl v hv) (Nat.le_of_ble_eq_true rfl) ?_
  show am_E d m_X8_isCode 0 0 0 [some (am_i a1)] [] K N I P z Q am_nx
  refine e_iload_n dX8_isCode_0 rfl ?_
  refine e_iconst dX8_isCode_1 ?_
  refine e_sipush dX8_isCode_2 ?_
  refine e_callS (Mc := m_X8_in) (vs := [am_i a1, am_i 0, am_i 999]) (st := []) dX8_isCode_5 ok_X8_in rfl mk_X8_40 sm_X8_in rfl rfl (by omega) (Nat.le_of_ble_eq_true rfl) (Nat.le_of_ble_eq_true rfl) (Nat.le_of_ble_eq_true rfl) am_xh_nx (am_C_mono h (fun v K1 N2 I3 P4 z5 h => ?_) (fun _ _ _ _ _ _ h => h))
  replace h := am_iv_or h
  obtain ⟨x6, rfl, h⟩ := h
  show am_E d m_X8_isCode 8 _ _ _ [am_i x6] K1 N2 I3 P4 z5 Q am_nx
  obtain ⟨hz01, h⟩ := h
  exact e_ret_z dX8_isCode_8 rfl hz01 (Nat.le_of_ble_eq_true rfl) (Nat.le_of_ble_eq_true rfl) h
set_option maxRecDepth 100000 in
set_option maxHeartbeats 4000000 in
theorem wf_X8_least {d : Nat} {a1 : Int} {K N : Nat → Nat} {I : Nat → Nat → Int} {P : Nat → Nat → Option Nat} {z : Nat} {Q : am_V → am_T} (h :
  ((¬ a1 = 0 →
    ((¬ a1 = 4 →
      Q (am_i 0) K N I P z) ∧
      (a1 = 4 →
      Q (am_i 1000) K N I P z))) ∧
    (a1 = 0 →
    Q (am_i 50) K N I P z))) :
  am_C d m_X8_least [am_i a1] K N I P z Q am_nx := by
  refine am_C_of ok_X8_least (fun v hv => am_v1all _ rfl v hv) (Nat.le_of_ble_eq_true rfl) ?_
  show am_E d m_X8_least 0 0 0 [some (am_i a1)] [] K N I P z Q am_nx
  refine e_iload_n dX8_least_0 rfl ?_
  refine e_if_ne (tgt := 9) dX8_least_1 (by decide) (fun hc => ?_) (fun hc => ?_)
  · replace h := h.1 hc
    refine e_iload_n dX8_least_9 rfl ?_
    refine e_iconst dX8_least_10 ?_
    refine e_icmp_ne (tgt := 20) dX8_least_11 (by decide) (fun hc => ?_) (fun hc => ?_)
    · replace h := h.1 hc
      refine e_iconst dX8_least_20 ?_
      exact e_ret_i dX8_least_21 rfl (Nat.le_of_ble_eq_true rfl) (Nat.le_of_ble_eq_true rfl) h
    · replace h := h.2 hc
      refine e_sipush dX8_least_14 ?_
      refine e_goto (tgt := 21) dX8_least_17 (by decide) ?_
      exact e_ret_i dX8_least_21 rfl (Nat.le_of_ble_eq_true rfl) (Nat.le_of_ble_eq_true rfl) h
  · replace h := h.2 hc
    refine e_bipush dX8_least_4 ?_
    refine e_goto (tgt := 21) dX8_least_6 (by decide) ?_
    exact e_ret_i dX8_least_21 rfl (Nat.le_of_ble_eq_true rfl) (Nat.le_of_ble_eq_true rfl) h
set_option maxRecDepth 100000 in
set_option maxHeartbeats 4000000 in
theorem wf_X8_most {d : Nat} {a1 : Int} {K N : Nat → Nat} {I : Nat → Nat → Int} {P : Nat → Nat → Option Nat} {z : Nat} {Q : am_V → am_T} (h :
  ((a1 = 0 →
    Q (am_i 1000) K N I P z) ∧
    (a1 = 1 →
    Q (am_i 200) K N I P z) ∧
    (a1 = 2 →
    Q (am_i 500) K N I P z) ∧
    (a1 = 3 →
    Q (am_i 500) K N I P z) ∧
    (a1 = 4 →
    Q (am_i 5000) K N I P z) ∧
    (a1 = 5 →
    Q (am_i 100) K N I P z) ∧
    ((a1 < 0 ∨ 5 < a1) →
    Q (am_i 500) K N I P z))) :
  am_C d m_X8_most [am_i a1] K N I P z Q am_nx := by
  refine am_C_of ok_X8_most (fun v hv => am_v1all _ rfl v hv) (Nat.le_of_ble_eq_true rfl) ?_
  show am_E d m_X8_most 0 0 0 [some (am_i a1)] [] K N I P z Q am_nx
  refine e_iload_n dX8_most_0 rfl ?_
  refine e_tsw dX8_most_1 (by decide) (by decide) (by decide) ?_ ?_
  · refine ⟨fun hc => ?_, ⟨fun hc => ?_, ⟨fun hc => ?_, ⟨fun hc => ?_, ⟨fun hc => ?_, ⟨fun hc => ?_, trivial⟩⟩⟩⟩⟩⟩
    · have h := h.1 (by omega)
      show am_E _ _ 40 _ _ _ _ _ _ _ _ _ _ _
      refine e_sipush dX8_most_40 ?_
      exact e_ret_i dX8_most_43 rfl (Nat.le_of_ble_eq_true rfl) (Nat.le_of_ble_eq_true rfl) h
    · have h := h.2.1 (by omega)
      show am_E _ _ 44 _ _ _ _ _ _ _ _ _ _ _
      refine e_sipush dX8_most_44 ?_
      exact e_ret_i dX8_most_47 rfl (Nat.le_of_ble_eq_true rfl) (Nat.le_of_ble_eq_true rfl) h
    · have h := h.2.2.1 (by omega)
      show am_E _ _ 55 _ _ _ _ _ _ _ _ _ _ _
      refine e_sipush dX8_most_55 ?_
      exact e_ret_i dX8_most_58 rfl (Nat.le_of_ble_eq_true rfl) (Nat.le_of_ble_eq_true rfl) h
    · have h := h.2.2.2.1 (by omega)
      show am_E _ _ 55 _ _ _ _ _ _ _ _ _ _ _
      refine e_sipush dX8_most_55 ?_
      exact e_ret_i dX8_most_58 rfl (Nat.le_of_ble_eq_true rfl) (Nat.le_of_ble_eq_true rfl) h
    · have h := h.2.2.2.2.1 (by omega)
      show am_E _ _ 48 _ _ _ _ _ _ _ _ _ _ _
      refine e_sipush dX8_most_48 ?_
      exact e_ret_i dX8_most_51 rfl (Nat.le_of_ble_eq_true rfl) (Nat.le_of_ble_eq_true rfl) h
    · have h := h.2.2.2.2.2.1 (by omega)
      show am_E _ _ 52 _ _ _ _ _ _ _ _ _ _ _
      refine e_bipush dX8_most_52 ?_
      exact e_ret_i dX8_most_54 rfl (Nat.le_of_ble_eq_true rfl) (Nat.le_of_ble_eq_true rfl) h
  · intro hc
    have h := h.2.2.2.2.2.2 hc
    show am_E _ _ 55 _ _ _ _ _ _ _ _ _ _ _
    refine e_sipush dX8_most_55 ?_
    exact e_ret_i dX8_most_58 rfl (Nat.le_of_ble_eq_true rfl) (Nat.le_of_ble_eq_true rfl) h
set_option maxRecDepth 100000 in
set_option maxHeartbeats 4000000 in
theorem wf_X8_set {d : Nat} (hd : 1 ≤ d) {s : Nat} {a1 : Int} {a2 : Int} {K N : Nat → Nat} {I : Nat → Nat → Int} {P : Nat → Nat → Option Nat} {z : Nat} {Q : am_V → am_T} (h :
  K s = 8 ∧ ∀ I2, I2 = am_u2 I s 7 0 → am_C (d - 1) m_X8_in [am_i a1, am_i 0, am_i 5] K N I2 P z (fun v K3 N4 I5 P6 z7 => am_iv v fun x8 =>
    ((¬ x8 = 0 →
    am_C (d - 1) m_X8_least [am_i a1] K3 N4 I5 P6 z7 (fun v K9 N10 I11 P12 z13 => am_iv v fun x14 =>
      am_C (d - 1) m_X8_most [am_i a1] K9 N10 I11 P12 z13 (fun v K15 N16 I17 P18 z19 => am_iv v fun x20 =>
      am_C (d - 1) m_X8_in [am_i a2, am_i x14, am_i x20] K15 N16 I17 P18 z19 (fun v K21 N22 I23 P24 z25 => am_iv v fun x26 =>
      ((¬ x26 = 0 →
      K21 s = 8 ∧ am_C (d - 1) m_X8_onBelt [am_r s] K21 N22 I23 P24 z25 (fun v K27 N28 I29 P30 z31 => am_iv v fun x33 =>
        ((x33 ≤ 0 →
        K27 s = 8 ∧ am_C (d - 1) m_X8_save [am_r s] K27 N28 I29 P30 z31 (fun _ K34 N35 I36 P37 z38 =>
          K34 s = 8 ∧ ∃ b41, P37 s 0 = some b41 ∧ K34 b41 = 10 ∧ (0 ≤ am_wr (1 + a1) ∧ am_wr (1 + a1) < N35 b41) ∧ (0 ≤ am_wr (1 + a1) ∧ am_wr (1 + a1) < N35 b41) ∧ ∀ I43, I43 = am_u2 I36 b41 (Int.toNat (am_wr (1 + a1))) a2 → Q (am_i (I36 b41 (Int.toNat (am_wr (1 + a1))))) K34 N35 I43 P37 z38) am_nx) ∧
        (¬ (x33 ≤ 0) →
        K27 s = 8 ∧ am_C (d - 1) m_X8_refuse [am_r s, am_i 3] K27 N28 I29 P30 z31 (fun v K44 N45 I46 P47 z48 => am_iv v fun x50 =>
          Q (am_i x50) K44 N45 I46 P47 z48) am_nx))) am_nx) ∧
      (x26 = 0 →
      K21 s = 8 ∧ am_C (d - 1) m_X8_refuse [am_r s, am_i 2] K21 N22 I23 P24 z25 (fun v K51 N52 I53 P54 z55 => am_iv v fun x57 =>
        Q (am_i x57) K51 N52 I53 P54 z55) am_nx))) am_nx) am_nx) am_nx) ∧
    (x8 = 0 →
    K3 s = 8 ∧ am_C (d - 1) m_X8_refuse [am_r s, am_i 1] K3 N4 I5 P6 z7 (fun v K58 N59 I60 P61 z62 => am_iv v fun x64 =>
      Q (am_i x64) K58 N59 I60 P61 z62) am_nx))) am_nx) :
  am_C d m_X8_set [am_r s, am_i a1, am_i a2] K N I P z Q am_nx := by
  refine am_C_of ok_X8_set (fun v hv => am_v1all _ rfl v hv) (Nat.le_of_ble_eq_true rfl) ?_
  show am_E d m_X8_set 0 0 0 [some (am_r s), some (am_i a1), some (am_i a2), none] [] K N I P z Q am_nx
  refine e_aload_n dX8_set_0 rfl trivial ?_
  refine e_iconst dX8_set_1 ?_
  obtain ⟨hK1, h⟩ := h
  refine e_puti dX8_set_2 fk_X8_25 rfl (Or.inl rfl) hK1 ?_
  replace h := h _ rfl
  generalize am_u2 I s 7 0 = I2 at h ⊢
  refine e_iload_n dX8_set_5 rfl ?_
  refine e_iconst dX8_set_6 ?_
  refine e_iconst dX8_set_7 ?_
  refine e_callS (Mc := m_X8_in) (vs := [am_i a1, am_i 0, am_i 5]) (st := []) dX8_set_8 ok_X8_in rfl mk_X8_40 sm_X8_in rfl rfl (by omega) (Nat.le_of_ble_eq_true rfl) (Nat.le_of_ble_eq_true rfl) (Nat.le_of_ble_eq_true rfl) am_xh_nx (am_C_mono h (fun v K3 N4 I5 P6 z7 h => ?_) (fun _ _ _ _ _ _ h => h))
  replace h := am_iv_or h
  obtain ⟨x8, rfl, h⟩ := h
  show am_E d m_X8_set 11 _ _ _ [am_i x8] K3 N4 I5 P6 z7 Q am_nx
  refine e_if_ne (tgt := 20) dX8_set_11 (by decide) (fun hc => ?_) (fun hc => ?_)
  · replace h := h.1 hc
    refine e_iload_n dX8_set_20 rfl ?_
    refine e_iload_n dX8_set_21 rfl ?_
    refine e_callS (Mc := m_X8_least) (vs := [am_i a1]) (st := [am_i a2]) dX8_set_22 ok_X8_least rfl mk_X8_48 sm_X8_least rfl rfl (by omega) (Nat.le_of_ble_eq_true rfl) (Nat.le_of_ble_eq_true rfl) (Nat.le_of_ble_eq_true rfl) am_xh_nx (am_C_mono h (fun v K9 N10 I11 P12 z13 h => ?_) (fun _ _ _ _ _ _ h => h))
    replace h := am_iv_or h
    obtain ⟨x14, rfl, h⟩ := h
    show am_E d m_X8_set 25 _ _ _ [am_i x14, am_i a2] K9 N10 I11 P12 z13 Q am_nx
    refine e_iload_n dX8_set_25 rfl ?_
    refine e_callS (Mc := m_X8_most) (vs := [am_i a1]) (st := [am_i x14, am_i a2]) dX8_set_26 ok_X8_most rfl mk_X8_51 sm_X8_most rfl rfl (by omega) (Nat.le_of_ble_eq_true rfl) (Nat.le_of_ble_eq_true rfl) (Nat.le_of_ble_eq_true rfl) am_xh_nx (am_C_mono h (fun v K15 N16 I17 P18 z19 h => ?_) (fun _ _ _ _ _ _ h => h))
    replace h := am_iv_or h
    obtain ⟨x20, rfl, h⟩ := h
    show am_E d m_X8_set 29 _ _ _ [am_i x20, am_i x14, am_i a2] K15 N16 I17 P18 z19 Q am_nx
    refine e_callS (Mc := m_X8_in) (vs := [am_i a2, am_i x14, am_i x20]) (st := []) dX8_set_29 ok_X8_in rfl mk_X8_40 sm_X8_in rfl rfl (by omega) (Nat.le_of_ble_eq_true rfl) (Nat.le_of_ble_eq_true rfl) (Nat.le_of_ble_eq_true rfl) am_xh_nx (am_C_mono h (fun v K21 N22 I23 P24 z25 h => ?_) (fun _ _ _ _ _ _ h => h))
    replace h := am_iv_or h
    obtain ⟨x26, rfl, h⟩ := h
    show am_E d m_X8_set 32 _ _ _ [am_i x26] K21 N22 I23 P24 z25 Q am_nx
    refine e_if_ne (tgt := 41) dX8_set_32 (by decide) (fun hc => ?_) (fun hc => ?_)
    · replace h := h.1 hc
      refine e_aload_n dX8_set_41 rfl trivial ?_
      obtain ⟨hK32, h⟩ := h
      refine e_callV (Mc := m_X8_onBelt) (vs := []) (st := []) dX8_set_42 ok_X8_onBelt rfl ⟨by decide, rfl⟩ mk_X8_54 im_X8_onBelt sl_X8_onBelt rfl rfl hK32 (by omega) (Nat.le_of_ble_eq_true rfl) (Nat.le_of_ble_eq_true rfl) (Nat.le_of_ble_eq_true rfl) am_xh_nx (am_C_mono h (fun v K27 N28 I29 P30 z31 h => ?_) (fun _ _ _ _ _ _ h => h))
      replace h := am_iv_or h
      obtain ⟨x33, rfl, h⟩ := h
      show am_E d m_X8_set 45 _ _ _ [am_i x33] K27 N28 I29 P30 z31 Q am_nx
      refine e_if_le (tgt := 54) dX8_set_45 (by decide) (fun hc => ?_) (fun hc => ?_)
      · replace h := h.1 hc
        refine e_aload_n dX8_set_54 rfl trivial ?_
        obtain ⟨hK39, h⟩ := h
        refine e_callV (Mc := m_X8_save) (vs := []) (st := []) dX8_set_55 ok_X8_save rfl ⟨by decide, rfl⟩ mk_X8_58 im_X8_save sl_X8_save rfl rfl hK39 (by omega) (Nat.le_of_ble_eq_true rfl) (Nat.le_of_ble_eq_true rfl) (Nat.le_of_ble_eq_true rfl) am_xh_nx (am_C_mono h (fun v K34 N35 I36 P37 z38 h => ?_) (fun _ _ _ _ _ _ h => h))
        show am_E d m_X8_set 58 _ _ _ [] K34 N35 I36 P37 z38 Q am_nx
        refine e_aload_n dX8_set_58 rfl trivial ?_
        obtain ⟨hK40, h⟩ := h
        obtain ⟨b41, hb41, h⟩ := h
        refine e_getr1 dX8_set_59 fk_X8_7 rfl hK40 hb41 ?_
        refine e_iconst dX8_set_62 ?_
        refine e_iload_n dX8_set_63 rfl ?_
        refine e_iadd dX8_set_64 ?_
        obtain ⟨hK42, h⟩ := h
        obtain ⟨⟨h0, h1⟩, h⟩ := h
        refine e_iald dX8_set_65 hK42 h0 h1 ?_
        refine e_istore_n dX8_set_66 ?_
        refine e_aload_n dX8_set_67 rfl trivial ?_
        refine e_getr1 dX8_set_68 fk_X8_7 rfl hK40 hb41 ?_
        refine e_iconst dX8_set_71 ?_
        refine e_iload_n dX8_set_72 rfl ?_
        refine e_iadd dX8_set_73 ?_
        refine e_iload_n dX8_set_74 rfl ?_
        obtain ⟨⟨h0, h1⟩, h⟩ := h
        refine e_iast dX8_set_75 hK42 h0 h1 ?_
        replace h := h _ rfl
        generalize am_u2 I36 b41 (Int.toNat (am_wr (1 + a1))) a2 = I43 at h ⊢
        refine e_iload_n dX8_set_76 rfl ?_
        exact e_ret_i dX8_set_77 rfl (Nat.le_of_ble_eq_true rfl) (Nat.le_of_ble_eq_true rfl) h
      · replace h := h.2 hc
        refine e_aload_n dX8_set_48 rfl trivial ?_
        refine e_iconst dX8_set_49 ?_
        obtain ⟨hK49, h⟩ := h
        refine e_callV (Mc := m_X8_refuse) (vs := [am_i 3]) (st := []) dX8_set_50 ok_X8_refuse rfl ⟨by decide, rfl⟩ mk_X8_44 im_X8_refuse sl_X8_refuse rfl rfl hK49 (by omega) (Nat.le_of_ble_eq_true rfl) (Nat.le_of_ble_eq_true rfl) (Nat.le_of_ble_eq_true rfl) am_xh_nx (am_C_mono h (fun v K44 N45 I46 P47 z48 h => ?_) (fun _ _ _ _ _ _ h => h))
        replace h := am_iv_or h
        obtain ⟨x50, rfl, h⟩ := h
        show am_E d m_X8_set 53 _ _ _ [am_i x50] K44 N45 I46 P47 z48 Q am_nx
        exact e_ret_i dX8_set_53 rfl (Nat.le_of_ble_eq_true rfl) (Nat.le_of_ble_eq_true rfl) h
    · replace h := h.2 hc
      refine e_aload_n dX8_set_35 rfl trivial ?_
      refine e_iconst dX8_set_36 ?_
      obtain ⟨hK56, h⟩ := h
      refine e_callV (Mc := m_X8_refuse) (vs := [am_i 2]) (st := []) dX8_set_37 ok_X8_refuse rfl ⟨by decide, rfl⟩ mk_X8_44 im_X8_refuse sl_X8_refuse rfl rfl hK56 (by omega) (Nat.le_of_ble_eq_true rfl) (Nat.le_of_ble_eq_true rfl) (Nat.le_of_ble_eq_true rfl) am_xh_nx (am_C_mono h (fun v K51 N52 I53 P54 z55 h => ?_) (fun _ _ _ _ _ _ h => h))
      replace h := am_iv_or h
      obtain ⟨x57, rfl, h⟩ := h
      show am_E d m_X8_set 40 _ _ _ [am_i x57] K51 N52 I53 P54 z55 Q am_nx
      exact e_ret_i dX8_set_40 rfl (Nat.le_of_ble_eq_true rfl) (Nat.le_of_ble_eq_true rfl) h
  · replace h := h.2 hc
    refine e_aload_n dX8_set_14 rfl trivial ?_
    refine e_iconst dX8_set_15 ?_
    obtain ⟨hK63, h⟩ := h
    refine e_callV (Mc := m_X8_refuse) (vs := [am_i 1]) (st := []) dX8_set_16 ok_X8_refuse rfl ⟨by decide, rfl⟩ mk_X8_44 im_X8_refuse sl_X8_refuse rfl rfl hK63 (by omega) (Nat.le_of_ble_eq_true rfl) (Nat.le_of_ble_eq_true rfl) (Nat.le_of_ble_eq_true rfl) am_xh_nx (am_C_mono h (fun v K58 N59 I60 P61 z62 h => ?_) (fun _ _ _ _ _ _ h => h))
    replace h := am_iv_or h
    obtain ⟨x64, rfl, h⟩ := h
    show am_E d m_X8_set 19 _ _ _ [am_i x64] K58 N59 I60 P61 z62 Q am_nx
    exact e_ret_i dX8_set_19 rfl (Nat.le_of_ble_eq_true rfl) (Nat.le_of_ble_eq_true rfl) h
set_option maxRecDepth 100000 in
set_option maxHeartbeats 4000000 in
theorem wf_X8_addLane {d : Nat} (hd : 1 ≤ d) {s : Nat} {a1 : Int} {a2 : Int} {a3 : Int} {K N : Nat → Nat} {I : Nat → Nat → Int} {P : Nat → Nat → Option Nat} {z : Nat} {Q : am_V → am_T} (h :
  K s = 8 ∧ ∀ I2, I2 = am_u2 I s 7 0 → am_C (d - 1) m_X8_in [am_i a1, am_i 1, am_i 4999] K N I2 P z (fun v K3 N4 I5 P6 z7 => am_iv v fun x8 =>
    ((x8 = 0 →
    K3 s = 8 ∧ am_C (d - 1) m_X8_refuse [am_r s, am_i 1] K3 N4 I5 P6 z7 (fun v K9 N10 I11 P12 z13 => am_iv v fun x15 =>
      Q (am_i x15) K9 N10 I11 P12 z13) am_nx) ∧
    (¬ (x8 = 0) →
    am_C (d - 1) m_X8_in [am_i a2, am_i 1, am_i 200] K3 N4 I5 P6 z7 (fun v K16 N17 I18 P19 z20 => am_iv v fun x21 =>
      ((x21 = 0 →
      K16 s = 8 ∧ am_C (d - 1) m_X8_refuse [am_r s, am_i 1] K16 N17 I18 P19 z20 (fun v K22 N23 I24 P25 z26 => am_iv v fun x28 =>
        Q (am_i x28) K22 N23 I24 P25 z26) am_nx) ∧
      (¬ (x21 = 0) →
      am_C (d - 1) m_X8_in [am_i a3, am_i 1, am_i 50] K16 N17 I18 P19 z20 (fun v K29 N30 I31 P32 z33 => am_iv v fun x34 =>
        ((¬ x34 = 0 →
        K29 s = 8 ∧ ∃ b36, P32 s 0 = some b36 ∧ K29 b36 = 10 ∧ (0 ≤ (7 : Int) ∧ (7 : Int) < N30 b36) ∧ ((¬ I31 b36 7 = 6 →
          am_C (d - 1) m_X8_save [am_r s] K29 N30 I31 P32 z33 (fun _ K38 N39 I40 P41 z42 =>
            K38 s = 8 ∧ ∃ b44, P41 s 0 = some b44 ∧ K38 b44 = 10 ∧ (0 ≤ (7 : Int) ∧ (7 : Int) < N39 b44) ∧ (0 ≤ am_wr (16 + I40 b44 7) ∧ am_wr (16 + I40 b44 7) < N39 b44) ∧ ∀ I46, I46 = am_u2 I40 b44 (Int.toNat (am_wr (16 + I40 b44 7))) a1 → (0 ≤ am_wr (22 + I40 b44 7) ∧ am_wr (22 + I40 b44 7) < N39 b44) ∧ ∀ I47, I47 = am_u2 I46 b44 (Int.toNat (am_wr (22 + I40 b44 7))) a2 → (0 ≤ am_wr (28 + I40 b44 7) ∧ am_wr (28 + I40 b44 7) < N39 b44) ∧ ∀ I48, I48 = am_u2 I47 b44 (Int.toNat (am_wr (28 + I40 b44 7))) a3 → (0 ≤ (7 : Int) ∧ (7 : Int) < N39 b44) ∧ (0 ≤ (7 : Int) ∧ (7 : Int) < N39 b44) ∧ ∀ I49, I49 = am_u2 I48 b44 (Int.toNat 7) (am_wr (I48 b44 7 + 1)) → Q (am_i (I40 b44 7)) K38 N39 I49 P41 z42) am_nx) ∧
          (I31 b36 7 = 6 →
          am_C (d - 1) m_X8_refuse [am_r s, am_i 2] K29 N30 I31 P32 z33 (fun v K50 N51 I52 P53 z54 => am_iv v fun x55 =>
            Q (am_i x55) K50 N51 I52 P53 z54) am_nx))) ∧
        (x34 = 0 →
        K29 s = 8 ∧ am_C (d - 1) m_X8_refuse [am_r s, am_i 1] K29 N30 I31 P32 z33 (fun v K56 N57 I58 P59 z60 => am_iv v fun x62 =>
          Q (am_i x62) K56 N57 I58 P59 z60) am_nx))) am_nx))) am_nx))) am_nx) :
  am_C d m_X8_addLane [am_r s, am_i a1, am_i a2, am_i a3] K N I P z Q am_nx := by
  refine am_C_of ok_X8_addLane (fun v hv => am_v1all _ rfl v hv) (Nat.le_of_ble_eq_true rfl) ?_
  show am_E d m_X8_addLane 0 0 0 [some (am_r s), some (am_i a1), some (am_i a2), some (am_i a3), none] [] K N I P z Q am_nx
  refine e_aload_n dX8_addLane_0 rfl trivial ?_
  refine e_iconst dX8_addLane_1 ?_
  obtain ⟨hK1, h⟩ := h
  refine e_puti dX8_addLane_2 fk_X8_25 rfl (Or.inl rfl) hK1 ?_
  replace h := h _ rfl
  generalize am_u2 I s 7 0 = I2 at h ⊢
  refine e_iload_n dX8_addLane_5 rfl ?_
  refine e_iconst dX8_addLane_6 ?_
  refine e_sipush dX8_addLane_7 ?_
  refine e_callS (Mc := m_X8_in) (vs := [am_i a1, am_i 1, am_i 4999]) (st := []) dX8_addLane_10 ok_X8_in rfl mk_X8_40 sm_X8_in rfl rfl (by omega) (Nat.le_of_ble_eq_true rfl) (Nat.le_of_ble_eq_true rfl) (Nat.le_of_ble_eq_true rfl) am_xh_nx (am_C_mono h (fun v K3 N4 I5 P6 z7 h => ?_) (fun _ _ _ _ _ _ h => h))
  replace h := am_iv_or h
  obtain ⟨x8, rfl, h⟩ := h
  show am_E d m_X8_addLane 13 _ _ _ [am_i x8] K3 N4 I5 P6 z7 Q am_nx
  refine e_if_eq (tgt := 37) dX8_addLane_13 (by decide) (fun hc => ?_) (fun hc => ?_)
  · replace h := h.1 hc
    refine e_aload_n dX8_addLane_37 rfl trivial ?_
    refine e_iconst dX8_addLane_38 ?_
    obtain ⟨hK14, h⟩ := h
    refine e_callV (Mc := m_X8_refuse) (vs := [am_i 1]) (st := []) dX8_addLane_39 ok_X8_refuse rfl ⟨by decide, rfl⟩ mk_X8_44 im_X8_refuse sl_X8_refuse rfl rfl hK14 (by omega) (Nat.le_of_ble_eq_true rfl) (Nat.le_of_ble_eq_true rfl) (Nat.le_of_ble_eq_true rfl) am_xh_nx (am_C_mono h (fun v K9 N10 I11 P12 z13 h => ?_) (fun _ _ _ _ _ _ h => h))
    replace h := am_iv_or h
    obtain ⟨x15, rfl, h⟩ := h
    show am_E d m_X8_addLane 42 _ _ _ [am_i x15] K9 N10 I11 P12 z13 Q am_nx
    exact e_ret_i dX8_addLane_42 rfl (Nat.le_of_ble_eq_true rfl) (Nat.le_of_ble_eq_true rfl) h
  · replace h := h.2 hc
    refine e_iload_n dX8_addLane_16 rfl ?_
    refine e_iconst dX8_addLane_17 ?_
    refine e_sipush dX8_addLane_18 ?_
    refine e_callS (Mc := m_X8_in) (vs := [am_i a2, am_i 1, am_i 200]) (st := []) dX8_addLane_21 ok_X8_in rfl mk_X8_40 sm_X8_in rfl rfl (by omega) (Nat.le_of_ble_eq_true rfl) (Nat.le_of_ble_eq_true rfl) (Nat.le_of_ble_eq_true rfl) am_xh_nx (am_C_mono h (fun v K16 N17 I18 P19 z20 h => ?_) (fun _ _ _ _ _ _ h => h))
    replace h := am_iv_or h
    obtain ⟨x21, rfl, h⟩ := h
    show am_E d m_X8_addLane 24 _ _ _ [am_i x21] K16 N17 I18 P19 z20 Q am_nx
    refine e_if_eq (tgt := 37) dX8_addLane_24 (by decide) (fun hc => ?_) (fun hc => ?_)
    · replace h := h.1 hc
      refine e_aload_n dX8_addLane_37 rfl trivial ?_
      refine e_iconst dX8_addLane_38 ?_
      obtain ⟨hK27, h⟩ := h
      refine e_callV (Mc := m_X8_refuse) (vs := [am_i 1]) (st := []) dX8_addLane_39 ok_X8_refuse rfl ⟨by decide, rfl⟩ mk_X8_44 im_X8_refuse sl_X8_refuse rfl rfl hK27 (by omega) (Nat.le_of_ble_eq_true rfl) (Nat.le_of_ble_eq_true rfl) (Nat.le_of_ble_eq_true rfl) am_xh_nx (am_C_mono h (fun v K22 N23 I24 P25 z26 h => ?_) (fun _ _ _ _ _ _ h => h))
      replace h := am_iv_or h
      obtain ⟨x28, rfl, h⟩ := h
      show am_E d m_X8_addLane 42 _ _ _ [am_i x28] K22 N23 I24 P25 z26 Q am_nx
      exact e_ret_i dX8_addLane_42 rfl (Nat.le_of_ble_eq_true rfl) (Nat.le_of_ble_eq_true rfl) h
    · replace h := h.2 hc
      refine e_iload_n dX8_addLane_27 rfl ?_
      refine e_iconst dX8_addLane_28 ?_
      refine e_bipush dX8_addLane_29 ?_
      refine e_callS (Mc := m_X8_in) (vs := [am_i a3, am_i 1, am_i 50]) (st := []) dX8_addLane_31 ok_X8_in rfl mk_X8_40 sm_X8_in rfl rfl (by omega) (Nat.le_of_ble_eq_true rfl) (Nat.le_of_ble_eq_true rfl) (Nat.le_of_ble_eq_true rfl) am_xh_nx (am_C_mono h (fun v K29 N30 I31 P32 z33 h => ?_) (fun _ _ _ _ _ _ h => h))
      replace h := am_iv_or h
      obtain ⟨x34, rfl, h⟩ := h
      show am_E d m_X8_addLane 34 _ _ _ [am_i x34] K29 N30 I31 P32 z33 Q am_nx
      refine e_if_ne (tgt := 43) dX8_addLane_34 (by decide) (fun hc => ?_) (fun hc => ?_)
      · replace h := h.1 hc
        refine e_aload_n dX8_addLane_43 rfl trivial ?_
        obtain ⟨hK35, h⟩ := h
        obtain ⟨b36, hb36, h⟩ := h
        refine e_getr1 dX8_addLane_44 fk_X8_7 rfl hK35 hb36 ?_
        refine e_bipush dX8_addLane_47 ?_
        obtain ⟨hK37, h⟩ := h
        obtain ⟨⟨h0, h1⟩, h⟩ := h
        refine e_iald dX8_addLane_49 hK37 h0 h1 ?_
        show am_E _ _ _ _ _ _ (am_i (I31 b36 7) :: _) _ _ _ _ _ _ _
        refine e_bipush dX8_addLane_50 ?_
        refine e_icmp_ne (tgt := 61) dX8_addLane_52 (by decide) (fun hc => ?_) (fun hc => ?_)
        · replace h := h.1 hc
          refine e_aload_n dX8_addLane_61 rfl trivial ?_
          refine e_callV (Mc := m_X8_save) (vs := []) (st := []) dX8_addLane_62 ok_X8_save rfl ⟨by decide, rfl⟩ mk_X8_58 im_X8_save sl_X8_save rfl rfl hK35 (by omega) (Nat.le_of_ble_eq_true rfl) (Nat.le_of_ble_eq_true rfl) (Nat.le_of_ble_eq_true rfl) am_xh_nx (am_C_mono h (fun v K38 N39 I40 P41 z42 h => ?_) (fun _ _ _ _ _ _ h => h))
          show am_E d m_X8_addLane 65 _ _ _ [] K38 N39 I40 P41 z42 Q am_nx
          refine e_aload_n dX8_addLane_65 rfl trivial ?_
          obtain ⟨hK43, h⟩ := h
          obtain ⟨b44, hb44, h⟩ := h
          refine e_getr1 dX8_addLane_66 fk_X8_7 rfl hK43 hb44 ?_
          refine e_bipush dX8_addLane_69 ?_
          obtain ⟨hK45, h⟩ := h
          obtain ⟨⟨h0, h1⟩, h⟩ := h
          refine e_iald dX8_addLane_71 hK45 h0 h1 ?_
          show am_E _ _ _ _ _ _ (am_i (I40 b44 7) :: _) _ _ _ _ _ _ _
          refine e_istore dX8_addLane_72 ?_
          refine e_aload_n dX8_addLane_74 rfl trivial ?_
          refine e_getr1 dX8_addLane_75 fk_X8_7 rfl hK43 hb44 ?_
          refine e_bipush dX8_addLane_78 ?_
          refine e_iload dX8_addLane_80 rfl ?_
          refine e_iadd dX8_addLane_82 ?_
          refine e_iload_n dX8_addLane_83 rfl ?_
          obtain ⟨⟨h0, h1⟩, h⟩ := h
          refine e_iast dX8_addLane_84 hK45 h0 h1 ?_
          replace h := h _ rfl
          generalize am_u2 I40 b44 (Int.toNat (am_wr (16 + I40 b44 7))) a1 = I46 at h ⊢
          refine e_aload_n dX8_addLane_85 rfl trivial ?_
          refine e_getr1 dX8_addLane_86 fk_X8_7 rfl hK43 hb44 ?_
          refine e_bipush dX8_addLane_89 ?_
          refine e_iload dX8_addLane_91 rfl ?_
          refine e_iadd dX8_addLane_93 ?_
          refine e_iload_n dX8_addLane_94 rfl ?_
          obtain ⟨⟨h0, h1⟩, h⟩ := h
          refine e_iast dX8_addLane_95 hK45 h0 h1 ?_
          replace h := h _ rfl
          generalize am_u2 I46 b44 (Int.toNat (am_wr (22 + I40 b44 7))) a2 = I47 at h ⊢
          refine e_aload_n dX8_addLane_96 rfl trivial ?_
          refine e_getr1 dX8_addLane_97 fk_X8_7 rfl hK43 hb44 ?_
          refine e_bipush dX8_addLane_100 ?_
          refine e_iload dX8_addLane_102 rfl ?_
          refine e_iadd dX8_addLane_104 ?_
          refine e_iload_n dX8_addLane_105 rfl ?_
          obtain ⟨⟨h0, h1⟩, h⟩ := h
          refine e_iast dX8_addLane_106 hK45 h0 h1 ?_
          replace h := h _ rfl
          generalize am_u2 I47 b44 (Int.toNat (am_wr (28 + I40 b44 7))) a3 = I48 at h ⊢
          refine e_aload_n dX8_addLane_107 rfl trivial ?_
          refine e_getr1 dX8_addLane_108 fk_X8_7 rfl hK43 hb44 ?_
          refine e_bipush dX8_addLane_111 ?_
          refine e_dup2 dX8_addLane_113 rfl rfl ?_
          obtain ⟨⟨h0, h1⟩, h⟩ := h
          refine e_iald dX8_addLane_114 hK45 h0 h1 ?_
          show am_E _ _ _ _ _ _ (am_i (I48 b44 7) :: _) _ _ _ _ _ _ _
          refine e_iconst dX8_addLane_115 ?_
          refine e_iadd dX8_addLane_116 ?_
          obtain ⟨⟨h0, h1⟩, h⟩ := h
          refine e_iast dX8_addLane_117 hK45 h0 h1 ?_
          replace h := h _ rfl
          generalize am_u2 I48 b44 (Int.toNat 7) (am_wr (I48 b44 7 + 1)) = I49 at h ⊢
          refine e_iload dX8_addLane_118 rfl ?_
          exact e_ret_i dX8_addLane_120 rfl (Nat.le_of_ble_eq_true rfl) (Nat.le_of_ble_eq_true rfl) h
        · replace h := h.2 hc
          refine e_aload_n dX8_addLane_55 rfl trivial ?_
          refine e_iconst dX8_addLane_56 ?_
          refine e_callV (Mc := m_X8_refuse) (vs := [am_i 2]) (st := []) dX8_addLane_57 ok_X8_refuse rfl ⟨by decide, rfl⟩ mk_X8_44 im_X8_refuse sl_X8_refuse rfl rfl hK35 (by omega) (Nat.le_of_ble_eq_true rfl) (Nat.le_of_ble_eq_true rfl) (Nat.le_of_ble_eq_true rfl) am_xh_nx (am_C_mono h (fun v K50 N51 I52 P53 z54 h => ?_) (fun _ _ _ _ _ _ h => h))
          replace h := am_iv_or h
          obtain ⟨x55, rfl, h⟩ := h
          show am_E d m_X8_addLane 60 _ _ _ [am_i x55] K50 N51 I52 P53 z54 Q am_nx
          exact e_ret_i dX8_addLane_60 rfl (Nat.le_of_ble_eq_true rfl) (Nat.le_of_ble_eq_true rfl) h
      · replace h := h.2 hc
        refine e_aload_n dX8_addLane_37 rfl trivial ?_
        refine e_iconst dX8_addLane_38 ?_
        obtain ⟨hK61, h⟩ := h
        refine e_callV (Mc := m_X8_refuse) (vs := [am_i 1]) (st := []) dX8_addLane_39 ok_X8_refuse rfl ⟨by decide, rfl⟩ mk_X8_44 im_X8_refuse sl_X8_refuse rfl rfl hK61 (by omega) (Nat.le_of_ble_eq_true rfl) (Nat.le_of_ble_eq_true rfl) (Nat.le_of_ble_eq_true rfl) am_xh_nx (am_C_mono h (fun v K56 N57 I58 P59 z60 h => ?_) (fun _ _ _ _ _ _ h => h))
        replace h := am_iv_or h
        obtain ⟨x62, rfl, h⟩ := h
        show am_E d m_X8_addLane 42 _ _ _ [am_i x62] K56 N57 I58 P59 z60 Q am_nx
        exact e_ret_i dX8_addLane_42 rfl (Nat.le_of_ble_eq_true rfl) (Nat.le_of_ble_eq_true rfl) h
set_option maxRecDepth 100000 in
set_option maxHeartbeats 4000000 in
theorem wf_X8_emptyLane {d : Nat} (hd : 1 ≤ d) {s : Nat} {a1 : Int} {K N : Nat → Nat} {I : Nat → Nat → Int} {P : Nat → Nat → Option Nat} {z : Nat} {Q : am_V → am_T} (h :
  K s = 8 ∧ ∀ I2, I2 = am_u2 I s 7 0 → am_C (d - 1) m_X8_isLane [am_r s, am_i a1] K N I2 P z (fun v K3 N4 I5 P6 z7 => am_iv v fun x8 =>
    ((¬ x8 = 0 →
    K3 s = 8 ∧ am_C (d - 1) m_X8_save [am_r s] K3 N4 I5 P6 z7 (fun _ K9 N10 I11 P12 z13 =>
      K9 s = 8 ∧ ∃ b16, P12 s 0 = some b16 ∧ K9 b16 = 10 ∧ (0 ≤ am_wr (34 + a1) ∧ am_wr (34 + a1) < N10 b16) ∧ (0 ≤ am_wr (34 + a1) ∧ am_wr (34 + a1) < N10 b16) ∧ ∀ I18, I18 = am_u2 I11 b16 (Int.toNat (am_wr (34 + a1))) 0 → Q (am_i (I11 b16 (Int.toNat (am_wr (34 + a1))))) K9 N10 I18 P12 z13) am_nx) ∧
    (x8 = 0 →
    K3 s = 8 ∧ am_C (d - 1) m_X8_refuse [am_r s, am_i 1] K3 N4 I5 P6 z7 (fun v K19 N20 I21 P22 z23 => am_iv v fun x25 =>
      Q (am_i x25) K19 N20 I21 P22 z23) am_nx))) am_nx) :
  am_C d m_X8_emptyLane [am_r s, am_i a1] K N I P z Q am_nx := by
  refine am_C_of ok_X8_emptyLane (fun v hv => am_v1all _ rfl v hv) (Nat.le_of_ble_eq_true rfl) ?_
  show am_E d m_X8_emptyLane 0 0 0 [some (am_r s), some (am_i a1), none] [] K N I P z Q am_nx
  refine e_aload_n dX8_emptyLane_0 rfl trivial ?_
  refine e_iconst dX8_emptyLane_1 ?_
  obtain ⟨hK1, h⟩ := h
  refine e_puti dX8_emptyLane_2 fk_X8_25 rfl (Or.inl rfl) hK1 ?_
  replace h := h _ rfl
  generalize am_u2 I s 7 0 = I2 at h ⊢
  refine e_aload_n dX8_emptyLane_5 rfl trivial ?_
  refine e_iload_n dX8_emptyLane_6 rfl ?_
  refine e_callV (Mc := m_X8_isLane) (vs := [am_i a1]) (st := []) dX8_emptyLane_7 ok_X8_isLane rfl ⟨by decide, rfl⟩ mk_X8_61 im_X8_isLane sl_X8_isLane rfl rfl hK1 (by omega) (Nat.le_of_ble_eq_true rfl) (Nat.le_of_ble_eq_true rfl) (Nat.le_of_ble_eq_true rfl) am_xh_nx (am_C_mono h (fun v K3 N4 I5 P6 z7 h => ?_) (fun _ _ _ _ _ _ h => h))
  replace h := am_iv_or h
  obtain ⟨x8, rfl, h⟩ := h
  show am_E d m_X8_emptyLane 10 _ _ _ [am_i x8] K3 N4 I5 P6 z7 Q am_nx
  refine e_if_ne (tgt := 19) dX8_emptyLane_10 (by decide) (fun hc => ?_) (fun hc => ?_)
  · replace h := h.1 hc
    refine e_aload_n dX8_emptyLane_19 rfl trivial ?_
    obtain ⟨hK14, h⟩ := h
    refine e_callV (Mc := m_X8_save) (vs := []) (st := []) dX8_emptyLane_20 ok_X8_save rfl ⟨by decide, rfl⟩ mk_X8_58 im_X8_save sl_X8_save rfl rfl hK14 (by omega) (Nat.le_of_ble_eq_true rfl) (Nat.le_of_ble_eq_true rfl) (Nat.le_of_ble_eq_true rfl) am_xh_nx (am_C_mono h (fun v K9 N10 I11 P12 z13 h => ?_) (fun _ _ _ _ _ _ h => h))
    show am_E d m_X8_emptyLane 23 _ _ _ [] K9 N10 I11 P12 z13 Q am_nx
    refine e_aload_n dX8_emptyLane_23 rfl trivial ?_
    obtain ⟨hK15, h⟩ := h
    obtain ⟨b16, hb16, h⟩ := h
    refine e_getr1 dX8_emptyLane_24 fk_X8_7 rfl hK15 hb16 ?_
    refine e_bipush dX8_emptyLane_27 ?_
    refine e_iload_n dX8_emptyLane_29 rfl ?_
    refine e_iadd dX8_emptyLane_30 ?_
    obtain ⟨hK17, h⟩ := h
    obtain ⟨⟨h0, h1⟩, h⟩ := h
    refine e_iald dX8_emptyLane_31 hK17 h0 h1 ?_
    refine e_istore_n dX8_emptyLane_32 ?_
    refine e_aload_n dX8_emptyLane_33 rfl trivial ?_
    refine e_getr1 dX8_emptyLane_34 fk_X8_7 rfl hK15 hb16 ?_
    refine e_bipush dX8_emptyLane_37 ?_
    refine e_iload_n dX8_emptyLane_39 rfl ?_
    refine e_iadd dX8_emptyLane_40 ?_
    refine e_iconst dX8_emptyLane_41 ?_
    obtain ⟨⟨h0, h1⟩, h⟩ := h
    refine e_iast dX8_emptyLane_42 hK17 h0 h1 ?_
    replace h := h _ rfl
    generalize am_u2 I11 b16 (Int.toNat (am_wr (34 + a1))) 0 = I18 at h ⊢
    refine e_iload_n dX8_emptyLane_43 rfl ?_
    exact e_ret_i dX8_emptyLane_44 rfl (Nat.le_of_ble_eq_true rfl) (Nat.le_of_ble_eq_true rfl) h
  · replace h := h.2 hc
    refine e_aload_n dX8_emptyLane_13 rfl trivial ?_
    refine e_iconst dX8_emptyLane_14 ?_
    obtain ⟨hK24, h⟩ := h
    refine e_callV (Mc := m_X8_refuse) (vs := [am_i 1]) (st := []) dX8_emptyLane_15 ok_X8_refuse rfl ⟨by decide, rfl⟩ mk_X8_44 im_X8_refuse sl_X8_refuse rfl rfl hK24 (by omega) (Nat.le_of_ble_eq_true rfl) (Nat.le_of_ble_eq_true rfl) (Nat.le_of_ble_eq_true rfl) am_xh_nx (am_C_mono h (fun v K19 N20 I21 P22 z23 h => ?_) (fun _ _ _ _ _ _ h => h))
    replace h := am_iv_or h
    obtain ⟨x25, rfl, h⟩ := h
    show am_E d m_X8_emptyLane 18 _ _ _ [am_i x25] K19 N20 I21 P22 z23 Q am_nx
    exact e_ret_i dX8_emptyLane_18 rfl (Nat.le_of_ble_eq_true rfl) (Nat.le_of_ble_eq_true rfl) h
def L_X8_placeOf_2 (d : Nat) (l0 : Nat) (l1 : Int) (l2 : Int) (K N : Nat → Nat) (I : Nat → Nat → Int) (P : Nat → Nat → Option Nat) (z : Nat) (Q : am_V → am_T) : Prop := am_E d m_X8_placeOf 2 0 0 [some (am_r l0), some (am_i l1), some (am_i l2)] [] K N I P z Q am_nx
set_option maxRecDepth 100000 in
set_option maxHeartbeats 4000000 in
theorem wf_X8_placeOf {d : Nat} {s : Nat} {a1 : Int} {K N : Nat → Nat} {I : Nat → Nat → Int} {P : Nat → Nat → Option Nat} {z : Nat} {Q : am_V → am_T} (h :
  L_X8_placeOf_2 d s a1 0 K N I P z Q) :
  am_C d m_X8_placeOf [am_r s, am_i a1] K N I P z Q am_nx := by
  refine am_C_of ok_X8_placeOf (fun v hv => am_v1all _ rfl v hv) (Nat.le_of_ble_eq_true rfl) ?_
  show am_E d m_X8_placeOf 0 0 0 [some (am_r s), some (am_i a1), none] [] K N I P z Q am_nx
  refine e_iconst dX8_placeOf_0 ?_
  refine e_istore_n dX8_placeOf_1 ?_
  exact e_forget (am_sub_k (am_sub_k (am_sub_k am_sub_nil))) h
set_option maxRecDepth 100000 in
set_option maxHeartbeats 4000000 in
theorem wf_X8_placeOf_2 {d : Nat} {l0 : Nat} {l1 : Int} {l2 : Int} {K N : Nat → Nat} {I : Nat → Nat → Int} {P : Nat → Nat → Option Nat} {z : Nat} {Q : am_V → am_T} (h :
  K l0 = 8 ∧ ∃ b2, P l0 0 = some b2 ∧ K b2 = 10 ∧ (0 ≤ (8 : Int) ∧ (8 : Int) < N b2) ∧ ((I b2 8 ≤ l2 →
    Q (am_i l2) K N I P z) ∧
    (¬ (I b2 8 ≤ l2) →
    (0 ≤ am_wr (46 + l2) ∧ am_wr (46 + l2) < N b2) ∧ ((l1 ≤ I b2 (Int.toNat (am_wr (46 + l2))) →
      Q (am_i l2) K N I P z) ∧
      (¬ (l1 ≤ I b2 (Int.toNat (am_wr (46 + l2)))) →
      L_X8_placeOf_2 d l0 l1 (am_wr (l2 + 1)) K N I P z Q))))) :
  L_X8_placeOf_2 d l0 l1 l2 K N I P z Q := by
  unfold L_X8_placeOf_2
  refine e_iload_n dX8_placeOf_2 rfl ?_
  refine e_aload_n dX8_placeOf_3 rfl trivial ?_
  obtain ⟨hK1, h⟩ := h
  obtain ⟨b2, hb2, h⟩ := h
  refine e_getr1 dX8_placeOf_4 fk_X8_7 rfl hK1 hb2 ?_
  refine e_bipush dX8_placeOf_7 ?_
  obtain ⟨hK3, h⟩ := h
  obtain ⟨⟨h0, h1⟩, h⟩ := h
  refine e_iald dX8_placeOf_9 hK3 h0 h1 ?_
  show am_E _ _ _ _ _ _ (am_i (I b2 8) :: _) _ _ _ _ _ _ _
  refine e_icmp_ge (tgt := 32) dX8_placeOf_10 (by decide) (fun hc => ?_) (fun hc => ?_)
  · replace h := h.1 hc
    refine e_iload_n dX8_placeOf_32 rfl ?_
    exact e_ret_i dX8_placeOf_33 rfl (Nat.le_of_ble_eq_true rfl) (Nat.le_of_ble_eq_true rfl) h
  · replace h := h.2 hc
    refine e_aload_n dX8_placeOf_13 rfl trivial ?_
    refine e_getr1 dX8_placeOf_14 fk_X8_7 rfl hK1 hb2 ?_
    refine e_bipush dX8_placeOf_17 ?_
    refine e_iload_n dX8_placeOf_19 rfl ?_
    refine e_iadd dX8_placeOf_20 ?_
    obtain ⟨⟨h0, h1⟩, h⟩ := h
    refine e_iald dX8_placeOf_21 hK3 h0 h1 ?_
    refine e_iload_n dX8_placeOf_22 rfl ?_
    refine e_icmp_ge (tgt := 32) dX8_placeOf_23 (by decide) (fun hc => ?_) (fun hc => ?_)
    · replace h := h.1 hc
      refine e_iload_n dX8_placeOf_32 rfl ?_
      exact e_ret_i dX8_placeOf_33 rfl (Nat.le_of_ble_eq_true rfl) (Nat.le_of_ble_eq_true rfl) h
    · replace h := h.2 hc
      refine e_iinc dX8_placeOf_26 rfl ?_
      refine e_goto (tgt := 2) dX8_placeOf_29 (by decide) ?_
      exact e_forget (am_sub_k (am_sub_k (am_sub_k am_sub_nil))) h
set_option maxRecDepth 100000 in
set_option maxHeartbeats 4000000 in
theorem wf_X8_hasRoute {d : Nat} (hd : 1 ≤ d) {s : Nat} {a1 : Int} {K N : Nat → Nat} {I : Nat → Nat → Int} {P : Nat → Nat → Option Nat} {z : Nat} {Q : am_V → am_T} (h :
  K s = 8 ∧ am_C (d - 1) m_X8_placeOf [am_r s, am_i a1] K N I P z (fun v K1 N2 I3 P4 z5 => am_iv v fun x7 =>
    K1 s = 8 ∧ ∃ b9, P4 s 0 = some b9 ∧ K1 b9 = 10 ∧ (0 ≤ (8 : Int) ∧ (8 : Int) < N2 b9) ∧ ((I3 b9 8 ≤ x7 →
    Q (am_i 0) K1 N2 I3 P4 z5) ∧
    (¬ (I3 b9 8 ≤ x7) →
    (0 ≤ am_wr (46 + x7) ∧ am_wr (46 + x7) < N2 b9) ∧ ((¬ I3 b9 (Int.toNat (am_wr (46 + x7))) = a1 →
      Q (am_i 0) K1 N2 I3 P4 z5) ∧
      (I3 b9 (Int.toNat (am_wr (46 + x7))) = a1 →
      Q (am_i 1) K1 N2 I3 P4 z5))))) am_nx) :
  am_C d m_X8_hasRoute [am_r s, am_i a1] K N I P z Q am_nx := by
  refine am_C_of ok_X8_hasRoute (fun v hv => am_v1all _ rfl v hv) (Nat.le_of_ble_eq_true rfl) ?_
  show am_E d m_X8_hasRoute 0 0 0 [some (am_r s), some (am_i a1), none] [] K N I P z Q am_nx
  refine e_aload_n dX8_hasRoute_0 rfl trivial ?_
  refine e_iload_n dX8_hasRoute_1 rfl ?_
  obtain ⟨hK6, h⟩ := h
  refine e_callV (Mc := m_X8_placeOf) (vs := [am_i a1]) (st := []) dX8_hasRoute_2 ok_X8_placeOf rfl ⟨by decide, rfl⟩ mk_X8_64 im_X8_placeOf sl_X8_placeOf rfl rfl hK6 (by omega) (Nat.le_of_ble_eq_true rfl) (Nat.le_of_ble_eq_true rfl) (Nat.le_of_ble_eq_true rfl) am_xh_nx (am_C_mono h (fun v K1 N2 I3 P4 z5 h => ?_) (fun _ _ _ _ _ _ h => h))
  replace h := am_iv_or h
  obtain ⟨x7, rfl, h⟩ := h
  show am_E d m_X8_hasRoute 5 _ _ _ [am_i x7] K1 N2 I3 P4 z5 Q am_nx
  refine e_istore_n dX8_hasRoute_5 ?_
  refine e_iload_n dX8_hasRoute_6 rfl ?_
  refine e_aload_n dX8_hasRoute_7 rfl trivial ?_
  obtain ⟨hK8, h⟩ := h
  obtain ⟨b9, hb9, h⟩ := h
  refine e_getr1 dX8_hasRoute_8 fk_X8_7 rfl hK8 hb9 ?_
  refine e_bipush dX8_hasRoute_11 ?_
  obtain ⟨hK10, h⟩ := h
  obtain ⟨⟨h0, h1⟩, h⟩ := h
  refine e_iald dX8_hasRoute_13 hK10 h0 h1 ?_
  show am_E _ _ _ _ _ _ (am_i (I3 b9 8) :: _) _ _ _ _ _ _ _
  refine e_icmp_ge (tgt := 34) dX8_hasRoute_14 (by decide) (fun hc => ?_) (fun hc => ?_)
  · replace h := h.1 hc
    refine e_iconst dX8_hasRoute_34 ?_
    exact e_ret_z dX8_hasRoute_35 rfl (by decide) (Nat.le_of_ble_eq_true rfl) (Nat.le_of_ble_eq_true rfl) h
  · replace h := h.2 hc
    refine e_aload_n dX8_hasRoute_17 rfl trivial ?_
    refine e_getr1 dX8_hasRoute_18 fk_X8_7 rfl hK8 hb9 ?_
    refine e_bipush dX8_hasRoute_21 ?_
    refine e_iload_n dX8_hasRoute_23 rfl ?_
    refine e_iadd dX8_hasRoute_24 ?_
    obtain ⟨⟨h0, h1⟩, h⟩ := h
    refine e_iald dX8_hasRoute_25 hK10 h0 h1 ?_
    refine e_iload_n dX8_hasRoute_26 rfl ?_
    refine e_icmp_ne (tgt := 34) dX8_hasRoute_27 (by decide) (fun hc => ?_) (fun hc => ?_)
    · replace h := h.1 hc
      refine e_iconst dX8_hasRoute_34 ?_
      exact e_ret_z dX8_hasRoute_35 rfl (by decide) (Nat.le_of_ble_eq_true rfl) (Nat.le_of_ble_eq_true rfl) h
    · replace h := h.2 hc
      refine e_iconst dX8_hasRoute_30 ?_
      refine e_goto (tgt := 35) dX8_hasRoute_31 (by decide) ?_
      exact e_ret_z dX8_hasRoute_35 rfl (by decide) (Nat.le_of_ble_eq_true rfl) (Nat.le_of_ble_eq_true rfl) h
def L_X8_route_104 (d : Nat) (l0 : Nat) (l1 : Int) (l2 : Int) (l4 : Int) (l5 : Int) (l6 : Int) (K N : Nat → Nat) (I : Nat → Nat → Int) (P : Nat → Nat → Option Nat) (z : Nat) (Q : am_V → am_T) : Prop := am_E d m_X8_route 104 0 0 [some (am_r l0), some (am_i l1), some (am_i l2), none, some (am_i l4), some (am_i l5), some (am_i l6)] [] K N I P z Q am_nx
set_option maxRecDepth 100000 in
set_option maxHeartbeats 4000000 in
theorem wf_X8_route {d : Nat} (hd : 1 ≤ d) {s : Nat} {a1 : Int} {a2 : Int} {K N : Nat → Nat} {I : Nat → Nat → Int} {P : Nat → Nat → Option Nat} {z : Nat} {Q : am_V → am_T} (h :
  K s = 8 ∧ ∀ I2, I2 = am_u2 I s 7 0 → am_C (d - 1) m_X8_isCode [am_i a1] K N I2 P z (fun v K3 N4 I5 P6 z7 => am_iv v fun x8 =>
    ((¬ x8 = 0 →
    K3 s = 8 ∧ am_C (d - 1) m_X8_isLane [am_r s, am_i a2] K3 N4 I5 P6 z7 (fun v K9 N10 I11 P12 z13 => am_iv v fun x15 =>
      ((¬ x15 = 0 →
      K9 s = 8 ∧ am_C (d - 1) m_X8_hasRoute [am_r s, am_i a1] K9 N10 I11 P12 z13 (fun v K16 N17 I18 P19 z20 => am_iv v fun x22 =>
        ((¬ x22 = 0 →
        K16 s = 8 ∧ am_C (d - 1) m_X8_save [am_r s] K16 N17 I18 P19 z20 (fun _ K23 N24 I25 P26 z27 =>
          K23 s = 8 ∧ am_C (d - 1) m_X8_placeOf [am_r s, am_i a1] K23 N24 I25 P26 z27 (fun v K29 N30 I31 P32 z33 => am_iv v fun x35 =>
          ((x22 = 0 →
          ((¬ x22 = 0 →
            K29 s = 8 ∧ ∃ b37, P32 s 0 = some b37 ∧ K29 b37 = 10 ∧ (0 ≤ am_wr (46 + x35) ∧ am_wr (46 + x35) < N30 b37) ∧ ∀ I39, I39 = am_u2 I31 b37 (Int.toNat (am_wr (46 + x35))) a1 → (0 ≤ am_wr (76 + x35) ∧ am_wr (76 + x35) < N30 b37) ∧ ∀ I40, I40 = am_u2 I39 b37 (Int.toNat (am_wr (76 + x35))) a2 → Q (am_i (-1)) K29 N30 I40 P32 z33) ∧
            (x22 = 0 →
            K29 s = 8 ∧ ∃ b42, P32 s 0 = some b42 ∧ K29 b42 = 10 ∧ (0 ≤ (8 : Int) ∧ (8 : Int) < N30 b42) ∧ L_X8_route_104 d s a1 a2 x35 (-1) (I31 b42 8) K29 N30 I31 P32 z33 Q))) ∧
          (¬ (x22 = 0) →
          K29 s = 8 ∧ ∃ b45, P32 s 0 = some b45 ∧ K29 b45 = 10 ∧ (0 ≤ am_wr (76 + x35) ∧ am_wr (76 + x35) < N30 b45) ∧ ((¬ x22 = 0 →
            (0 ≤ am_wr (46 + x35) ∧ am_wr (46 + x35) < N30 b45) ∧ ∀ I47, I47 = am_u2 I31 b45 (Int.toNat (am_wr (46 + x35))) a1 → (0 ≤ am_wr (76 + x35) ∧ am_wr (76 + x35) < N30 b45) ∧ ∀ I48, I48 = am_u2 I47 b45 (Int.toNat (am_wr (76 + x35))) a2 → Q (am_i (I31 b45 (Int.toNat (am_wr (76 + x35))))) K29 N30 I48 P32 z33) ∧
            (x22 = 0 →
            (0 ≤ (8 : Int) ∧ (8 : Int) < N30 b45) ∧ L_X8_route_104 d s a1 a2 x35 (I31 b45 (Int.toNat (am_wr (76 + x35)))) (I31 b45 8) K29 N30 I31 P32 z33 Q))))) am_nx) am_nx) ∧
        (x22 = 0 →
        K16 s = 8 ∧ ∃ b50, P19 s 0 = some b50 ∧ K16 b50 = 10 ∧ (0 ≤ (8 : Int) ∧ (8 : Int) < N17 b50) ∧ ((¬ I18 b50 8 = 30 →
          am_C (d - 1) m_X8_save [am_r s] K16 N17 I18 P19 z20 (fun _ K52 N53 I54 P55 z56 =>
            K52 s = 8 ∧ am_C (d - 1) m_X8_placeOf [am_r s, am_i a1] K52 N53 I54 P55 z56 (fun v K57 N58 I59 P60 z61 => am_iv v fun x63 =>
            ((x22 = 0 →
            ((¬ x22 = 0 →
              K57 s = 8 ∧ ∃ b65, P60 s 0 = some b65 ∧ K57 b65 = 10 ∧ (0 ≤ am_wr (46 + x63) ∧ am_wr (46 + x63) < N58 b65) ∧ ∀ I67, I67 = am_u2 I59 b65 (Int.toNat (am_wr (46 + x63))) a1 → (0 ≤ am_wr (76 + x63) ∧ am_wr (76 + x63) < N58 b65) ∧ ∀ I68, I68 = am_u2 I67 b65 (Int.toNat (am_wr (76 + x63))) a2 → Q (am_i (-1)) K57 N58 I68 P60 z61) ∧
              (x22 = 0 →
              K57 s = 8 ∧ ∃ b70, P60 s 0 = some b70 ∧ K57 b70 = 10 ∧ (0 ≤ (8 : Int) ∧ (8 : Int) < N58 b70) ∧ L_X8_route_104 d s a1 a2 x63 (-1) (I59 b70 8) K57 N58 I59 P60 z61 Q))) ∧
            (¬ (x22 = 0) →
            K57 s = 8 ∧ ∃ b73, P60 s 0 = some b73 ∧ K57 b73 = 10 ∧ (0 ≤ am_wr (76 + x63) ∧ am_wr (76 + x63) < N58 b73) ∧ ((¬ x22 = 0 →
              (0 ≤ am_wr (46 + x63) ∧ am_wr (46 + x63) < N58 b73) ∧ ∀ I75, I75 = am_u2 I59 b73 (Int.toNat (am_wr (46 + x63))) a1 → (0 ≤ am_wr (76 + x63) ∧ am_wr (76 + x63) < N58 b73) ∧ ∀ I76, I76 = am_u2 I75 b73 (Int.toNat (am_wr (76 + x63))) a2 → Q (am_i (I59 b73 (Int.toNat (am_wr (76 + x63))))) K57 N58 I76 P60 z61) ∧
              (x22 = 0 →
              (0 ≤ (8 : Int) ∧ (8 : Int) < N58 b73) ∧ L_X8_route_104 d s a1 a2 x63 (I59 b73 (Int.toNat (am_wr (76 + x63)))) (I59 b73 8) K57 N58 I59 P60 z61 Q))))) am_nx) am_nx) ∧
          (I18 b50 8 = 30 →
          am_C (d - 1) m_X8_refuse [am_r s, am_i 3] K16 N17 I18 P19 z20 (fun v K77 N78 I79 P80 z81 => am_iv v fun x82 =>
            Q (am_i x82) K77 N78 I79 P80 z81) am_nx))))) am_nx) ∧
      (x15 = 0 →
      K9 s = 8 ∧ am_C (d - 1) m_X8_refuse [am_r s, am_i 2] K9 N10 I11 P12 z13 (fun v K83 N84 I85 P86 z87 => am_iv v fun x89 =>
        Q (am_i x89) K83 N84 I85 P86 z87) am_nx))) am_nx) ∧
    (x8 = 0 →
    K3 s = 8 ∧ am_C (d - 1) m_X8_refuse [am_r s, am_i 1] K3 N4 I5 P6 z7 (fun v K90 N91 I92 P93 z94 => am_iv v fun x96 =>
      Q (am_i x96) K90 N91 I92 P93 z94) am_nx))) am_nx) :
  am_C d m_X8_route [am_r s, am_i a1, am_i a2] K N I P z Q am_nx := by
  refine am_C_of ok_X8_route (fun v hv => am_v1all _ rfl v hv) (Nat.le_of_ble_eq_true rfl) ?_
  show am_E d m_X8_route 0 0 0 [some (am_r s), some (am_i a1), some (am_i a2), none, none, none, none] [] K N I P z Q am_nx
  refine e_aload_n dX8_route_0 rfl trivial ?_
  refine e_iconst dX8_route_1 ?_
  obtain ⟨hK1, h⟩ := h
  refine e_puti dX8_route_2 fk_X8_25 rfl (Or.inl rfl) hK1 ?_
  replace h := h _ rfl
  generalize am_u2 I s 7 0 = I2 at h ⊢
  refine e_iload_n dX8_route_5 rfl ?_
  refine e_callS (Mc := m_X8_isCode) (vs := [am_i a1]) (st := []) dX8_route_6 ok_X8_isCode rfl mk_X8_67 sm_X8_isCode rfl rfl (by omega) (Nat.le_of_ble_eq_true rfl) (Nat.le_of_ble_eq_true rfl) (Nat.le_of_ble_eq_true rfl) am_xh_nx (am_C_mono h (fun v K3 N4 I5 P6 z7 h => ?_) (fun _ _ _ _ _ _ h => h))
  replace h := am_iv_or h
  obtain ⟨x8, rfl, h⟩ := h
  show am_E d m_X8_route 9 _ _ _ [am_i x8] K3 N4 I5 P6 z7 Q am_nx
  refine e_if_ne (tgt := 18) dX8_route_9 (by decide) (fun hc => ?_) (fun hc => ?_)
  · replace h := h.1 hc
    refine e_aload_n dX8_route_18 rfl trivial ?_
    refine e_iload_n dX8_route_19 rfl ?_
    obtain ⟨hK14, h⟩ := h
    refine e_callV (Mc := m_X8_isLane) (vs := [am_i a2]) (st := []) dX8_route_20 ok_X8_isLane rfl ⟨by decide, rfl⟩ mk_X8_61 im_X8_isLane sl_X8_isLane rfl rfl hK14 (by omega) (Nat.le_of_ble_eq_true rfl) (Nat.le_of_ble_eq_true rfl) (Nat.le_of_ble_eq_true rfl) am_xh_nx (am_C_mono h (fun v K9 N10 I11 P12 z13 h => ?_) (fun _ _ _ _ _ _ h => h))
    replace h := am_iv_or h
    obtain ⟨x15, rfl, h⟩ := h
    show am_E d m_X8_route 23 _ _ _ [am_i x15] K9 N10 I11 P12 z13 Q am_nx
    refine e_if_ne (tgt := 32) dX8_route_23 (by decide) (fun hc => ?_) (fun hc => ?_)
    · replace h := h.1 hc
      refine e_aload_n dX8_route_32 rfl trivial ?_
      refine e_iload_n dX8_route_33 rfl ?_
      obtain ⟨hK21, h⟩ := h
      refine e_callV (Mc := m_X8_hasRoute) (vs := [am_i a1]) (st := []) dX8_route_34 ok_X8_hasRoute rfl ⟨by decide, rfl⟩ mk_X8_70 im_X8_hasRoute sl_X8_hasRoute rfl rfl hK21 (by omega) (Nat.le_of_ble_eq_true rfl) (Nat.le_of_ble_eq_true rfl) (Nat.le_of_ble_eq_true rfl) am_xh_nx (am_C_mono h (fun v K16 N17 I18 P19 z20 h => ?_) (fun _ _ _ _ _ _ h => h))
      replace h := am_iv_or h
      obtain ⟨x22, rfl, h⟩ := h
      show am_E d m_X8_route 37 _ _ _ [am_i x22] K16 N17 I18 P19 z20 Q am_nx
      refine e_istore_n dX8_route_37 ?_
      refine e_iload_n dX8_route_38 rfl ?_
      refine e_if_ne (tgt := 60) dX8_route_39 (by decide) (fun hc => ?_) (fun hc => ?_)
      · replace h := h.1 hc
        refine e_aload_n dX8_route_60 rfl trivial ?_
        obtain ⟨hK28, h⟩ := h
        refine e_callV (Mc := m_X8_save) (vs := []) (st := []) dX8_route_61 ok_X8_save rfl ⟨by decide, rfl⟩ mk_X8_58 im_X8_save sl_X8_save rfl rfl hK28 (by omega) (Nat.le_of_ble_eq_true rfl) (Nat.le_of_ble_eq_true rfl) (Nat.le_of_ble_eq_true rfl) am_xh_nx (am_C_mono h (fun v K23 N24 I25 P26 z27 h => ?_) (fun _ _ _ _ _ _ h => h))
        show am_E d m_X8_route 64 _ _ _ [] K23 N24 I25 P26 z27 Q am_nx
        refine e_aload_n dX8_route_64 rfl trivial ?_
        refine e_iload_n dX8_route_65 rfl ?_
        obtain ⟨hK34, h⟩ := h
        refine e_callV (Mc := m_X8_placeOf) (vs := [am_i a1]) (st := []) dX8_route_66 ok_X8_placeOf rfl ⟨by decide, rfl⟩ mk_X8_64 im_X8_placeOf sl_X8_placeOf rfl rfl hK34 (by omega) (Nat.le_of_ble_eq_true rfl) (Nat.le_of_ble_eq_true rfl) (Nat.le_of_ble_eq_true rfl) am_xh_nx (am_C_mono h (fun v K29 N30 I31 P32 z33 h => ?_) (fun _ _ _ _ _ _ h => h))
        replace h := am_iv_or h
        obtain ⟨x35, rfl, h⟩ := h
        show am_E d m_X8_route 69 _ _ _ [am_i x35] K29 N30 I31 P32 z33 Q am_nx
        refine e_istore dX8_route_69 ?_
        refine e_iload_n dX8_route_71 rfl ?_
        refine e_if_eq (tgt := 88) dX8_route_72 (by decide) (fun hc => ?_) (fun hc => ?_)
        · replace h := h.1 hc
          refine e_iconst dX8_route_88 ?_
          refine e_istore dX8_route_89 ?_
          refine e_iload_n dX8_route_91 rfl ?_
          refine e_if_ne (tgt := 172) dX8_route_92 (by decide) (fun hc => ?_) (fun hc => ?_)
          · replace h := h.1 hc
            refine e_aload_n dX8_route_172 rfl trivial ?_
            obtain ⟨hK36, h⟩ := h
            obtain ⟨b37, hb37, h⟩ := h
            refine e_getr1 dX8_route_173 fk_X8_7 rfl hK36 hb37 ?_
            refine e_bipush dX8_route_176 ?_
            refine e_iload dX8_route_178 rfl ?_
            refine e_iadd dX8_route_180 ?_
            refine e_iload_n dX8_route_181 rfl ?_
            obtain ⟨hK38, h⟩ := h
            obtain ⟨⟨h0, h1⟩, h⟩ := h
            refine e_iast dX8_route_182 hK38 h0 h1 ?_
            replace h := h _ rfl
            generalize am_u2 I31 b37 (Int.toNat (am_wr (46 + x35))) a1 = I39 at h ⊢
            refine e_aload_n dX8_route_183 rfl trivial ?_
            refine e_getr1 dX8_route_184 fk_X8_7 rfl hK36 hb37 ?_
            refine e_bipush dX8_route_187 ?_
            refine e_iload dX8_route_189 rfl ?_
            refine e_iadd dX8_route_191 ?_
            refine e_iload_n dX8_route_192 rfl ?_
            obtain ⟨⟨h0, h1⟩, h⟩ := h
            refine e_iast dX8_route_193 hK38 h0 h1 ?_
            replace h := h _ rfl
            generalize am_u2 I39 b37 (Int.toNat (am_wr (76 + x35))) a2 = I40 at h ⊢
            refine e_iload dX8_route_194 rfl ?_
            exact e_ret_i dX8_route_196 rfl (Nat.le_of_ble_eq_true rfl) (Nat.le_of_ble_eq_true rfl) h
          · replace h := h.2 hc
            refine e_aload_n dX8_route_95 rfl trivial ?_
            obtain ⟨hK41, h⟩ := h
            obtain ⟨b42, hb42, h⟩ := h
            refine e_getr1 dX8_route_96 fk_X8_7 rfl hK41 hb42 ?_
            refine e_bipush dX8_route_99 ?_
            obtain ⟨hK43, h⟩ := h
            obtain ⟨⟨h0, h1⟩, h⟩ := h
            refine e_iald dX8_route_101 hK43 h0 h1 ?_
            show am_E _ _ _ _ _ _ (am_i (I31 b42 8) :: _) _ _ _ _ _ _ _
            refine e_istore dX8_route_102 ?_
            exact e_forget (am_sub_k (am_sub_k (am_sub_k (am_sub_d (am_sub_k (am_sub_k (am_sub_k am_sub_nil))))))) h
        · replace h := h.2 hc
          refine e_aload_n dX8_route_75 rfl trivial ?_
          obtain ⟨hK44, h⟩ := h
          obtain ⟨b45, hb45, h⟩ := h
          refine e_getr1 dX8_route_76 fk_X8_7 rfl hK44 hb45 ?_
          refine e_bipush dX8_route_79 ?_
          refine e_iload dX8_route_81 rfl ?_
          refine e_iadd dX8_route_83 ?_
          obtain ⟨hK46, h⟩ := h
          obtain ⟨⟨h0, h1⟩, h⟩ := h
          refine e_iald dX8_route_84 hK46 h0 h1 ?_
          refine e_goto (tgt := 89) dX8_route_85 (by decide) ?_
          refine e_istore dX8_route_89 ?_
          refine e_iload_n dX8_route_91 rfl ?_
          refine e_if_ne (tgt := 172) dX8_route_92 (by decide) (fun hc => ?_) (fun hc => ?_)
          · replace h := h.1 hc
            refine e_aload_n dX8_route_172 rfl trivial ?_
            refine e_getr1 dX8_route_173 fk_X8_7 rfl hK44 hb45 ?_
            refine e_bipush dX8_route_176 ?_
            refine e_iload dX8_route_178 rfl ?_
            refine e_iadd dX8_route_180 ?_
            refine e_iload_n dX8_route_181 rfl ?_
            obtain ⟨⟨h0, h1⟩, h⟩ := h
            refine e_iast dX8_route_182 hK46 h0 h1 ?_
            replace h := h _ rfl
            generalize am_u2 I31 b45 (Int.toNat (am_wr (46 + x35))) a1 = I47 at h ⊢
            refine e_aload_n dX8_route_183 rfl trivial ?_
            refine e_getr1 dX8_route_184 fk_X8_7 rfl hK44 hb45 ?_
            refine e_bipush dX8_route_187 ?_
            refine e_iload dX8_route_189 rfl ?_
            refine e_iadd dX8_route_191 ?_
            refine e_iload_n dX8_route_192 rfl ?_
            obtain ⟨⟨h0, h1⟩, h⟩ := h
            refine e_iast dX8_route_193 hK46 h0 h1 ?_
            replace h := h _ rfl
            generalize am_u2 I47 b45 (Int.toNat (am_wr (76 + x35))) a2 = I48 at h ⊢
            refine e_iload dX8_route_194 rfl ?_
            exact e_ret_i dX8_route_196 rfl (Nat.le_of_ble_eq_true rfl) (Nat.le_of_ble_eq_true rfl) h
          · replace h := h.2 hc
            refine e_aload_n dX8_route_95 rfl trivial ?_
            refine e_getr1 dX8_route_96 fk_X8_7 rfl hK44 hb45 ?_
            refine e_bipush dX8_route_99 ?_
            obtain ⟨⟨h0, h1⟩, h⟩ := h
            refine e_iald dX8_route_101 hK46 h0 h1 ?_
            show am_E _ _ _ _ _ _ (am_i (I31 b45 8) :: _) _ _ _ _ _ _ _
            refine e_istore dX8_route_102 ?_
            exact e_forget (am_sub_k (am_sub_k (am_sub_k (am_sub_d (am_sub_k (am_sub_k (am_sub_k am_sub_nil))))))) h
      · replace h := h.2 hc
        refine e_aload_n dX8_route_42 rfl trivial ?_
        obtain ⟨hK49, h⟩ := h
        obtain ⟨b50, hb50, h⟩ := h
        refine e_getr1 dX8_route_43 fk_X8_7 rfl hK49 hb50 ?_
        refine e_bipush dX8_route_46 ?_
        obtain ⟨hK51, h⟩ := h
        obtain ⟨⟨h0, h1⟩, h⟩ := h
        refine e_iald dX8_route_48 hK51 h0 h1 ?_
        show am_E _ _ _ _ _ _ (am_i (I18 b50 8) :: _) _ _ _ _ _ _ _
        refine e_bipush dX8_route_49 ?_
        refine e_icmp_ne (tgt := 60) dX8_route_51 (by decide) (fun hc => ?_) (fun hc => ?_)
        · replace h := h.1 hc
          refine e_aload_n dX8_route_60 rfl trivial ?_
          refine e_callV (Mc := m_X8_save) (vs := []) (st := []) dX8_route_61 ok_X8_save rfl ⟨by decide, rfl⟩ mk_X8_58 im_X8_save sl_X8_save rfl rfl hK49 (by omega) (Nat.le_of_ble_eq_true rfl) (Nat.le_of_ble_eq_true rfl) (Nat.le_of_ble_eq_true rfl) am_xh_nx (am_C_mono h (fun v K52 N53 I54 P55 z56 h => ?_) (fun _ _ _ _ _ _ h => h))
          show am_E d m_X8_route 64 _ _ _ [] K52 N53 I54 P55 z56 Q am_nx
          refine e_aload_n dX8_route_64 rfl trivial ?_
          refine e_iload_n dX8_route_65 rfl ?_
          obtain ⟨hK62, h⟩ := h
          refine e_callV (Mc := m_X8_placeOf) (vs := [am_i a1]) (st := []) dX8_route_66 ok_X8_placeOf rfl ⟨by decide, rfl⟩ mk_X8_64 im_X8_placeOf sl_X8_placeOf rfl rfl hK62 (by omega) (Nat.le_of_ble_eq_true rfl) (Nat.le_of_ble_eq_true rfl) (Nat.le_of_ble_eq_true rfl) am_xh_nx (am_C_mono h (fun v K57 N58 I59 P60 z61 h => ?_) (fun _ _ _ _ _ _ h => h))
          replace h := am_iv_or h
          obtain ⟨x63, rfl, h⟩ := h
          show am_E d m_X8_route 69 _ _ _ [am_i x63] K57 N58 I59 P60 z61 Q am_nx
          refine e_istore dX8_route_69 ?_
          refine e_iload_n dX8_route_71 rfl ?_
          refine e_if_eq (tgt := 88) dX8_route_72 (by decide) (fun hc => ?_) (fun hc => ?_)
          · replace h := h.1 hc
            refine e_iconst dX8_route_88 ?_
            refine e_istore dX8_route_89 ?_
            refine e_iload_n dX8_route_91 rfl ?_
            refine e_if_ne (tgt := 172) dX8_route_92 (by decide) (fun hc => ?_) (fun hc => ?_)
            · replace h := h.1 hc
              refine e_aload_n dX8_route_172 rfl trivial ?_
              obtain ⟨hK64, h⟩ := h
              obtain ⟨b65, hb65, h⟩ := h
              refine e_getr1 dX8_route_173 fk_X8_7 rfl hK64 hb65 ?_
              refine e_bipush dX8_route_176 ?_
              refine e_iload dX8_route_178 rfl ?_
              refine e_iadd dX8_route_180 ?_
              refine e_iload_n dX8_route_181 rfl ?_
              obtain ⟨hK66, h⟩ := h
              obtain ⟨⟨h0, h1⟩, h⟩ := h
              refine e_iast dX8_route_182 hK66 h0 h1 ?_
              replace h := h _ rfl
              generalize am_u2 I59 b65 (Int.toNat (am_wr (46 + x63))) a1 = I67 at h ⊢
              refine e_aload_n dX8_route_183 rfl trivial ?_
              refine e_getr1 dX8_route_184 fk_X8_7 rfl hK64 hb65 ?_
              refine e_bipush dX8_route_187 ?_
              refine e_iload dX8_route_189 rfl ?_
              refine e_iadd dX8_route_191 ?_
              refine e_iload_n dX8_route_192 rfl ?_
              obtain ⟨⟨h0, h1⟩, h⟩ := h
              refine e_iast dX8_route_193 hK66 h0 h1 ?_
              replace h := h _ rfl
              generalize am_u2 I67 b65 (Int.toNat (am_wr (76 + x63))) a2 = I68 at h ⊢
              refine e_iload dX8_route_194 rfl ?_
              exact e_ret_i dX8_route_196 rfl (Nat.le_of_ble_eq_true rfl) (Nat.le_of_ble_eq_true rfl) h
            · replace h := h.2 hc
              refine e_aload_n dX8_route_95 rfl trivial ?_
              obtain ⟨hK69, h⟩ := h
              obtain ⟨b70, hb70, h⟩ := h
              refine e_getr1 dX8_route_96 fk_X8_7 rfl hK69 hb70 ?_
              refine e_bipush dX8_route_99 ?_
              obtain ⟨hK71, h⟩ := h
              obtain ⟨⟨h0, h1⟩, h⟩ := h
              refine e_iald dX8_route_101 hK71 h0 h1 ?_
              show am_E _ _ _ _ _ _ (am_i (I59 b70 8) :: _) _ _ _ _ _ _ _
              refine e_istore dX8_route_102 ?_
              exact e_forget (am_sub_k (am_sub_k (am_sub_k (am_sub_d (am_sub_k (am_sub_k (am_sub_k am_sub_nil))))))) h
          · replace h := h.2 hc
            refine e_aload_n dX8_route_75 rfl trivial ?_
            obtain ⟨hK72, h⟩ := h
            obtain ⟨b73, hb73, h⟩ := h
            refine e_getr1 dX8_route_76 fk_X8_7 rfl hK72 hb73 ?_
            refine e_bipush dX8_route_79 ?_
            refine e_iload dX8_route_81 rfl ?_
            refine e_iadd dX8_route_83 ?_
            obtain ⟨hK74, h⟩ := h
            obtain ⟨⟨h0, h1⟩, h⟩ := h
            refine e_iald dX8_route_84 hK74 h0 h1 ?_
            refine e_goto (tgt := 89) dX8_route_85 (by decide) ?_
            refine e_istore dX8_route_89 ?_
            refine e_iload_n dX8_route_91 rfl ?_
            refine e_if_ne (tgt := 172) dX8_route_92 (by decide) (fun hc => ?_) (fun hc => ?_)
            · replace h := h.1 hc
              refine e_aload_n dX8_route_172 rfl trivial ?_
              refine e_getr1 dX8_route_173 fk_X8_7 rfl hK72 hb73 ?_
              refine e_bipush dX8_route_176 ?_
              refine e_iload dX8_route_178 rfl ?_
              refine e_iadd dX8_route_180 ?_
              refine e_iload_n dX8_route_181 rfl ?_
              obtain ⟨⟨h0, h1⟩, h⟩ := h
              refine e_iast dX8_route_182 hK74 h0 h1 ?_
              replace h := h _ rfl
              generalize am_u2 I59 b73 (Int.toNat (am_wr (46 + x63))) a1 = I75 at h ⊢
              refine e_aload_n dX8_route_183 rfl trivial ?_
              refine e_getr1 dX8_route_184 fk_X8_7 rfl hK72 hb73 ?_
              refine e_bipush dX8_route_187 ?_
              refine e_iload dX8_route_189 rfl ?_
              refine e_iadd dX8_route_191 ?_
              refine e_iload_n dX8_route_192 rfl ?_
              obtain ⟨⟨h0, h1⟩, h⟩ := h
              refine e_iast dX8_route_193 hK74 h0 h1 ?_
              replace h := h _ rfl
              generalize am_u2 I75 b73 (Int.toNat (am_wr (76 + x63))) a2 = I76 at h ⊢
              refine e_iload dX8_route_194 rfl ?_
              exact e_ret_i dX8_route_196 rfl (Nat.le_of_ble_eq_true rfl) (Nat.le_of_ble_eq_true rfl) h
            · replace h := h.2 hc
              refine e_aload_n dX8_route_95 rfl trivial ?_
              refine e_getr1 dX8_route_96 fk_X8_7 rfl hK72 hb73 ?_
              refine e_bipush dX8_route_99 ?_
              obtain ⟨⟨h0, h1⟩, h⟩ := h
              refine e_iald dX8_route_101 hK74 h0 h1 ?_
              show am_E _ _ _ _ _ _ (am_i (I59 b73 8) :: _) _ _ _ _ _ _ _
              refine e_istore dX8_route_102 ?_
              exact e_forget (am_sub_k (am_sub_k (am_sub_k (am_sub_d (am_sub_k (am_sub_k (am_sub_k am_sub_nil))))))) h
        · replace h := h.2 hc
          refine e_aload_n dX8_route_54 rfl trivial ?_
          refine e_iconst dX8_route_55 ?_
          refine e_callV (Mc := m_X8_refuse) (vs := [am_i 3]) (st := []) dX8_route_56 ok_X8_refuse rfl ⟨by decide, rfl⟩ mk_X8_44 im_X8_refuse sl_X8_refuse rfl rfl hK49 (by omega) (Nat.le_of_ble_eq_true rfl) (Nat.le_of_ble_eq_true rfl) (Nat.le_of_ble_eq_true rfl) am_xh_nx (am_C_mono h (fun v K77 N78 I79 P80 z81 h => ?_) (fun _ _ _ _ _ _ h => h))
          replace h := am_iv_or h
          obtain ⟨x82, rfl, h⟩ := h
          show am_E d m_X8_route 59 _ _ _ [am_i x82] K77 N78 I79 P80 z81 Q am_nx
          exact e_ret_i dX8_route_59 rfl (Nat.le_of_ble_eq_true rfl) (Nat.le_of_ble_eq_true rfl) h
    · replace h := h.2 hc
      refine e_aload_n dX8_route_26 rfl trivial ?_
      refine e_iconst dX8_route_27 ?_
      obtain ⟨hK88, h⟩ := h
      refine e_callV (Mc := m_X8_refuse) (vs := [am_i 2]) (st := []) dX8_route_28 ok_X8_refuse rfl ⟨by decide, rfl⟩ mk_X8_44 im_X8_refuse sl_X8_refuse rfl rfl hK88 (by omega) (Nat.le_of_ble_eq_true rfl) (Nat.le_of_ble_eq_true rfl) (Nat.le_of_ble_eq_true rfl) am_xh_nx (am_C_mono h (fun v K83 N84 I85 P86 z87 h => ?_) (fun _ _ _ _ _ _ h => h))
      replace h := am_iv_or h
      obtain ⟨x89, rfl, h⟩ := h
      show am_E d m_X8_route 31 _ _ _ [am_i x89] K83 N84 I85 P86 z87 Q am_nx
      exact e_ret_i dX8_route_31 rfl (Nat.le_of_ble_eq_true rfl) (Nat.le_of_ble_eq_true rfl) h
  · replace h := h.2 hc
    refine e_aload_n dX8_route_12 rfl trivial ?_
    refine e_iconst dX8_route_13 ?_
    obtain ⟨hK95, h⟩ := h
    refine e_callV (Mc := m_X8_refuse) (vs := [am_i 1]) (st := []) dX8_route_14 ok_X8_refuse rfl ⟨by decide, rfl⟩ mk_X8_44 im_X8_refuse sl_X8_refuse rfl rfl hK95 (by omega) (Nat.le_of_ble_eq_true rfl) (Nat.le_of_ble_eq_true rfl) (Nat.le_of_ble_eq_true rfl) am_xh_nx (am_C_mono h (fun v K90 N91 I92 P93 z94 h => ?_) (fun _ _ _ _ _ _ h => h))
    replace h := am_iv_or h
    obtain ⟨x96, rfl, h⟩ := h
    show am_E d m_X8_route 17 _ _ _ [am_i x96] K90 N91 I92 P93 z94 Q am_nx
    exact e_ret_i dX8_route_17 rfl (Nat.le_of_ble_eq_true rfl) (Nat.le_of_ble_eq_true rfl) h
set_option maxRecDepth 100000 in
set_option maxHeartbeats 4000000 in
theorem wf_X8_route_104 {d : Nat} {l0 : Nat} {l1 : Int} {l2 : Int} {l4 : Int} {l5 : Int} {l6 : Int} {K N : Nat → Nat} {I : Nat → Nat → Int} {P : Nat → Nat → Option Nat} {z : Nat} {Q : am_V → am_T} (h :
  ((l6 ≤ l4 →
    K l0 = 8 ∧ ∃ b2, P l0 0 = some b2 ∧ K b2 = 10 ∧ (0 ≤ (8 : Int) ∧ (8 : Int) < N b2) ∧ (0 ≤ (8 : Int) ∧ (8 : Int) < N b2) ∧ ∀ I4, I4 = am_u2 I b2 (Int.toNat 8) (am_wr (I b2 8 + 1)) → (0 ≤ am_wr (46 + l4) ∧ am_wr (46 + l4) < N b2) ∧ ∀ I5, I5 = am_u2 I4 b2 (Int.toNat (am_wr (46 + l4))) l1 → (0 ≤ am_wr (76 + l4) ∧ am_wr (76 + l4) < N b2) ∧ ∀ I6, I6 = am_u2 I5 b2 (Int.toNat (am_wr (76 + l4))) l2 → Q (am_i l5) K N I6 P z) ∧
    (¬ (l6 ≤ l4) →
    K l0 = 8 ∧ ∃ b8, P l0 0 = some b8 ∧ K b8 = 10 ∧ (0 ≤ am_wr ((am_wr (46 + l6)) - 1) ∧ am_wr ((am_wr (46 + l6)) - 1) < N b8) ∧ (0 ≤ am_wr (46 + l6) ∧ am_wr (46 + l6) < N b8) ∧ ∀ I10, I10 = am_u2 I b8 (Int.toNat (am_wr (46 + l6))) (I b8 (Int.toNat (am_wr ((am_wr (46 + l6)) - 1)))) → (0 ≤ am_wr ((am_wr (76 + l6)) - 1) ∧ am_wr ((am_wr (76 + l6)) - 1) < N b8) ∧ (0 ≤ am_wr (76 + l6) ∧ am_wr (76 + l6) < N b8) ∧ ∀ I11, I11 = am_u2 I10 b8 (Int.toNat (am_wr (76 + l6))) (I10 b8 (Int.toNat (am_wr ((am_wr (76 + l6)) - 1)))) → L_X8_route_104 d l0 l1 l2 l4 l5 (am_wr (l6 + (-1))) K N I11 P z Q))) :
  L_X8_route_104 d l0 l1 l2 l4 l5 l6 K N I P z Q := by
  unfold L_X8_route_104
  refine e_iload dX8_route_104 rfl ?_
  refine e_iload dX8_route_106 rfl ?_
  refine e_icmp_le (tgt := 161) dX8_route_108 (by decide) (fun hc => ?_) (fun hc => ?_)
  · replace h := h.1 hc
    refine e_aload_n dX8_route_161 rfl trivial ?_
    obtain ⟨hK1, h⟩ := h
    obtain ⟨b2, hb2, h⟩ := h
    refine e_getr1 dX8_route_162 fk_X8_7 rfl hK1 hb2 ?_
    refine e_bipush dX8_route_165 ?_
    refine e_dup2 dX8_route_167 rfl rfl ?_
    obtain ⟨hK3, h⟩ := h
    obtain ⟨⟨h0, h1⟩, h⟩ := h
    refine e_iald dX8_route_168 hK3 h0 h1 ?_
    show am_E _ _ _ _ _ _ (am_i (I b2 8) :: _) _ _ _ _ _ _ _
    refine e_iconst dX8_route_169 ?_
    refine e_iadd dX8_route_170 ?_
    obtain ⟨⟨h0, h1⟩, h⟩ := h
    refine e_iast dX8_route_171 hK3 h0 h1 ?_
    replace h := h _ rfl
    generalize am_u2 I b2 (Int.toNat 8) (am_wr (I b2 8 + 1)) = I4 at h ⊢
    refine e_aload_n dX8_route_172 rfl trivial ?_
    refine e_getr1 dX8_route_173 fk_X8_7 rfl hK1 hb2 ?_
    refine e_bipush dX8_route_176 ?_
    refine e_iload dX8_route_178 rfl ?_
    refine e_iadd dX8_route_180 ?_
    refine e_iload_n dX8_route_181 rfl ?_
    obtain ⟨⟨h0, h1⟩, h⟩ := h
    refine e_iast dX8_route_182 hK3 h0 h1 ?_
    replace h := h _ rfl
    generalize am_u2 I4 b2 (Int.toNat (am_wr (46 + l4))) l1 = I5 at h ⊢
    refine e_aload_n dX8_route_183 rfl trivial ?_
    refine e_getr1 dX8_route_184 fk_X8_7 rfl hK1 hb2 ?_
    refine e_bipush dX8_route_187 ?_
    refine e_iload dX8_route_189 rfl ?_
    refine e_iadd dX8_route_191 ?_
    refine e_iload_n dX8_route_192 rfl ?_
    obtain ⟨⟨h0, h1⟩, h⟩ := h
    refine e_iast dX8_route_193 hK3 h0 h1 ?_
    replace h := h _ rfl
    generalize am_u2 I5 b2 (Int.toNat (am_wr (76 + l4))) l2 = I6 at h ⊢
    refine e_iload dX8_route_194 rfl ?_
    exact e_ret_i dX8_route_196 rfl (Nat.le_of_ble_eq_true rfl) (Nat.le_of_ble_eq_true rfl) h
  · replace h := h.2 hc
    refine e_aload_n dX8_route_111 rfl trivial ?_
    obtain ⟨hK7, h⟩ := h
    obtain ⟨b8, hb8, h⟩ := h
    refine e_getr1 dX8_route_112 fk_X8_7 rfl hK7 hb8 ?_
    refine e_bipush dX8_route_115 ?_
    refine e_iload dX8_route_117 rfl ?_
    refine e_iadd dX8_route_119 ?_
    refine e_aload_n dX8_route_120 rfl trivial ?_
    refine e_getr1 dX8_route_121 fk_X8_7 rfl hK7 hb8 ?_
    refine e_bipush dX8_route_124 ?_
    refine e_iload dX8_route_126 rfl ?_
    refine e_iadd dX8_route_128 ?_
    refine e_iconst dX8_route_129 ?_
    refine e_isub dX8_route_130 ?_
    obtain ⟨hK9, h⟩ := h
    obtain ⟨⟨h0, h1⟩, h⟩ := h
    refine e_iald dX8_route_131 hK9 h0 h1 ?_
    obtain ⟨⟨h0, h1⟩, h⟩ := h
    refine e_iast dX8_route_132 hK9 h0 h1 ?_
    replace h := h _ rfl
    generalize am_u2 I b8 (Int.toNat (am_wr (46 + l6))) (I b8 (Int.toNat (am_wr ((am_wr (46 + l6)) - 1)))) = I10 at h ⊢
    refine e_aload_n dX8_route_133 rfl trivial ?_
    refine e_getr1 dX8_route_134 fk_X8_7 rfl hK7 hb8 ?_
    refine e_bipush dX8_route_137 ?_
    refine e_iload dX8_route_139 rfl ?_
    refine e_iadd dX8_route_141 ?_
    refine e_aload_n dX8_route_142 rfl trivial ?_
    refine e_getr1 dX8_route_143 fk_X8_7 rfl hK7 hb8 ?_
    refine e_bipush dX8_route_146 ?_
    refine e_iload dX8_route_148 rfl ?_
    refine e_iadd dX8_route_150 ?_
    refine e_iconst dX8_route_151 ?_
    refine e_isub dX8_route_152 ?_
    obtain ⟨⟨h0, h1⟩, h⟩ := h
    refine e_iald dX8_route_153 hK9 h0 h1 ?_
    obtain ⟨⟨h0, h1⟩, h⟩ := h
    refine e_iast dX8_route_154 hK9 h0 h1 ?_
    replace h := h _ rfl
    generalize am_u2 I10 b8 (Int.toNat (am_wr (76 + l6))) (I10 b8 (Int.toNat (am_wr ((am_wr (76 + l6)) - 1)))) = I11 at h ⊢
    refine e_iinc dX8_route_155 rfl ?_
    refine e_goto (tgt := 104) dX8_route_158 (by decide) ?_
    exact e_forget (am_sub_k (am_sub_k (am_sub_k (am_sub_d (am_sub_k (am_sub_k (am_sub_k am_sub_nil))))))) h
def L_X8_removeRoute_66 (d : Nat) (l0 : Nat) (l3 : Int) (l4 : Int) (K N : Nat → Nat) (I : Nat → Nat → Int) (P : Nat → Nat → Option Nat) (z : Nat) (Q : am_V → am_T) : Prop := am_E d m_X8_removeRoute 66 0 0 [some (am_r l0), none, none, some (am_i l3), some (am_i l4)] [] K N I P z Q am_nx
set_option maxRecDepth 100000 in
set_option maxHeartbeats 4000000 in
theorem wf_X8_removeRoute {d : Nat} (hd : 1 ≤ d) {s : Nat} {a1 : Int} {K N : Nat → Nat} {I : Nat → Nat → Int} {P : Nat → Nat → Option Nat} {z : Nat} {Q : am_V → am_T} (h :
  K s = 8 ∧ ∀ I2, I2 = am_u2 I s 7 0 → am_C (d - 1) m_X8_isCode [am_i a1] K N I2 P z (fun v K3 N4 I5 P6 z7 => am_iv v fun x8 =>
    ((¬ x8 = 0 →
    K3 s = 8 ∧ am_C (d - 1) m_X8_hasRoute [am_r s, am_i a1] K3 N4 I5 P6 z7 (fun v K9 N10 I11 P12 z13 => am_iv v fun x15 =>
      ((¬ x15 = 0 →
      K9 s = 8 ∧ am_C (d - 1) m_X8_save [am_r s] K9 N10 I11 P12 z13 (fun _ K16 N17 I18 P19 z20 =>
        K16 s = 8 ∧ am_C (d - 1) m_X8_placeOf [am_r s, am_i a1] K16 N17 I18 P19 z20 (fun v K22 N23 I24 P25 z26 => am_iv v fun x28 =>
        K22 s = 8 ∧ ∃ b30, P25 s 0 = some b30 ∧ K22 b30 = 10 ∧ (0 ≤ am_wr (76 + x28) ∧ am_wr (76 + x28) < N23 b30) ∧ (0 ≤ (8 : Int) ∧ (8 : Int) < N23 b30) ∧ (0 ≤ (8 : Int) ∧ (8 : Int) < N23 b30) ∧ ∀ I32, I32 = am_u2 I24 b30 (Int.toNat 8) (am_wr (I24 b30 8 - 1)) → L_X8_removeRoute_66 d s (I24 b30 (Int.toNat (am_wr (76 + x28)))) x28 K22 N23 I32 P25 z26 Q) am_nx) am_nx) ∧
      (x15 = 0 →
      K9 s = 8 ∧ am_C (d - 1) m_X8_refuse [am_r s, am_i 2] K9 N10 I11 P12 z13 (fun v K33 N34 I35 P36 z37 => am_iv v fun x39 =>
        Q (am_i x39) K33 N34 I35 P36 z37) am_nx))) am_nx) ∧
    (x8 = 0 →
    K3 s = 8 ∧ am_C (d - 1) m_X8_refuse [am_r s, am_i 1] K3 N4 I5 P6 z7 (fun v K40 N41 I42 P43 z44 => am_iv v fun x46 =>
      Q (am_i x46) K40 N41 I42 P43 z44) am_nx))) am_nx) :
  am_C d m_X8_removeRoute [am_r s, am_i a1] K N I P z Q am_nx := by
  refine am_C_of ok_X8_removeRoute (fun v hv => am_v1all _ rfl v hv) (Nat.le_of_ble_eq_true rfl) ?_
  show am_E d m_X8_removeRoute 0 0 0 [some (am_r s), some (am_i a1), none, none, none] [] K N I P z Q am_nx
  refine e_aload_n dX8_removeRoute_0 rfl trivial ?_
  refine e_iconst dX8_removeRoute_1 ?_
  obtain ⟨hK1, h⟩ := h
  refine e_puti dX8_removeRoute_2 fk_X8_25 rfl (Or.inl rfl) hK1 ?_
  replace h := h _ rfl
  generalize am_u2 I s 7 0 = I2 at h ⊢
  refine e_iload_n dX8_removeRoute_5 rfl ?_
  refine e_callS (Mc := m_X8_isCode) (vs := [am_i a1]) (st := []) dX8_removeRoute_6 ok_X8_isCode rfl mk_X8_67 sm_X8_isCode rfl rfl (by omega) (Nat.le_of_ble_eq_true rfl) (Nat.le_of_ble_eq_true rfl) (Nat.le_of_ble_eq_true rfl) am_xh_nx (am_C_mono h (fun v K3 N4 I5 P6 z7 h => ?_) (fun _ _ _ _ _ _ h => h))
  replace h := am_iv_or h
  obtain ⟨x8, rfl, h⟩ := h
  show am_E d m_X8_removeRoute 9 _ _ _ [am_i x8] K3 N4 I5 P6 z7 Q am_nx
  refine e_if_ne (tgt := 18) dX8_removeRoute_9 (by decide) (fun hc => ?_) (fun hc => ?_)
  · replace h := h.1 hc
    refine e_aload_n dX8_removeRoute_18 rfl trivial ?_
    refine e_iload_n dX8_removeRoute_19 rfl ?_
    obtain ⟨hK14, h⟩ := h
    refine e_callV (Mc := m_X8_hasRoute) (vs := [am_i a1]) (st := []) dX8_removeRoute_20 ok_X8_hasRoute rfl ⟨by decide, rfl⟩ mk_X8_70 im_X8_hasRoute sl_X8_hasRoute rfl rfl hK14 (by omega) (Nat.le_of_ble_eq_true rfl) (Nat.le_of_ble_eq_true rfl) (Nat.le_of_ble_eq_true rfl) am_xh_nx (am_C_mono h (fun v K9 N10 I11 P12 z13 h => ?_) (fun _ _ _ _ _ _ h => h))
    replace h := am_iv_or h
    obtain ⟨x15, rfl, h⟩ := h
    show am_E d m_X8_removeRoute 23 _ _ _ [am_i x15] K9 N10 I11 P12 z13 Q am_nx
    refine e_if_ne (tgt := 32) dX8_removeRoute_23 (by decide) (fun hc => ?_) (fun hc => ?_)
    · replace h := h.1 hc
      refine e_aload_n dX8_removeRoute_32 rfl trivial ?_
      obtain ⟨hK21, h⟩ := h
      refine e_callV (Mc := m_X8_save) (vs := []) (st := []) dX8_removeRoute_33 ok_X8_save rfl ⟨by decide, rfl⟩ mk_X8_58 im_X8_save sl_X8_save rfl rfl hK21 (by omega) (Nat.le_of_ble_eq_true rfl) (Nat.le_of_ble_eq_true rfl) (Nat.le_of_ble_eq_true rfl) am_xh_nx (am_C_mono h (fun v K16 N17 I18 P19 z20 h => ?_) (fun _ _ _ _ _ _ h => h))
      show am_E d m_X8_removeRoute 36 _ _ _ [] K16 N17 I18 P19 z20 Q am_nx
      refine e_aload_n dX8_removeRoute_36 rfl trivial ?_
      refine e_iload_n dX8_removeRoute_37 rfl ?_
      obtain ⟨hK27, h⟩ := h
      refine e_callV (Mc := m_X8_placeOf) (vs := [am_i a1]) (st := []) dX8_removeRoute_38 ok_X8_placeOf rfl ⟨by decide, rfl⟩ mk_X8_64 im_X8_placeOf sl_X8_placeOf rfl rfl hK27 (by omega) (Nat.le_of_ble_eq_true rfl) (Nat.le_of_ble_eq_true rfl) (Nat.le_of_ble_eq_true rfl) am_xh_nx (am_C_mono h (fun v K22 N23 I24 P25 z26 h => ?_) (fun _ _ _ _ _ _ h => h))
      replace h := am_iv_or h
      obtain ⟨x28, rfl, h⟩ := h
      show am_E d m_X8_removeRoute 41 _ _ _ [am_i x28] K22 N23 I24 P25 z26 Q am_nx
      refine e_istore_n dX8_removeRoute_41 ?_
      refine e_aload_n dX8_removeRoute_42 rfl trivial ?_
      obtain ⟨hK29, h⟩ := h
      obtain ⟨b30, hb30, h⟩ := h
      refine e_getr1 dX8_removeRoute_43 fk_X8_7 rfl hK29 hb30 ?_
      refine e_bipush dX8_removeRoute_46 ?_
      refine e_iload_n dX8_removeRoute_48 rfl ?_
      refine e_iadd dX8_removeRoute_49 ?_
      obtain ⟨hK31, h⟩ := h
      obtain ⟨⟨h0, h1⟩, h⟩ := h
      refine e_iald dX8_removeRoute_50 hK31 h0 h1 ?_
      refine e_istore_n dX8_removeRoute_51 ?_
      refine e_aload_n dX8_removeRoute_52 rfl trivial ?_
      refine e_getr1 dX8_removeRoute_53 fk_X8_7 rfl hK29 hb30 ?_
      refine e_bipush dX8_removeRoute_56 ?_
      refine e_dup2 dX8_removeRoute_58 rfl rfl ?_
      obtain ⟨⟨h0, h1⟩, h⟩ := h
      refine e_iald dX8_removeRoute_59 hK31 h0 h1 ?_
      show am_E _ _ _ _ _ _ (am_i (I24 b30 8) :: _) _ _ _ _ _ _ _
      refine e_iconst dX8_removeRoute_60 ?_
      refine e_isub dX8_removeRoute_61 ?_
      obtain ⟨⟨h0, h1⟩, h⟩ := h
      refine e_iast dX8_removeRoute_62 hK31 h0 h1 ?_
      replace h := h _ rfl
      generalize am_u2 I24 b30 (Int.toNat 8) (am_wr (I24 b30 8 - 1)) = I32 at h ⊢
      refine e_iload_n dX8_removeRoute_63 rfl ?_
      refine e_istore dX8_removeRoute_64 ?_
      exact e_forget (am_sub_k (am_sub_d (am_sub_d (am_sub_k (am_sub_k am_sub_nil))))) h
    · replace h := h.2 hc
      refine e_aload_n dX8_removeRoute_26 rfl trivial ?_
      refine e_iconst dX8_removeRoute_27 ?_
      obtain ⟨hK38, h⟩ := h
      refine e_callV (Mc := m_X8_refuse) (vs := [am_i 2]) (st := []) dX8_removeRoute_28 ok_X8_refuse rfl ⟨by decide, rfl⟩ mk_X8_44 im_X8_refuse sl_X8_refuse rfl rfl hK38 (by omega) (Nat.le_of_ble_eq_true rfl) (Nat.le_of_ble_eq_true rfl) (Nat.le_of_ble_eq_true rfl) am_xh_nx (am_C_mono h (fun v K33 N34 I35 P36 z37 h => ?_) (fun _ _ _ _ _ _ h => h))
      replace h := am_iv_or h
      obtain ⟨x39, rfl, h⟩ := h
      show am_E d m_X8_removeRoute 31 _ _ _ [am_i x39] K33 N34 I35 P36 z37 Q am_nx
      exact e_ret_i dX8_removeRoute_31 rfl (Nat.le_of_ble_eq_true rfl) (Nat.le_of_ble_eq_true rfl) h
  · replace h := h.2 hc
    refine e_aload_n dX8_removeRoute_12 rfl trivial ?_
    refine e_iconst dX8_removeRoute_13 ?_
    obtain ⟨hK45, h⟩ := h
    refine e_callV (Mc := m_X8_refuse) (vs := [am_i 1]) (st := []) dX8_removeRoute_14 ok_X8_refuse rfl ⟨by decide, rfl⟩ mk_X8_44 im_X8_refuse sl_X8_refuse rfl rfl hK45 (by omega) (Nat.le_of_ble_eq_true rfl) (Nat.le_of_ble_eq_true rfl) (Nat.le_of_ble_eq_true rfl) am_xh_nx (am_C_mono h (fun v K40 N41 I42 P43 z44 h => ?_) (fun _ _ _ _ _ _ h => h))
    replace h := am_iv_or h
    obtain ⟨x46, rfl, h⟩ := h
    show am_E d m_X8_removeRoute 17 _ _ _ [am_i x46] K40 N41 I42 P43 z44 Q am_nx
    exact e_ret_i dX8_removeRoute_17 rfl (Nat.le_of_ble_eq_true rfl) (Nat.le_of_ble_eq_true rfl) h
set_option maxRecDepth 100000 in
set_option maxHeartbeats 4000000 in
theorem wf_X8_removeRoute_66 {d : Nat} {l0 : Nat} {l3 : Int} {l4 : Int} {K N : Nat → Nat} {I : Nat → Nat → Int} {P : Nat → Nat → Option Nat} {z : Nat} {Q : am_V → am_T} (h :
  K l0 = 8 ∧ ∃ b2, P l0 0 = some b2 ∧ K b2 = 10 ∧ (0 ≤ (8 : Int) ∧ (8 : Int) < N b2) ∧ ((I b2 8 ≤ l4 →
    Q (am_i l3) K N I P z) ∧
    (¬ (I b2 8 ≤ l4) →
    (0 ≤ am_wr ((am_wr (46 + l4)) + 1) ∧ am_wr ((am_wr (46 + l4)) + 1) < N b2) ∧ (0 ≤ am_wr (46 + l4) ∧ am_wr (46 + l4) < N b2) ∧ ∀ I4, I4 = am_u2 I b2 (Int.toNat (am_wr (46 + l4))) (I b2 (Int.toNat (am_wr ((am_wr (46 + l4)) + 1)))) → (0 ≤ am_wr ((am_wr (76 + l4)) + 1) ∧ am_wr ((am_wr (76 + l4)) + 1) < N b2) ∧ (0 ≤ am_wr (76 + l4) ∧ am_wr (76 + l4) < N b2) ∧ ∀ I5, I5 = am_u2 I4 b2 (Int.toNat (am_wr (76 + l4))) (I4 b2 (Int.toNat (am_wr ((am_wr (76 + l4)) + 1)))) → L_X8_removeRoute_66 d l0 l3 (am_wr (l4 + 1)) K N I5 P z Q))) :
  L_X8_removeRoute_66 d l0 l3 l4 K N I P z Q := by
  unfold L_X8_removeRoute_66
  refine e_iload dX8_removeRoute_66 rfl ?_
  refine e_aload_n dX8_removeRoute_68 rfl trivial ?_
  obtain ⟨hK1, h⟩ := h
  obtain ⟨b2, hb2, h⟩ := h
  refine e_getr1 dX8_removeRoute_69 fk_X8_7 rfl hK1 hb2 ?_
  refine e_bipush dX8_removeRoute_72 ?_
  obtain ⟨hK3, h⟩ := h
  obtain ⟨⟨h0, h1⟩, h⟩ := h
  refine e_iald dX8_removeRoute_74 hK3 h0 h1 ?_
  show am_E _ _ _ _ _ _ (am_i (I b2 8) :: _) _ _ _ _ _ _ _
  refine e_icmp_ge (tgt := 128) dX8_removeRoute_75 (by decide) (fun hc => ?_) (fun hc => ?_)
  · replace h := h.1 hc
    refine e_iload_n dX8_removeRoute_128 rfl ?_
    exact e_ret_i dX8_removeRoute_129 rfl (Nat.le_of_ble_eq_true rfl) (Nat.le_of_ble_eq_true rfl) h
  · replace h := h.2 hc
    refine e_aload_n dX8_removeRoute_78 rfl trivial ?_
    refine e_getr1 dX8_removeRoute_79 fk_X8_7 rfl hK1 hb2 ?_
    refine e_bipush dX8_removeRoute_82 ?_
    refine e_iload dX8_removeRoute_84 rfl ?_
    refine e_iadd dX8_removeRoute_86 ?_
    refine e_aload_n dX8_removeRoute_87 rfl trivial ?_
    refine e_getr1 dX8_removeRoute_88 fk_X8_7 rfl hK1 hb2 ?_
    refine e_bipush dX8_removeRoute_91 ?_
    refine e_iload dX8_removeRoute_93 rfl ?_
    refine e_iadd dX8_removeRoute_95 ?_
    refine e_iconst dX8_removeRoute_96 ?_
    refine e_iadd dX8_removeRoute_97 ?_
    obtain ⟨⟨h0, h1⟩, h⟩ := h
    refine e_iald dX8_removeRoute_98 hK3 h0 h1 ?_
    obtain ⟨⟨h0, h1⟩, h⟩ := h
    refine e_iast dX8_removeRoute_99 hK3 h0 h1 ?_
    replace h := h _ rfl
    generalize am_u2 I b2 (Int.toNat (am_wr (46 + l4))) (I b2 (Int.toNat (am_wr ((am_wr (46 + l4)) + 1)))) = I4 at h ⊢
    refine e_aload_n dX8_removeRoute_100 rfl trivial ?_
    refine e_getr1 dX8_removeRoute_101 fk_X8_7 rfl hK1 hb2 ?_
    refine e_bipush dX8_removeRoute_104 ?_
    refine e_iload dX8_removeRoute_106 rfl ?_
    refine e_iadd dX8_removeRoute_108 ?_
    refine e_aload_n dX8_removeRoute_109 rfl trivial ?_
    refine e_getr1 dX8_removeRoute_110 fk_X8_7 rfl hK1 hb2 ?_
    refine e_bipush dX8_removeRoute_113 ?_
    refine e_iload dX8_removeRoute_115 rfl ?_
    refine e_iadd dX8_removeRoute_117 ?_
    refine e_iconst dX8_removeRoute_118 ?_
    refine e_iadd dX8_removeRoute_119 ?_
    obtain ⟨⟨h0, h1⟩, h⟩ := h
    refine e_iald dX8_removeRoute_120 hK3 h0 h1 ?_
    obtain ⟨⟨h0, h1⟩, h⟩ := h
    refine e_iast dX8_removeRoute_121 hK3 h0 h1 ?_
    replace h := h _ rfl
    generalize am_u2 I4 b2 (Int.toNat (am_wr (76 + l4))) (I4 b2 (Int.toNat (am_wr ((am_wr (76 + l4)) + 1)))) = I5 at h ⊢
    refine e_iinc dX8_removeRoute_122 rfl ?_
    refine e_goto (tgt := 66) dX8_removeRoute_125 (by decide) ?_
    exact e_forget (am_sub_k (am_sub_d (am_sub_d (am_sub_k (am_sub_k am_sub_nil))))) h
def L_X8_numberAt_2 (d : Nat) (l0 : Nat) (l1 : Int) (K N : Nat → Nat) (I : Nat → Nat → Int) (P : Nat → Nat → Option Nat) (z : Nat) (Q : am_V → am_T) : Prop := am_E d m_X8_numberAt 2 0 0 [some (am_r l0), some (am_i l1)] [] K N I P z Q am_nx
set_option maxRecDepth 100000 in
set_option maxHeartbeats 4000000 in
theorem wf_X8_numberAt {d : Nat} {s : Nat} {K N : Nat → Nat} {I : Nat → Nat → Int} {P : Nat → Nat → Option Nat} {z : Nat} {Q : am_V → am_T} (h :
  L_X8_numberAt_2 d s 0 K N I P z Q) :
  am_C d m_X8_numberAt [am_r s] K N I P z Q am_nx := by
  refine am_C_of ok_X8_numberAt (fun v hv => am_v1all _ rfl v hv) (Nat.le_of_ble_eq_true rfl) ?_
  show am_E d m_X8_numberAt 0 0 0 [some (am_r s), none] [] K N I P z Q am_nx
  refine e_iconst dX8_numberAt_0 ?_
  refine e_istore_n dX8_numberAt_1 ?_
  exact e_forget (am_sub_k (am_sub_k am_sub_nil)) h
set_option maxRecDepth 100000 in
set_option maxHeartbeats 4000000 in
theorem wf_X8_numberAt_2 {d : Nat} (hd : 1 ≤ d) {l0 : Nat} {l1 : Int} {K N : Nat → Nat} {I : Nat → Nat → Int} {P : Nat → Nat → Option Nat} {z : Nat} {Q : am_V → am_T} (h :
  K l0 = 8 ∧ ∃ b2, P l0 0 = some b2 ∧ K b2 = 10 ∧ (0 ≤ am_wr (106 + I l0 8) ∧ am_wr (106 + I l0 8) < N b2) ∧ am_C (d - 1) m_X8_in [am_i (I b2 (Int.toNat (am_wr (106 + I l0 8)))), am_i 48, am_i 57] K N I P z (fun v K4 N5 I6 P7 z8 => am_iv v fun x9 =>
    ((x9 = 0 →
    Q (am_i l1) K4 N5 I6 P7 z8) ∧
    (¬ (x9 = 0) →
    K4 l0 = 8 ∧ ∃ b11, P7 l0 0 = some b11 ∧ K4 b11 = 10 ∧ (0 ≤ am_wr (106 + I6 l0 8) ∧ am_wr (106 + I6 l0 8) < N5 b11) ∧ ∀ I13, I13 = am_u2 I6 l0 8 (am_wr (I6 l0 8 + 1)) → L_X8_numberAt_2 d l0 (am_wr ((am_wr ((am_wr (10 * l1)) + (I6 b11 (Int.toNat (am_wr (106 + I6 l0 8)))))) - 48)) K4 N5 I13 P7 z8 Q))) am_nx) :
  L_X8_numberAt_2 d l0 l1 K N I P z Q := by
  unfold L_X8_numberAt_2
  refine e_aload_n dX8_numberAt_2 rfl trivial ?_
  obtain ⟨hK1, h⟩ := h
  obtain ⟨b2, hb2, h⟩ := h
  refine e_getr1 dX8_numberAt_3 fk_X8_7 rfl hK1 hb2 ?_
  refine e_bipush dX8_numberAt_6 ?_
  refine e_aload_n dX8_numberAt_8 rfl trivial ?_
  refine e_geti dX8_numberAt_9 fk_X8_73 rfl hK1 ?_
  refine e_iadd dX8_numberAt_12 ?_
  obtain ⟨hK3, h⟩ := h
  obtain ⟨⟨h0, h1⟩, h⟩ := h
  refine e_iald dX8_numberAt_13 hK3 h0 h1 ?_
  refine e_bipush dX8_numberAt_14 ?_
  refine e_bipush dX8_numberAt_16 ?_
  refine e_callS (Mc := m_X8_in) (vs := [am_i (I b2 (Int.toNat (am_wr (106 + I l0 8)))), am_i 48, am_i 57]) (st := []) dX8_numberAt_18 ok_X8_in rfl mk_X8_40 sm_X8_in rfl rfl (by omega) (Nat.le_of_ble_eq_true rfl) (Nat.le_of_ble_eq_true rfl) (Nat.le_of_ble_eq_true rfl) am_xh_nx (am_C_mono h (fun v K4 N5 I6 P7 z8 h => ?_) (fun _ _ _ _ _ _ h => h))
  replace h := am_iv_or h
  obtain ⟨x9, rfl, h⟩ := h
  show am_E d m_X8_numberAt 21 _ _ _ [am_i x9] K4 N5 I6 P7 z8 Q am_nx
  refine e_if_eq (tgt := 58) dX8_numberAt_21 (by decide) (fun hc => ?_) (fun hc => ?_)
  · replace h := h.1 hc
    refine e_iload_n dX8_numberAt_58 rfl ?_
    exact e_ret_i dX8_numberAt_59 rfl (Nat.le_of_ble_eq_true rfl) (Nat.le_of_ble_eq_true rfl) h
  · replace h := h.2 hc
    refine e_bipush dX8_numberAt_24 ?_
    refine e_iload_n dX8_numberAt_26 rfl ?_
    refine e_imul dX8_numberAt_27 ?_
    refine e_aload_n dX8_numberAt_28 rfl trivial ?_
    obtain ⟨hK10, h⟩ := h
    obtain ⟨b11, hb11, h⟩ := h
    refine e_getr1 dX8_numberAt_29 fk_X8_7 rfl hK10 hb11 ?_
    refine e_bipush dX8_numberAt_32 ?_
    refine e_aload_n dX8_numberAt_34 rfl trivial ?_
    refine e_geti dX8_numberAt_35 fk_X8_73 rfl hK10 ?_
    refine e_iadd dX8_numberAt_38 ?_
    obtain ⟨hK12, h⟩ := h
    obtain ⟨⟨h0, h1⟩, h⟩ := h
    refine e_iald dX8_numberAt_39 hK12 h0 h1 ?_
    refine e_iadd dX8_numberAt_40 ?_
    refine e_bipush dX8_numberAt_41 ?_
    refine e_isub dX8_numberAt_43 ?_
    refine e_istore_n dX8_numberAt_44 ?_
    refine e_aload_n dX8_numberAt_45 rfl trivial ?_
    refine e_dup dX8_numberAt_46 rfl ?_
    refine e_geti dX8_numberAt_47 fk_X8_73 rfl hK10 ?_
    refine e_iconst dX8_numberAt_50 ?_
    refine e_iadd dX8_numberAt_51 ?_
    refine e_puti dX8_numberAt_52 fk_X8_73 rfl (Or.inl rfl) hK10 ?_
    replace h := h _ rfl
    generalize am_u2 I6 l0 8 (am_wr (I6 l0 8 + 1)) = I13 at h ⊢
    refine e_goto (tgt := 2) dX8_numberAt_55 (by decide) ?_
    exact e_forget (am_sub_k (am_sub_k am_sub_nil)) h
set_option maxRecDepth 100000 in
set_option maxHeartbeats 4000000 in
theorem wf_X8_holds {d : Nat} (hd : 1 ≤ d) {s : Nat} {a1 : Int} {a2 : Int} {K N : Nat → Nat} {I : Nat → Nat → Int} {P : Nat → Nat → Option Nat} {z : Nat} {Q : am_V → am_T} (h :
  K s = 8 ∧ ∃ b2, P s 0 = some b2 ∧ K b2 = 10 ∧ (0 ≤ am_wr (106 + I s 8) ∧ am_wr (106 + I s 8) < N b2) ∧ ∀ I4, I4 = am_u2 I s 8 (am_wr (I s 8 + 1)) → am_C (d - 1) m_X8_numberAt [am_r s] K N I4 P z (fun v K5 N6 I7 P8 z9 => am_iv v fun x10 =>
    K5 s = 8 ∧ ∀ I12, I12 = am_u2 I7 s 8 (am_wr (I7 s 8 + 1)) → ((I b2 (Int.toNat (am_wr (106 + I s 8))) = 109 →
    am_C (d - 1) m_X8_numberAt [am_r s] K5 N6 I12 P8 z9 (fun v K13 N14 I15 P16 z17 => am_iv v fun x18 =>
      K13 s = 8 ∧ ∀ I20, I20 = am_u2 I15 s 8 (am_wr (I15 s 8 + 1)) → ¬ x10 = 0 ∧ ((¬ am_wr (a1 - Int.tdiv a1 x10 * x10) = x18 →
      Q (am_i 0) K13 N14 I20 P16 z17) ∧
      (am_wr (a1 - Int.tdiv a1 x10 * x10) = x18 →
      Q (am_i 1) K13 N14 I20 P16 z17))) am_nx) ∧
    (¬ (I b2 (Int.toNat (am_wr (106 + I s 8))) = 109) →
    ((¬ I b2 (Int.toNat (am_wr (106 + I s 8))) = 99 →
      ((x10 ≤ a2 →
        Q (am_i 0) K5 N6 I12 P8 z9) ∧
        (¬ (x10 ≤ a2) →
        Q (am_i 1) K5 N6 I12 P8 z9))) ∧
      (I b2 (Int.toNat (am_wr (106 + I s 8))) = 99 →
      ((x10 ≤ a1 →
        Q (am_i 0) K5 N6 I12 P8 z9) ∧
        (¬ (x10 ≤ a1) →
        Q (am_i 1) K5 N6 I12 P8 z9))))))) am_nx) :
  am_C d m_X8_holds [am_r s, am_i a1, am_i a2] K N I P z Q am_nx := by
  refine am_C_of ok_X8_holds (fun v hv => am_v1all _ rfl v hv) (Nat.le_of_ble_eq_true rfl) ?_
  show am_E d m_X8_holds 0 0 0 [some (am_r s), some (am_i a1), some (am_i a2), none, none, none] [] K N I P z Q am_nx
  refine e_aload_n dX8_holds_0 rfl trivial ?_
  obtain ⟨hK1, h⟩ := h
  obtain ⟨b2, hb2, h⟩ := h
  refine e_getr1 dX8_holds_1 fk_X8_7 rfl hK1 hb2 ?_
  refine e_bipush dX8_holds_4 ?_
  refine e_aload_n dX8_holds_6 rfl trivial ?_
  refine e_geti dX8_holds_7 fk_X8_73 rfl hK1 ?_
  refine e_iadd dX8_holds_10 ?_
  obtain ⟨hK3, h⟩ := h
  obtain ⟨⟨h0, h1⟩, h⟩ := h
  refine e_iald dX8_holds_11 hK3 h0 h1 ?_
  refine e_istore_n dX8_holds_12 ?_
  refine e_aload_n dX8_holds_13 rfl trivial ?_
  refine e_dup dX8_holds_14 rfl ?_
  refine e_geti dX8_holds_15 fk_X8_73 rfl hK1 ?_
  refine e_iconst dX8_holds_18 ?_
  refine e_iadd dX8_holds_19 ?_
  refine e_puti dX8_holds_20 fk_X8_73 rfl (Or.inl rfl) hK1 ?_
  replace h := h _ rfl
  generalize am_u2 I s 8 (am_wr (I s 8 + 1)) = I4 at h ⊢
  refine e_aload_n dX8_holds_23 rfl trivial ?_
  refine e_callV (Mc := m_X8_numberAt) (vs := []) (st := []) dX8_holds_24 ok_X8_numberAt rfl ⟨by decide, rfl⟩ mk_X8_76 im_X8_numberAt sl_X8_numberAt rfl rfl hK1 (by omega) (Nat.le_of_ble_eq_true rfl) (Nat.le_of_ble_eq_true rfl) (Nat.le_of_ble_eq_true rfl) am_xh_nx (am_C_mono h (fun v K5 N6 I7 P8 z9 h => ?_) (fun _ _ _ _ _ _ h => h))
  replace h := am_iv_or h
  obtain ⟨x10, rfl, h⟩ := h
  show am_E d m_X8_holds 27 _ _ _ [am_i x10] K5 N6 I7 P8 z9 Q am_nx
  refine e_istore dX8_holds_27 ?_
  refine e_aload_n dX8_holds_29 rfl trivial ?_
  refine e_dup dX8_holds_30 rfl ?_
  obtain ⟨hK11, h⟩ := h
  refine e_geti dX8_holds_31 fk_X8_73 rfl hK11 ?_
  refine e_iconst dX8_holds_34 ?_
  refine e_iadd dX8_holds_35 ?_
  refine e_puti dX8_holds_36 fk_X8_73 rfl (Or.inl rfl) hK11 ?_
  replace h := h _ rfl
  generalize am_u2 I7 s 8 (am_wr (I7 s 8 + 1)) = I12 at h ⊢
  refine e_iload_n dX8_holds_39 rfl ?_
  refine e_bipush dX8_holds_40 ?_
  refine e_icmp_eq (tgt := 67) dX8_holds_42 (by decide) (fun hc => ?_) (fun hc => ?_)
  · replace h := h.1 hc
    refine e_aload_n dX8_holds_67 rfl trivial ?_
    refine e_callV (Mc := m_X8_numberAt) (vs := []) (st := []) dX8_holds_68 ok_X8_numberAt rfl ⟨by decide, rfl⟩ mk_X8_76 im_X8_numberAt sl_X8_numberAt rfl rfl hK11 (by omega) (Nat.le_of_ble_eq_true rfl) (Nat.le_of_ble_eq_true rfl) (Nat.le_of_ble_eq_true rfl) am_xh_nx (am_C_mono h (fun v K13 N14 I15 P16 z17 h => ?_) (fun _ _ _ _ _ _ h => h))
    replace h := am_iv_or h
    obtain ⟨x18, rfl, h⟩ := h
    show am_E d m_X8_holds 71 _ _ _ [am_i x18] K13 N14 I15 P16 z17 Q am_nx
    refine e_istore dX8_holds_71 ?_
    refine e_aload_n dX8_holds_73 rfl trivial ?_
    refine e_dup dX8_holds_74 rfl ?_
    obtain ⟨hK19, h⟩ := h
    refine e_geti dX8_holds_75 fk_X8_73 rfl hK19 ?_
    refine e_iconst dX8_holds_78 ?_
    refine e_iadd dX8_holds_79 ?_
    refine e_puti dX8_holds_80 fk_X8_73 rfl (Or.inl rfl) hK19 ?_
    replace h := h _ rfl
    generalize am_u2 I15 s 8 (am_wr (I15 s 8 + 1)) = I20 at h ⊢
    refine e_iload_n dX8_holds_83 rfl ?_
    refine e_iload dX8_holds_84 rfl ?_
    obtain ⟨hnz, h⟩ := h
    refine e_irem dX8_holds_86 hnz ?_
    refine e_iload dX8_holds_87 rfl ?_
    refine e_icmp_ne (tgt := 96) dX8_holds_89 (by decide) (fun hc => ?_) (fun hc => ?_)
    · replace h := h.1 hc
      refine e_iconst dX8_holds_96 ?_
      exact e_ret_z dX8_holds_97 rfl (by decide) (Nat.le_of_ble_eq_true rfl) (Nat.le_of_ble_eq_true rfl) h
    · replace h := h.2 hc
      refine e_iconst dX8_holds_92 ?_
      refine e_goto (tgt := 97) dX8_holds_93 (by decide) ?_
      exact e_ret_z dX8_holds_97 rfl (by decide) (Nat.le_of_ble_eq_true rfl) (Nat.le_of_ble_eq_true rfl) h
  · replace h := h.2 hc
    refine e_iload_n dX8_holds_45 rfl ?_
    refine e_bipush dX8_holds_46 ?_
    refine e_icmp_ne (tgt := 55) dX8_holds_48 (by decide) (fun hc => ?_) (fun hc => ?_)
    · replace h := h.1 hc
      refine e_iload_n dX8_holds_55 rfl ?_
      refine e_iload dX8_holds_56 rfl ?_
      refine e_icmp_ge (tgt := 65) dX8_holds_58 (by decide) (fun hc => ?_) (fun hc => ?_)
      · replace h := h.1 hc
        refine e_iconst dX8_holds_65 ?_
        exact e_ret_z dX8_holds_66 rfl (by decide) (Nat.le_of_ble_eq_true rfl) (Nat.le_of_ble_eq_true rfl) h
      · replace h := h.2 hc
        refine e_iconst dX8_holds_61 ?_
        refine e_goto (tgt := 66) dX8_holds_62 (by decide) ?_
        exact e_ret_z dX8_holds_66 rfl (by decide) (Nat.le_of_ble_eq_true rfl) (Nat.le_of_ble_eq_true rfl) h
    · replace h := h.2 hc
      refine e_iload_n dX8_holds_51 rfl ?_
      refine e_goto (tgt := 56) dX8_holds_52 (by decide) ?_
      refine e_iload dX8_holds_56 rfl ?_
      refine e_icmp_ge (tgt := 65) dX8_holds_58 (by decide) (fun hc => ?_) (fun hc => ?_)
      · replace h := h.1 hc
        refine e_iconst dX8_holds_65 ?_
        exact e_ret_z dX8_holds_66 rfl (by decide) (Nat.le_of_ble_eq_true rfl) (Nat.le_of_ble_eq_true rfl) h
      · replace h := h.2 hc
        refine e_iconst dX8_holds_61 ?_
        refine e_goto (tgt := 66) dX8_holds_62 (by decide) ?_
        exact e_ret_z dX8_holds_66 rfl (by decide) (Nat.le_of_ble_eq_true rfl) (Nat.le_of_ble_eq_true rfl) h
def L_X8_skip_2 (d : Nat) (l0 : Nat) (l1 : Int) (K N : Nat → Nat) (I : Nat → Nat → Int) (P : Nat → Nat → Option Nat) (z : Nat) (Q : am_V → am_T) : Prop := am_E d m_X8_skip 2 0 0 [some (am_r l0), some (am_i l1), none, none] [] K N I P z Q am_nx
set_option maxRecDepth 100000 in
set_option maxHeartbeats 4000000 in
theorem wf_X8_skip {d : Nat} {s : Nat} {K N : Nat → Nat} {I : Nat → Nat → Int} {P : Nat → Nat → Option Nat} {z : Nat} {Q : am_V → am_T} (h :
  L_X8_skip_2 d s 1 K N I P z Q) :
  am_C d m_X8_skip [am_r s] K N I P z Q am_nx := by
  refine am_C_of ok_X8_skip (fun v hv => am_v1all _ rfl v hv) (Nat.le_of_ble_eq_true rfl) ?_
  show am_E d m_X8_skip 0 0 0 [some (am_r s), none, none, none] [] K N I P z Q am_nx
  refine e_iconst dX8_skip_0 ?_
  refine e_istore_n dX8_skip_1 ?_
  exact e_forget (am_sub_k (am_sub_k (am_sub_d (am_sub_d am_sub_nil)))) h
set_option maxRecDepth 100000 in
set_option maxHeartbeats 4000000 in
theorem wf_X8_skip_2 {d : Nat} (hd : 1 ≤ d) {l0 : Nat} {l1 : Int} {K N : Nat → Nat} {I : Nat → Nat → Int} {P : Nat → Nat → Option Nat} {z : Nat} {Q : am_V → am_T} (h :
  ((l1 ≤ 0 →
    Q am_nl K N I P z) ∧
    (¬ (l1 ≤ 0) →
    K l0 = 8 ∧ ∃ b2, P l0 0 = some b2 ∧ K b2 = 10 ∧ (0 ≤ am_wr (106 + I l0 8) ∧ am_wr (106 + I l0 8) < N b2) ∧ ∀ I4, I4 = am_u2 I l0 8 (am_wr (I l0 8 + 1)) → ((¬ I b2 (Int.toNat (am_wr (106 + I l0 8))) = 63 →
      ((¬ I b2 (Int.toNat (am_wr (106 + I l0 8))) = 63 →
        L_X8_skip_2 d l0 (am_wr (l1 + (-1))) K N I4 P z Q) ∧
        (I b2 (Int.toNat (am_wr (106 + I l0 8))) = 63 →
        am_C (d - 1) m_X8_holds [am_r l0, am_i 0, am_i 0] K N I4 P z (fun v K5 N6 I7 P8 z9 => am_iv v fun x10 =>
          L_X8_skip_2 d l0 (am_wr (l1 + (-1))) K5 N6 I7 P8 z9 Q) am_nx))) ∧
      (I b2 (Int.toNat (am_wr (106 + I l0 8))) = 63 →
      ((¬ I b2 (Int.toNat (am_wr (106 + I l0 8))) = 63 →
        L_X8_skip_2 d l0 (am_wr (l1 + 1)) K N I4 P z Q) ∧
        (I b2 (Int.toNat (am_wr (106 + I l0 8))) = 63 →
        am_C (d - 1) m_X8_holds [am_r l0, am_i 0, am_i 0] K N I4 P z (fun v K11 N12 I13 P14 z15 => am_iv v fun x16 =>
          L_X8_skip_2 d l0 (am_wr (l1 + 1)) K11 N12 I13 P14 z15 Q) am_nx))))))) :
  L_X8_skip_2 d l0 l1 K N I P z Q := by
  unfold L_X8_skip_2
  refine e_iload_n dX8_skip_2 rfl ?_
  refine e_if_le (tgt := 59) dX8_skip_3 (by decide) (fun hc => ?_) (fun hc => ?_)
  · replace h := h.1 hc
    exact e_ret_v dX8_skip_59 rfl (Nat.le_of_ble_eq_true rfl) (Nat.le_of_ble_eq_true rfl) h
  · replace h := h.2 hc
    refine e_aload_n dX8_skip_6 rfl trivial ?_
    obtain ⟨hK1, h⟩ := h
    obtain ⟨b2, hb2, h⟩ := h
    refine e_getr1 dX8_skip_7 fk_X8_7 rfl hK1 hb2 ?_
    refine e_bipush dX8_skip_10 ?_
    refine e_aload_n dX8_skip_12 rfl trivial ?_
    refine e_geti dX8_skip_13 fk_X8_73 rfl hK1 ?_
    refine e_iadd dX8_skip_16 ?_
    obtain ⟨hK3, h⟩ := h
    obtain ⟨⟨h0, h1⟩, h⟩ := h
    refine e_iald dX8_skip_17 hK3 h0 h1 ?_
    refine e_istore_n dX8_skip_18 ?_
    refine e_aload_n dX8_skip_19 rfl trivial ?_
    refine e_dup dX8_skip_20 rfl ?_
    refine e_geti dX8_skip_21 fk_X8_73 rfl hK1 ?_
    refine e_iconst dX8_skip_24 ?_
    refine e_iadd dX8_skip_25 ?_
    refine e_puti dX8_skip_26 fk_X8_73 rfl (Or.inl rfl) hK1 ?_
    replace h := h _ rfl
    generalize am_u2 I l0 8 (am_wr (I l0 8 + 1)) = I4 at h ⊢
    refine e_iload_n dX8_skip_29 rfl ?_
    refine e_iload_n dX8_skip_30 rfl ?_
    refine e_bipush dX8_skip_31 ?_
    refine e_icmp_ne (tgt := 40) dX8_skip_33 (by decide) (fun hc => ?_) (fun hc => ?_)
    · replace h := h.1 hc
      refine e_iconst dX8_skip_40 ?_
      refine e_iadd dX8_skip_41 ?_
      refine e_istore_n dX8_skip_42 ?_
      refine e_iload_n dX8_skip_43 rfl ?_
      refine e_bipush dX8_skip_44 ?_
      refine e_icmp_ne (tgt := 56) dX8_skip_46 (by decide) (fun hc => ?_) (fun hc => ?_)
      · replace h := h.1 hc
        refine e_goto (tgt := 2) dX8_skip_56 (by decide) ?_
        exact e_forget (am_sub_k (am_sub_k (am_sub_d (am_sub_d am_sub_nil)))) h
      · replace h := h.2 hc
        refine e_aload_n dX8_skip_49 rfl trivial ?_
        refine e_iconst dX8_skip_50 ?_
        refine e_iconst dX8_skip_51 ?_
        refine e_callV (Mc := m_X8_holds) (vs := [am_i 0, am_i 0]) (st := []) dX8_skip_52 ok_X8_holds rfl ⟨by decide, rfl⟩ mk_X8_79 im_X8_holds sl_X8_holds rfl rfl hK1 (by omega) (Nat.le_of_ble_eq_true rfl) (Nat.le_of_ble_eq_true rfl) (Nat.le_of_ble_eq_true rfl) am_xh_nx (am_C_mono h (fun v K5 N6 I7 P8 z9 h => ?_) (fun _ _ _ _ _ _ h => h))
        replace h := am_iv_or h
        obtain ⟨x10, rfl, h⟩ := h
        show am_E d m_X8_skip 55 _ _ _ [am_i x10] K5 N6 I7 P8 z9 Q am_nx
        refine e_istore_n dX8_skip_55 ?_
        refine e_goto (tgt := 2) dX8_skip_56 (by decide) ?_
        exact e_forget (am_sub_k (am_sub_k (am_sub_d (am_sub_d am_sub_nil)))) h
    · replace h := h.2 hc
      refine e_iconst dX8_skip_36 ?_
      refine e_goto (tgt := 41) dX8_skip_37 (by decide) ?_
      refine e_iadd dX8_skip_41 ?_
      refine e_istore_n dX8_skip_42 ?_
      refine e_iload_n dX8_skip_43 rfl ?_
      refine e_bipush dX8_skip_44 ?_
      refine e_icmp_ne (tgt := 56) dX8_skip_46 (by decide) (fun hc => ?_) (fun hc => ?_)
      · replace h := h.1 hc
        refine e_goto (tgt := 2) dX8_skip_56 (by decide) ?_
        exact e_forget (am_sub_k (am_sub_k (am_sub_d (am_sub_d am_sub_nil)))) h
      · replace h := h.2 hc
        refine e_aload_n dX8_skip_49 rfl trivial ?_
        refine e_iconst dX8_skip_50 ?_
        refine e_iconst dX8_skip_51 ?_
        refine e_callV (Mc := m_X8_holds) (vs := [am_i 0, am_i 0]) (st := []) dX8_skip_52 ok_X8_holds rfl ⟨by decide, rfl⟩ mk_X8_79 im_X8_holds sl_X8_holds rfl rfl hK1 (by omega) (Nat.le_of_ble_eq_true rfl) (Nat.le_of_ble_eq_true rfl) (Nat.le_of_ble_eq_true rfl) am_xh_nx (am_C_mono h (fun v K11 N12 I13 P14 z15 h => ?_) (fun _ _ _ _ _ _ h => h))
        replace h := am_iv_or h
        obtain ⟨x16, rfl, h⟩ := h
        show am_E d m_X8_skip 55 _ _ _ [am_i x16] K11 N12 I13 P14 z15 Q am_nx
        refine e_istore_n dX8_skip_55 ?_
        refine e_goto (tgt := 2) dX8_skip_56 (by decide) ?_
        exact e_forget (am_sub_k (am_sub_k (am_sub_d (am_sub_d am_sub_nil)))) h
def L_X8_byRule_5 (d : Nat) (l0 : Nat) (l1 : Int) (l2 : Int) (K N : Nat → Nat) (I : Nat → Nat → Int) (P : Nat → Nat → Option Nat) (z : Nat) (Q : am_V → am_T) : Prop := am_E d m_X8_byRule 5 0 0 [some (am_r l0), some (am_i l1), some (am_i l2), none] [] K N I P z Q am_nx
set_option maxRecDepth 100000 in
set_option maxHeartbeats 4000000 in
theorem wf_X8_byRule {d : Nat} {s : Nat} {a1 : Int} {a2 : Int} {K N : Nat → Nat} {I : Nat → Nat → Int} {P : Nat → Nat → Option Nat} {z : Nat} {Q : am_V → am_T} (h :
  K s = 8 ∧ ∀ I2, I2 = am_u2 I s 8 0 → L_X8_byRule_5 d s a1 a2 K N I2 P z Q) :
  am_C d m_X8_byRule [am_r s, am_i a1, am_i a2] K N I P z Q am_nx := by
  refine am_C_of ok_X8_byRule (fun v hv => am_v1all _ rfl v hv) (Nat.le_of_ble_eq_true rfl) ?_
  show am_E d m_X8_byRule 0 0 0 [some (am_r s), some (am_i a1), some (am_i a2), none] [] K N I P z Q am_nx
  refine e_aload_n dX8_byRule_0 rfl trivial ?_
  refine e_iconst dX8_byRule_1 ?_
  obtain ⟨hK1, h⟩ := h
  refine e_puti dX8_byRule_2 fk_X8_73 rfl (Or.inl rfl) hK1 ?_
  replace h := h _ rfl
  generalize am_u2 I s 8 0 = I2 at h ⊢
  exact e_forget (am_sub_k (am_sub_k (am_sub_k (am_sub_d am_sub_nil)))) h
set_option maxRecDepth 100000 in
set_option maxHeartbeats 4000000 in
theorem wf_X8_byRule_5 {d : Nat} (hd : 1 ≤ d) {l0 : Nat} {l1 : Int} {l2 : Int} {K N : Nat → Nat} {I : Nat → Nat → Int} {P : Nat → Nat → Option Nat} {z : Nat} {Q : am_V → am_T} (h :
  K l0 = 8 ∧ ∃ b2, P l0 0 = some b2 ∧ K b2 = 10 ∧ (0 ≤ am_wr (106 + I l0 8) ∧ am_wr (106 + I l0 8) < N b2) ∧ ((¬ I b2 (Int.toNat (am_wr (106 + I l0 8))) = 63 →
    (0 ≤ am_wr (106 + I l0 8) ∧ am_wr (106 + I l0 8) < N b2) ∧ am_C (d - 1) m_X8_isLane [am_r l0, am_i (am_wr ((I b2 (Int.toNat (am_wr (106 + I l0 8)))) - 48))] K N I P z (fun v K4 N5 I6 P7 z8 => am_iv v fun x9 =>
      ((x9 = 0 →
      Q (am_i (-1)) K4 N5 I6 P7 z8) ∧
      (¬ (x9 = 0) →
      Q (am_i (am_wr ((I b2 (Int.toNat (am_wr (106 + I l0 8)))) - 48))) K4 N5 I6 P7 z8))) am_nx) ∧
    (I b2 (Int.toNat (am_wr (106 + I l0 8))) = 63 →
    ∀ I10, I10 = am_u2 I l0 8 (am_wr (I l0 8 + 1)) → am_C (d - 1) m_X8_holds [am_r l0, am_i l1, am_i l2] K N I10 P z (fun v K11 N12 I13 P14 z15 => am_iv v fun x16 =>
      ((¬ x16 = 0 →
      L_X8_byRule_5 d l0 l1 l2 K11 N12 I13 P14 z15 Q) ∧
      (x16 = 0 →
      K11 l0 = 8 ∧ am_C (d - 1) m_X8_skip [am_r l0] K11 N12 I13 P14 z15 (fun _ K17 N18 I19 P20 z21 =>
        L_X8_byRule_5 d l0 l1 l2 K17 N18 I19 P20 z21 Q) am_nx))) am_nx))) :
  L_X8_byRule_5 d l0 l1 l2 K N I P z Q := by
  unfold L_X8_byRule_5
  refine e_aload_n dX8_byRule_5 rfl trivial ?_
  obtain ⟨hK1, h⟩ := h
  obtain ⟨b2, hb2, h⟩ := h
  refine e_getr1 dX8_byRule_6 fk_X8_7 rfl hK1 hb2 ?_
  refine e_bipush dX8_byRule_9 ?_
  refine e_aload_n dX8_byRule_11 rfl trivial ?_
  refine e_geti dX8_byRule_12 fk_X8_73 rfl hK1 ?_
  refine e_iadd dX8_byRule_15 ?_
  obtain ⟨hK3, h⟩ := h
  obtain ⟨⟨h0, h1⟩, h⟩ := h
  refine e_iald dX8_byRule_16 hK3 h0 h1 ?_
  refine e_bipush dX8_byRule_17 ?_
  refine e_icmp_ne (tgt := 48) dX8_byRule_19 (by decide) (fun hc => ?_) (fun hc => ?_)
  · replace h := h.1 hc
    refine e_aload_n dX8_byRule_48 rfl trivial ?_
    refine e_getr1 dX8_byRule_49 fk_X8_7 rfl hK1 hb2 ?_
    refine e_bipush dX8_byRule_52 ?_
    refine e_aload_n dX8_byRule_54 rfl trivial ?_
    refine e_geti dX8_byRule_55 fk_X8_73 rfl hK1 ?_
    refine e_iadd dX8_byRule_58 ?_
    obtain ⟨⟨h0, h1⟩, h⟩ := h
    refine e_iald dX8_byRule_59 hK3 h0 h1 ?_
    refine e_bipush dX8_byRule_60 ?_
    refine e_isub dX8_byRule_62 ?_
    refine e_istore_n dX8_byRule_63 ?_
    refine e_aload_n dX8_byRule_64 rfl trivial ?_
    refine e_iload_n dX8_byRule_65 rfl ?_
    refine e_callV (Mc := m_X8_isLane) (vs := [am_i (am_wr ((I b2 (Int.toNat (am_wr (106 + I l0 8)))) - 48))]) (st := []) dX8_byRule_66 ok_X8_isLane rfl ⟨by decide, rfl⟩ mk_X8_61 im_X8_isLane sl_X8_isLane rfl rfl hK1 (by omega) (Nat.le_of_ble_eq_true rfl) (Nat.le_of_ble_eq_true rfl) (Nat.le_of_ble_eq_true rfl) am_xh_nx (am_C_mono h (fun v K4 N5 I6 P7 z8 h => ?_) (fun _ _ _ _ _ _ h => h))
    replace h := am_iv_or h
    obtain ⟨x9, rfl, h⟩ := h
    show am_E d m_X8_byRule 69 _ _ _ [am_i x9] K4 N5 I6 P7 z8 Q am_nx
    refine e_if_eq (tgt := 76) dX8_byRule_69 (by decide) (fun hc => ?_) (fun hc => ?_)
    · replace h := h.1 hc
      refine e_iconst dX8_byRule_76 ?_
      exact e_ret_i dX8_byRule_77 rfl (Nat.le_of_ble_eq_true rfl) (Nat.le_of_ble_eq_true rfl) h
    · replace h := h.2 hc
      refine e_iload_n dX8_byRule_72 rfl ?_
      refine e_goto (tgt := 77) dX8_byRule_73 (by decide) ?_
      exact e_ret_i dX8_byRule_77 rfl (Nat.le_of_ble_eq_true rfl) (Nat.le_of_ble_eq_true rfl) h
  · replace h := h.2 hc
    refine e_aload_n dX8_byRule_22 rfl trivial ?_
    refine e_dup dX8_byRule_23 rfl ?_
    refine e_geti dX8_byRule_24 fk_X8_73 rfl hK1 ?_
    refine e_iconst dX8_byRule_27 ?_
    refine e_iadd dX8_byRule_28 ?_
    refine e_puti dX8_byRule_29 fk_X8_73 rfl (Or.inl rfl) hK1 ?_
    replace h := h _ rfl
    generalize am_u2 I l0 8 (am_wr (I l0 8 + 1)) = I10 at h ⊢
    refine e_aload_n dX8_byRule_32 rfl trivial ?_
    refine e_iload_n dX8_byRule_33 rfl ?_
    refine e_iload_n dX8_byRule_34 rfl ?_
    refine e_callV (Mc := m_X8_holds) (vs := [am_i l1, am_i l2]) (st := []) dX8_byRule_35 ok_X8_holds rfl ⟨by decide, rfl⟩ mk_X8_79 im_X8_holds sl_X8_holds rfl rfl hK1 (by omega) (Nat.le_of_ble_eq_true rfl) (Nat.le_of_ble_eq_true rfl) (Nat.le_of_ble_eq_true rfl) am_xh_nx (am_C_mono h (fun v K11 N12 I13 P14 z15 h => ?_) (fun _ _ _ _ _ _ h => h))
    replace h := am_iv_or h
    obtain ⟨x16, rfl, h⟩ := h
    show am_E d m_X8_byRule 38 _ _ _ [am_i x16] K11 N12 I13 P14 z15 Q am_nx
    refine e_if_ne (tgt := 5) dX8_byRule_38 (by decide) (fun hc => ?_) (fun hc => ?_)
    · replace h := h.1 hc
      exact e_forget (am_sub_k (am_sub_k (am_sub_k (am_sub_d am_sub_nil)))) h
    · replace h := h.2 hc
      refine e_aload_n dX8_byRule_41 rfl trivial ?_
      obtain ⟨hK22, h⟩ := h
      refine e_callV (Mc := m_X8_skip) (vs := []) (st := []) dX8_byRule_42 ok_X8_skip rfl ⟨by decide, rfl⟩ mk_X8_83 im_X8_skip sl_X8_skip rfl rfl hK22 (by omega) (Nat.le_of_ble_eq_true rfl) (Nat.le_of_ble_eq_true rfl) (Nat.le_of_ble_eq_true rfl) am_xh_nx (am_C_mono h (fun v K17 N18 I19 P20 z21 h => ?_) (fun _ _ _ _ _ _ h => h))
      show am_E d m_X8_byRule 45 _ _ _ [] K17 N18 I19 P20 z21 Q am_nx
      refine e_goto (tgt := 5) dX8_byRule_45 (by decide) ?_
      exact e_forget (am_sub_k (am_sub_k (am_sub_k (am_sub_d am_sub_nil)))) h
set_option maxRecDepth 100000 in
set_option maxHeartbeats 4000000 in
theorem wf_X8_laneBy {d : Nat} (hd : 1 ≤ d) {s : Nat} {a1 : Int} {a2 : Int} {K N : Nat → Nat} {I : Nat → Nat → Int} {P : Nat → Nat → Option Nat} {z : Nat} {Q : am_V → am_T} (h :
  K s = 8 ∧ am_C (d - 1) m_X8_hasRoute [am_r s, am_i a1] K N I P z (fun v K1 N2 I3 P4 z5 => am_iv v fun x7 =>
    ((x7 = 0 →
    K1 s = 8 ∧ am_C (d - 1) m_X8_byRule [am_r s, am_i a1, am_i a2] K1 N2 I3 P4 z5 (fun v K8 N9 I10 P11 z12 => am_iv v fun x14 =>
      Q (am_i x14) K8 N9 I10 P11 z12) am_nx) ∧
    (¬ (x7 = 0) →
    K1 s = 8 ∧ ∃ b16, P4 s 0 = some b16 ∧ am_C (d - 1) m_X8_placeOf [am_r s, am_i a1] K1 N2 I3 P4 z5 (fun v K17 N18 I19 P20 z21 => am_iv v fun x22 =>
      K17 b16 = 10 ∧ (0 ≤ am_wr (76 + x22) ∧ am_wr (76 + x22) < N18 b16) ∧ Q (am_i (I19 b16 (Int.toNat (am_wr (76 + x22))))) K17 N18 I19 P20 z21) am_nx))) am_nx) :
  am_C d m_X8_laneBy [am_r s, am_i a1, am_i a2] K N I P z Q am_nx := by
  refine am_C_of ok_X8_laneBy (fun v hv => am_v1all _ rfl v hv) (Nat.le_of_ble_eq_true rfl) ?_
  show am_E d m_X8_laneBy 0 0 0 [some (am_r s), some (am_i a1), some (am_i a2)] [] K N I P z Q am_nx
  refine e_aload_n dX8_laneBy_0 rfl trivial ?_
  refine e_iload_n dX8_laneBy_1 rfl ?_
  obtain ⟨hK6, h⟩ := h
  refine e_callV (Mc := m_X8_hasRoute) (vs := [am_i a1]) (st := []) dX8_laneBy_2 ok_X8_hasRoute rfl ⟨by decide, rfl⟩ mk_X8_70 im_X8_hasRoute sl_X8_hasRoute rfl rfl hK6 (by omega) (Nat.le_of_ble_eq_true rfl) (Nat.le_of_ble_eq_true rfl) (Nat.le_of_ble_eq_true rfl) am_xh_nx (am_C_mono h (fun v K1 N2 I3 P4 z5 h => ?_) (fun _ _ _ _ _ _ h => h))
  replace h := am_iv_or h
  obtain ⟨x7, rfl, h⟩ := h
  show am_E d m_X8_laneBy 5 _ _ _ [am_i x7] K1 N2 I3 P4 z5 Q am_nx
  refine e_if_eq (tgt := 24) dX8_laneBy_5 (by decide) (fun hc => ?_) (fun hc => ?_)
  · replace h := h.1 hc
    refine e_aload_n dX8_laneBy_24 rfl trivial ?_
    refine e_iload_n dX8_laneBy_25 rfl ?_
    refine e_iload_n dX8_laneBy_26 rfl ?_
    obtain ⟨hK13, h⟩ := h
    refine e_callV (Mc := m_X8_byRule) (vs := [am_i a1, am_i a2]) (st := []) dX8_laneBy_27 ok_X8_byRule rfl ⟨by decide, rfl⟩ mk_X8_86 im_X8_byRule sl_X8_byRule rfl rfl hK13 (by omega) (Nat.le_of_ble_eq_true rfl) (Nat.le_of_ble_eq_true rfl) (Nat.le_of_ble_eq_true rfl) am_xh_nx (am_C_mono h (fun v K8 N9 I10 P11 z12 h => ?_) (fun _ _ _ _ _ _ h => h))
    replace h := am_iv_or h
    obtain ⟨x14, rfl, h⟩ := h
    show am_E d m_X8_laneBy 30 _ _ _ [am_i x14] K8 N9 I10 P11 z12 Q am_nx
    exact e_ret_i dX8_laneBy_30 rfl (Nat.le_of_ble_eq_true rfl) (Nat.le_of_ble_eq_true rfl) h
  · replace h := h.2 hc
    refine e_aload_n dX8_laneBy_8 rfl trivial ?_
    obtain ⟨hK15, h⟩ := h
    obtain ⟨b16, hb16, h⟩ := h
    refine e_getr1 dX8_laneBy_9 fk_X8_7 rfl hK15 hb16 ?_
    refine e_bipush dX8_laneBy_12 ?_
    refine e_aload_n dX8_laneBy_14 rfl trivial ?_
    refine e_iload_n dX8_laneBy_15 rfl ?_
    refine e_callV (Mc := m_X8_placeOf) (vs := [am_i a1]) (st := [am_i 76, am_r b16]) dX8_laneBy_16 ok_X8_placeOf rfl ⟨by decide, rfl⟩ mk_X8_64 im_X8_placeOf sl_X8_placeOf rfl rfl hK15 (by omega) (Nat.le_of_ble_eq_true rfl) (Nat.le_of_ble_eq_true rfl) (Nat.le_of_ble_eq_true rfl) am_xh_nx (am_C_mono h (fun v K17 N18 I19 P20 z21 h => ?_) (fun _ _ _ _ _ _ h => h))
    replace h := am_iv_or h
    obtain ⟨x22, rfl, h⟩ := h
    show am_E d m_X8_laneBy 19 _ _ _ [am_i x22, am_i 76, am_r b16] K17 N18 I19 P20 z21 Q am_nx
    refine e_iadd dX8_laneBy_19 ?_
    obtain ⟨hK23, h⟩ := h
    obtain ⟨⟨h0, h1⟩, h⟩ := h
    refine e_iald dX8_laneBy_20 hK23 h0 h1 ?_
    refine e_goto (tgt := 30) dX8_laneBy_21 (by decide) ?_
    exact e_ret_i dX8_laneBy_30 rfl (Nat.le_of_ble_eq_true rfl) (Nat.le_of_ble_eq_true rfl) h
set_option maxRecDepth 100000 in
set_option maxHeartbeats 4000000 in
theorem wf_X8_laneOf {d : Nat} (hd : 1 ≤ d) {s : Nat} {a1 : Int} {K N : Nat → Nat} {I : Nat → Nat → Int} {P : Nat → Nat → Option Nat} {z : Nat} {Q : am_V → am_T} (h :
  K s = 8 ∧ ∃ b2, P s 0 = some b2 ∧ K b2 = 10 ∧ (0 ≤ am_wr (1100 + a1) ∧ am_wr (1100 + a1) < N b2) ∧ ((I b2 (Int.toNat (am_wr (1100 + a1))) = (-1) →
    Q (am_i (-1)) K N I P z) ∧
    (¬ (I b2 (Int.toNat (am_wr (1100 + a1))) = (-1)) →
    (0 ≤ am_wr (1400 + a1) ∧ am_wr (1400 + a1) < N b2) ∧ ((I b2 (Int.toNat (am_wr (1400 + a1))) = 1 →
      Q (am_i (-1)) K N I P z) ∧
      (¬ (I b2 (Int.toNat (am_wr (1400 + a1))) = 1) →
      (0 ≤ am_wr (1700 + a1) ∧ am_wr (1700 + a1) < N b2) ∧ ((¬ I b2 (Int.toNat (am_wr (1700 + a1))) = 1 →
        (0 ≤ am_wr (1100 + a1) ∧ am_wr (1100 + a1) < N b2) ∧ (0 ≤ am_wr (200 + a1) ∧ am_wr (200 + a1) < N b2) ∧ am_C (d - 1) m_X8_laneBy [am_r s, am_i (I b2 (Int.toNat (am_wr (1100 + a1)))), am_i (I b2 (Int.toNat (am_wr (200 + a1))))] K N I P z (fun v K4 N5 I6 P7 z8 => am_iv v fun x9 =>
          Q (am_i x9) K4 N5 I6 P7 z8) am_nx) ∧
        (I b2 (Int.toNat (am_wr (1700 + a1))) = 1 →
        Q (am_i (-1)) K N I P z))))))) :
  am_C d m_X8_laneOf [am_r s, am_i a1] K N I P z Q am_nx := by
  refine am_C_of ok_X8_laneOf (fun v hv => am_v1all _ rfl v hv) (Nat.le_of_ble_eq_true rfl) ?_
  show am_E d m_X8_laneOf 0 0 0 [some (am_r s), some (am_i a1)] [] K N I P z Q am_nx
  refine e_aload_n dX8_laneOf_0 rfl trivial ?_
  obtain ⟨hK1, h⟩ := h
  obtain ⟨b2, hb2, h⟩ := h
  refine e_getr1 dX8_laneOf_1 fk_X8_7 rfl hK1 hb2 ?_
  refine e_sipush dX8_laneOf_4 ?_
  refine e_iload_n dX8_laneOf_7 rfl ?_
  refine e_iadd dX8_laneOf_8 ?_
  obtain ⟨hK3, h⟩ := h
  obtain ⟨⟨h0, h1⟩, h⟩ := h
  refine e_iald dX8_laneOf_9 hK3 h0 h1 ?_
  refine e_iconst dX8_laneOf_10 ?_
  refine e_icmp_eq (tgt := 42) dX8_laneOf_11 (by decide) (fun hc => ?_) (fun hc => ?_)
  · replace h := h.1 hc
    refine e_iconst dX8_laneOf_42 ?_
    exact e_ret_i dX8_laneOf_43 rfl (Nat.le_of_ble_eq_true rfl) (Nat.le_of_ble_eq_true rfl) h
  · replace h := h.2 hc
    refine e_aload_n dX8_laneOf_14 rfl trivial ?_
    refine e_getr1 dX8_laneOf_15 fk_X8_7 rfl hK1 hb2 ?_
    refine e_sipush dX8_laneOf_18 ?_
    refine e_iload_n dX8_laneOf_21 rfl ?_
    refine e_iadd dX8_laneOf_22 ?_
    obtain ⟨⟨h0, h1⟩, h⟩ := h
    refine e_iald dX8_laneOf_23 hK3 h0 h1 ?_
    refine e_iconst dX8_laneOf_24 ?_
    refine e_icmp_eq (tgt := 42) dX8_laneOf_25 (by decide) (fun hc => ?_) (fun hc => ?_)
    · replace h := h.1 hc
      refine e_iconst dX8_laneOf_42 ?_
      exact e_ret_i dX8_laneOf_43 rfl (Nat.le_of_ble_eq_true rfl) (Nat.le_of_ble_eq_true rfl) h
    · replace h := h.2 hc
      refine e_aload_n dX8_laneOf_28 rfl trivial ?_
      refine e_getr1 dX8_laneOf_29 fk_X8_7 rfl hK1 hb2 ?_
      refine e_sipush dX8_laneOf_32 ?_
      refine e_iload_n dX8_laneOf_35 rfl ?_
      refine e_iadd dX8_laneOf_36 ?_
      obtain ⟨⟨h0, h1⟩, h⟩ := h
      refine e_iald dX8_laneOf_37 hK3 h0 h1 ?_
      refine e_iconst dX8_laneOf_38 ?_
      refine e_icmp_ne (tgt := 44) dX8_laneOf_39 (by decide) (fun hc => ?_) (fun hc => ?_)
      · replace h := h.1 hc
        refine e_aload_n dX8_laneOf_44 rfl trivial ?_
        refine e_aload_n dX8_laneOf_45 rfl trivial ?_
        refine e_getr1 dX8_laneOf_46 fk_X8_7 rfl hK1 hb2 ?_
        refine e_sipush dX8_laneOf_49 ?_
        refine e_iload_n dX8_laneOf_52 rfl ?_
        refine e_iadd dX8_laneOf_53 ?_
        obtain ⟨⟨h0, h1⟩, h⟩ := h
        refine e_iald dX8_laneOf_54 hK3 h0 h1 ?_
        refine e_aload_n dX8_laneOf_55 rfl trivial ?_
        refine e_getr1 dX8_laneOf_56 fk_X8_7 rfl hK1 hb2 ?_
        refine e_sipush dX8_laneOf_59 ?_
        refine e_iload_n dX8_laneOf_62 rfl ?_
        refine e_iadd dX8_laneOf_63 ?_
        obtain ⟨⟨h0, h1⟩, h⟩ := h
        refine e_iald dX8_laneOf_64 hK3 h0 h1 ?_
        refine e_callV (Mc := m_X8_laneBy) (vs := [am_i (I b2 (Int.toNat (am_wr (1100 + a1)))), am_i (I b2 (Int.toNat (am_wr (200 + a1))))]) (st := []) dX8_laneOf_65 ok_X8_laneBy rfl ⟨by decide, rfl⟩ mk_X8_90 im_X8_laneBy sl_X8_laneBy rfl rfl hK1 (by omega) (Nat.le_of_ble_eq_true rfl) (Nat.le_of_ble_eq_true rfl) (Nat.le_of_ble_eq_true rfl) am_xh_nx (am_C_mono h (fun v K4 N5 I6 P7 z8 h => ?_) (fun _ _ _ _ _ _ h => h))
        replace h := am_iv_or h
        obtain ⟨x9, rfl, h⟩ := h
        show am_E d m_X8_laneOf 68 _ _ _ [am_i x9] K4 N5 I6 P7 z8 Q am_nx
        exact e_ret_i dX8_laneOf_68 rfl (Nat.le_of_ble_eq_true rfl) (Nat.le_of_ble_eq_true rfl) h
      · replace h := h.2 hc
        refine e_iconst dX8_laneOf_42 ?_
        exact e_ret_i dX8_laneOf_43 rfl (Nat.le_of_ble_eq_true rfl) (Nat.le_of_ble_eq_true rfl) h
set_option maxRecDepth 100000 in
set_option maxHeartbeats 4000000 in
theorem wf_X8_tail {d : Nat} {s : Nat} {a1 : Int} {K N : Nat → Nat} {I : Nat → Nat → Int} {P : Nat → Nat → Option Nat} {z : Nat} {Q : am_V → am_T} (h :
  K s = 8 ∧ ∃ b2, P s 0 = some b2 ∧ K b2 = 10 ∧ (0 ≤ am_wr (500 + a1) ∧ am_wr (500 + a1) < N b2) ∧ (0 ≤ am_wr (200 + a1) ∧ am_wr (200 + a1) < N b2) ∧ Q (am_i (am_wr ((I b2 (Int.toNat (am_wr (500 + a1)))) - (I b2 (Int.toNat (am_wr (200 + a1))))))) K N I P z) :
  am_C d m_X8_tail [am_r s, am_i a1] K N I P z Q am_nx := by
  refine am_C_of ok_X8_tail (fun v hv => am_v1all _ rfl v hv) (Nat.le_of_ble_eq_true rfl) ?_
  show am_E d m_X8_tail 0 0 0 [some (am_r s), some (am_i a1)] [] K N I P z Q am_nx
  refine e_aload_n dX8_tail_0 rfl trivial ?_
  obtain ⟨hK1, h⟩ := h
  obtain ⟨b2, hb2, h⟩ := h
  refine e_getr1 dX8_tail_1 fk_X8_7 rfl hK1 hb2 ?_
  refine e_sipush dX8_tail_4 ?_
  refine e_iload_n dX8_tail_7 rfl ?_
  refine e_iadd dX8_tail_8 ?_
  obtain ⟨hK3, h⟩ := h
  obtain ⟨⟨h0, h1⟩, h⟩ := h
  refine e_iald dX8_tail_9 hK3 h0 h1 ?_
  refine e_aload_n dX8_tail_10 rfl trivial ?_
  refine e_getr1 dX8_tail_11 fk_X8_7 rfl hK1 hb2 ?_
  refine e_sipush dX8_tail_14 ?_
  refine e_iload_n dX8_tail_17 rfl ?_
  refine e_iadd dX8_tail_18 ?_
  obtain ⟨⟨h0, h1⟩, h⟩ := h
  refine e_iald dX8_tail_19 hK3 h0 h1 ?_
  refine e_isub dX8_tail_20 ?_
  exact e_ret_i dX8_tail_21 rfl (Nat.le_of_ble_eq_true rfl) (Nat.le_of_ble_eq_true rfl) h
set_option maxRecDepth 100000 in
set_option maxHeartbeats 4000000 in
theorem wf_X8_middle {d : Nat} {s : Nat} {a1 : Int} {K N : Nat → Nat} {I : Nat → Nat → Int} {P : Nat → Nat → Option Nat} {z : Nat} {Q : am_V → am_T} (h :
  K s = 8 ∧ ∃ b2, P s 0 = some b2 ∧ K b2 = 10 ∧ (0 ≤ am_wr (500 + a1) ∧ am_wr (500 + a1) < N b2) ∧ (0 ≤ am_wr (200 + a1) ∧ am_wr (200 + a1) < N b2) ∧ Q (am_i (am_wr ((I b2 (Int.toNat (am_wr (500 + a1)))) - (am_wr (Int.tdiv (I b2 (Int.toNat (am_wr (200 + a1)))) 2))))) K N I P z) :
  am_C d m_X8_middle [am_r s, am_i a1] K N I P z Q am_nx := by
  refine am_C_of ok_X8_middle (fun v hv => am_v1all _ rfl v hv) (Nat.le_of_ble_eq_true rfl) ?_
  show am_E d m_X8_middle 0 0 0 [some (am_r s), some (am_i a1)] [] K N I P z Q am_nx
  refine e_aload_n dX8_middle_0 rfl trivial ?_
  obtain ⟨hK1, h⟩ := h
  obtain ⟨b2, hb2, h⟩ := h
  refine e_getr1 dX8_middle_1 fk_X8_7 rfl hK1 hb2 ?_
  refine e_sipush dX8_middle_4 ?_
  refine e_iload_n dX8_middle_7 rfl ?_
  refine e_iadd dX8_middle_8 ?_
  obtain ⟨hK3, h⟩ := h
  obtain ⟨⟨h0, h1⟩, h⟩ := h
  refine e_iald dX8_middle_9 hK3 h0 h1 ?_
  refine e_aload_n dX8_middle_10 rfl trivial ?_
  refine e_getr1 dX8_middle_11 fk_X8_7 rfl hK1 hb2 ?_
  refine e_sipush dX8_middle_14 ?_
  refine e_iload_n dX8_middle_17 rfl ?_
  refine e_iadd dX8_middle_18 ?_
  obtain ⟨⟨h0, h1⟩, h⟩ := h
  refine e_iald dX8_middle_19 hK3 h0 h1 ?_
  refine e_iconst dX8_middle_20 ?_
  refine e_idiv dX8_middle_21 (by decide) ?_
  refine e_isub dX8_middle_22 ?_
  exact e_ret_i dX8_middle_23 rfl (Nat.le_of_ble_eq_true rfl) (Nat.le_of_ble_eq_true rfl) h
def L_X8_ahead_4 (d : Nat) (l0 : Nat) (l2 : Int) (K N : Nat → Nat) (I : Nat → Nat → Int) (P : Nat → Nat → Option Nat) (z : Nat) (Q : am_V → am_T) : Prop := am_E d m_X8_ahead 4 0 0 [some (am_r l0), none, some (am_i l2)] [] K N I P z Q am_nx
set_option maxRecDepth 100000 in
set_option maxHeartbeats 4000000 in
theorem wf_X8_ahead {d : Nat} {s : Nat} {a1 : Int} {K N : Nat → Nat} {I : Nat → Nat → Int} {P : Nat → Nat → Option Nat} {z : Nat} {Q : am_V → am_T} (h :
  L_X8_ahead_4 d s (am_wr (a1 - 1)) K N I P z Q) :
  am_C d m_X8_ahead [am_r s, am_i a1] K N I P z Q am_nx := by
  refine am_C_of ok_X8_ahead (fun v hv => am_v1all _ rfl v hv) (Nat.le_of_ble_eq_true rfl) ?_
  show am_E d m_X8_ahead 0 0 0 [some (am_r s), some (am_i a1), none] [] K N I P z Q am_nx
  refine e_iload_n dX8_ahead_0 rfl ?_
  refine e_iconst dX8_ahead_1 ?_
  refine e_isub dX8_ahead_2 ?_
  refine e_istore_n dX8_ahead_3 ?_
  exact e_forget (am_sub_k (am_sub_d (am_sub_k am_sub_nil))) h
set_option maxRecDepth 100000 in
set_option maxHeartbeats 4000000 in
theorem wf_X8_ahead_4 {d : Nat} (hd : 1 ≤ d) {l0 : Nat} {l2 : Int} {K N : Nat → Nat} {I : Nat → Nat → Int} {P : Nat → Nat → Option Nat} {z : Nat} {Q : am_V → am_T} (h :
  ((l2 < 0 →
    Q (am_i l2) K N I P z) ∧
    (¬ (l2 < 0) →
    K l0 = 8 ∧ am_C (d - 1) m_X8_isOn [am_r l0, am_i l2] K N I P z (fun v K1 N2 I3 P4 z5 => am_iv v fun x7 =>
      ((¬ x7 = 0 →
      Q (am_i l2) K1 N2 I3 P4 z5) ∧
      (x7 = 0 →
      L_X8_ahead_4 d l0 (am_wr (l2 + (-1))) K1 N2 I3 P4 z5 Q))) am_nx))) :
  L_X8_ahead_4 d l0 l2 K N I P z Q := by
  unfold L_X8_ahead_4
  refine e_iload_n dX8_ahead_4 rfl ?_
  refine e_if_lt (tgt := 22) dX8_ahead_5 (by decide) (fun hc => ?_) (fun hc => ?_)
  · replace h := h.1 hc
    refine e_iload_n dX8_ahead_22 rfl ?_
    exact e_ret_i dX8_ahead_23 rfl (Nat.le_of_ble_eq_true rfl) (Nat.le_of_ble_eq_true rfl) h
  · replace h := h.2 hc
    refine e_aload_n dX8_ahead_8 rfl trivial ?_
    refine e_iload_n dX8_ahead_9 rfl ?_
    obtain ⟨hK6, h⟩ := h
    refine e_callV (Mc := m_X8_isOn) (vs := [am_i l2]) (st := []) dX8_ahead_10 ok_X8_isOn rfl ⟨by decide, rfl⟩ mk_X8_32 im_X8_isOn sl_X8_isOn rfl rfl hK6 (by omega) (Nat.le_of_ble_eq_true rfl) (Nat.le_of_ble_eq_true rfl) (Nat.le_of_ble_eq_true rfl) am_xh_nx (am_C_mono h (fun v K1 N2 I3 P4 z5 h => ?_) (fun _ _ _ _ _ _ h => h))
    replace h := am_iv_or h
    obtain ⟨x7, rfl, h⟩ := h
    show am_E d m_X8_ahead 13 _ _ _ [am_i x7] K1 N2 I3 P4 z5 Q am_nx
    refine e_if_ne (tgt := 22) dX8_ahead_13 (by decide) (fun hc => ?_) (fun hc => ?_)
    · replace h := h.1 hc
      refine e_iload_n dX8_ahead_22 rfl ?_
      exact e_ret_i dX8_ahead_23 rfl (Nat.le_of_ble_eq_true rfl) (Nat.le_of_ble_eq_true rfl) h
    · replace h := h.2 hc
      refine e_iinc dX8_ahead_16 rfl ?_
      refine e_goto (tgt := 4) dX8_ahead_19 (by decide) ?_
      exact e_forget (am_sub_k (am_sub_d (am_sub_k am_sub_nil))) h
def L_X8_behind_4 (d : Nat) (l0 : Nat) (l2 : Int) (K N : Nat → Nat) (I : Nat → Nat → Int) (P : Nat → Nat → Option Nat) (z : Nat) (Q : am_V → am_T) : Prop := am_E d m_X8_behind 4 0 0 [some (am_r l0), none, some (am_i l2)] [] K N I P z Q am_nx
set_option maxRecDepth 100000 in
set_option maxHeartbeats 4000000 in
theorem wf_X8_behind {d : Nat} {s : Nat} {a1 : Int} {K N : Nat → Nat} {I : Nat → Nat → Int} {P : Nat → Nat → Option Nat} {z : Nat} {Q : am_V → am_T} (h :
  L_X8_behind_4 d s (am_wr (a1 + 1)) K N I P z Q) :
  am_C d m_X8_behind [am_r s, am_i a1] K N I P z Q am_nx := by
  refine am_C_of ok_X8_behind (fun v hv => am_v1all _ rfl v hv) (Nat.le_of_ble_eq_true rfl) ?_
  show am_E d m_X8_behind 0 0 0 [some (am_r s), some (am_i a1), none] [] K N I P z Q am_nx
  refine e_iload_n dX8_behind_0 rfl ?_
  refine e_iconst dX8_behind_1 ?_
  refine e_iadd dX8_behind_2 ?_
  refine e_istore_n dX8_behind_3 ?_
  exact e_forget (am_sub_k (am_sub_d (am_sub_k am_sub_nil))) h
set_option maxRecDepth 100000 in
set_option maxHeartbeats 4000000 in
theorem wf_X8_behind_4 {d : Nat} (hd : 1 ≤ d) {l0 : Nat} {l2 : Int} {K N : Nat → Nat} {I : Nat → Nat → Int} {P : Nat → Nat → Option Nat} {z : Nat} {Q : am_V → am_T} (h :
  K l0 = 8 ∧ ∃ b2, P l0 0 = some b2 ∧ K b2 = 10 ∧ (0 ≤ (9 : Int) ∧ (9 : Int) < N b2) ∧ ((I b2 9 ≤ l2 →
    Q (am_i l2) K N I P z) ∧
    (¬ (I b2 9 ≤ l2) →
    am_C (d - 1) m_X8_isOn [am_r l0, am_i l2] K N I P z (fun v K4 N5 I6 P7 z8 => am_iv v fun x9 =>
      ((¬ x9 = 0 →
      Q (am_i l2) K4 N5 I6 P7 z8) ∧
      (x9 = 0 →
      L_X8_behind_4 d l0 (am_wr (l2 + 1)) K4 N5 I6 P7 z8 Q))) am_nx))) :
  L_X8_behind_4 d l0 l2 K N I P z Q := by
  unfold L_X8_behind_4
  refine e_iload_n dX8_behind_4 rfl ?_
  refine e_aload_n dX8_behind_5 rfl trivial ?_
  obtain ⟨hK1, h⟩ := h
  obtain ⟨b2, hb2, h⟩ := h
  refine e_getr1 dX8_behind_6 fk_X8_7 rfl hK1 hb2 ?_
  refine e_bipush dX8_behind_9 ?_
  obtain ⟨hK3, h⟩ := h
  obtain ⟨⟨h0, h1⟩, h⟩ := h
  refine e_iald dX8_behind_11 hK3 h0 h1 ?_
  show am_E _ _ _ _ _ _ (am_i (I b2 9) :: _) _ _ _ _ _ _ _
  refine e_icmp_ge (tgt := 29) dX8_behind_12 (by decide) (fun hc => ?_) (fun hc => ?_)
  · replace h := h.1 hc
    refine e_iload_n dX8_behind_29 rfl ?_
    exact e_ret_i dX8_behind_30 rfl (Nat.le_of_ble_eq_true rfl) (Nat.le_of_ble_eq_true rfl) h
  · replace h := h.2 hc
    refine e_aload_n dX8_behind_15 rfl trivial ?_
    refine e_iload_n dX8_behind_16 rfl ?_
    refine e_callV (Mc := m_X8_isOn) (vs := [am_i l2]) (st := []) dX8_behind_17 ok_X8_isOn rfl ⟨by decide, rfl⟩ mk_X8_32 im_X8_isOn sl_X8_isOn rfl rfl hK1 (by omega) (Nat.le_of_ble_eq_true rfl) (Nat.le_of_ble_eq_true rfl) (Nat.le_of_ble_eq_true rfl) am_xh_nx (am_C_mono h (fun v K4 N5 I6 P7 z8 h => ?_) (fun _ _ _ _ _ _ h => h))
    replace h := am_iv_or h
    obtain ⟨x9, rfl, h⟩ := h
    show am_E d m_X8_behind 20 _ _ _ [am_i x9] K4 N5 I6 P7 z8 Q am_nx
    refine e_if_ne (tgt := 29) dX8_behind_20 (by decide) (fun hc => ?_) (fun hc => ?_)
    · replace h := h.1 hc
      refine e_iload_n dX8_behind_29 rfl ?_
      exact e_ret_i dX8_behind_30 rfl (Nat.le_of_ble_eq_true rfl) (Nat.le_of_ble_eq_true rfl) h
    · replace h := h.2 hc
      refine e_iinc dX8_behind_23 rfl ?_
      refine e_goto (tgt := 4) dX8_behind_26 (by decide) ?_
      exact e_forget (am_sub_k (am_sub_d (am_sub_k am_sub_nil))) h
set_option maxRecDepth 100000 in
set_option maxHeartbeats 4000000 in
theorem wf_X8_latest {d : Nat} (hd : 1 ≤ d) {s : Nat} {K N : Nat → Nat} {I : Nat → Nat → Int} {P : Nat → Nat → Option Nat} {z : Nat} {Q : am_V → am_T} (h :
  K s = 8 ∧ ∃ b2, P s 0 = some b2 ∧ K b2 = 10 ∧ (0 ≤ (9 : Int) ∧ (9 : Int) < N b2) ∧ am_C (d - 1) m_X8_ahead [am_r s, am_i (I b2 9)] K N I P z (fun v K4 N5 I6 P7 z8 => am_iv v fun x9 =>
    Q (am_i x9) K4 N5 I6 P7 z8) am_nx) :
  am_C d m_X8_latest [am_r s] K N I P z Q am_nx := by
  refine am_C_of ok_X8_latest (fun v hv => am_v1all _ rfl v hv) (Nat.le_of_ble_eq_true rfl) ?_
  show am_E d m_X8_latest 0 0 0 [some (am_r s)] [] K N I P z Q am_nx
  refine e_aload_n dX8_latest_0 rfl trivial ?_
  refine e_aload_n dX8_latest_1 rfl trivial ?_
  obtain ⟨hK1, h⟩ := h
  obtain ⟨b2, hb2, h⟩ := h
  refine e_getr1 dX8_latest_2 fk_X8_7 rfl hK1 hb2 ?_
  refine e_bipush dX8_latest_5 ?_
  obtain ⟨hK3, h⟩ := h
  obtain ⟨⟨h0, h1⟩, h⟩ := h
  refine e_iald dX8_latest_7 hK3 h0 h1 ?_
  show am_E _ _ _ _ _ _ (am_i (I b2 9) :: _) _ _ _ _ _ _ _
  refine e_callV (Mc := m_X8_ahead) (vs := [am_i (I b2 9)]) (st := []) dX8_latest_8 ok_X8_ahead rfl ⟨by decide, rfl⟩ mk_X8_93 im_X8_ahead sl_X8_ahead rfl rfl hK1 (by omega) (Nat.le_of_ble_eq_true rfl) (Nat.le_of_ble_eq_true rfl) (Nat.le_of_ble_eq_true rfl) am_xh_nx (am_C_mono h (fun v K4 N5 I6 P7 z8 h => ?_) (fun _ _ _ _ _ _ h => h))
  replace h := am_iv_or h
  obtain ⟨x9, rfl, h⟩ := h
  show am_E d m_X8_latest 11 _ _ _ [am_i x9] K4 N5 I6 P7 z8 Q am_nx
  exact e_ret_i dX8_latest_11 rfl (Nat.le_of_ble_eq_true rfl) (Nat.le_of_ble_eq_true rfl) h
set_option maxRecDepth 100000 in
set_option maxHeartbeats 4000000 in
theorem wf_X8_enter {d : Nat} (hd : 1 ≤ d) {s : Nat} {a1 : Int} {K N : Nat → Nat} {I : Nat → Nat → Int} {P : Nat → Nat → Option Nat} {z : Nat} {Q : am_V → am_T} (h :
  K s = 8 ∧ ∀ I2, I2 = am_u2 I s 7 0 → am_C (d - 1) m_X8_in [am_i a1, am_i 10, am_i 400] K N I2 P z (fun v K3 N4 I5 P6 z7 => am_iv v fun x8 =>
    ((¬ x8 = 0 →
    K3 s = 8 ∧ am_C (d - 1) m_X8_latest [am_r s] K3 N4 I5 P6 z7 (fun v K9 N10 I11 P12 z13 => am_iv v fun x15 =>
      ((x15 = (-1) →
      K9 s = 8 ∧ am_C (d - 1) m_X8_onBelt [am_r s] K9 N10 I11 P12 z13 (fun v K16 N17 I18 P19 z20 => am_iv v fun x22 =>
        ((x22 = 20 →
        K16 s = 8 ∧ am_C (d - 1) m_X8_refuse [am_r s, am_i 2] K16 N17 I18 P19 z20 (fun v K23 N24 I25 P26 z27 => am_iv v fun x29 =>
          Q (am_i x29) K23 N24 I25 P26 z27) am_nx) ∧
        (¬ (x22 = 20) →
        K16 s = 8 ∧ ∃ b31, P19 s 0 = some b31 ∧ K16 b31 = 10 ∧ (0 ≤ (9 : Int) ∧ (9 : Int) < N17 b31) ∧ ((¬ I18 b31 9 = 300 →
          am_C (d - 1) m_X8_save [am_r s] K16 N17 I18 P19 z20 (fun _ K33 N34 I35 P36 z37 =>
            K33 s = 8 ∧ ∃ b39, P36 s 0 = some b39 ∧ K33 b39 = 10 ∧ (0 ≤ (9 : Int) ∧ (9 : Int) < N34 b39) ∧ (0 ≤ (9 : Int) ∧ (9 : Int) < N34 b39) ∧ (0 ≤ (9 : Int) ∧ (9 : Int) < N34 b39) ∧ ∀ I41, I41 = am_u2 I35 b39 (Int.toNat 9) (am_wr (I35 b39 9 + 1)) → (0 ≤ am_wr (200 + I35 b39 9) ∧ am_wr (200 + I35 b39 9) < N34 b39) ∧ ∀ I42, I42 = am_u2 I41 b39 (Int.toNat (am_wr (200 + I35 b39 9))) a1 → (0 ≤ am_wr (500 + I35 b39 9) ∧ am_wr (500 + I35 b39 9) < N34 b39) ∧ ∀ I43, I43 = am_u2 I42 b39 (Int.toNat (am_wr (500 + I35 b39 9))) 0 → (0 ≤ am_wr (800 + I35 b39 9) ∧ am_wr (800 + I35 b39 9) < N34 b39) ∧ ∀ I44, I44 = am_u2 I43 b39 (Int.toNat (am_wr (800 + I35 b39 9))) 0 → (0 ≤ am_wr (1100 + I35 b39 9) ∧ am_wr (1100 + I35 b39 9) < N34 b39) ∧ ∀ I45, I45 = am_u2 I44 b39 (Int.toNat (am_wr (1100 + I35 b39 9))) (-1) → (0 ≤ am_wr (1400 + I35 b39 9) ∧ am_wr (1400 + I35 b39 9) < N34 b39) ∧ ∀ I46, I46 = am_u2 I45 b39 (Int.toNat (am_wr (1400 + I35 b39 9))) 0 → (0 ≤ am_wr (1700 + I35 b39 9) ∧ am_wr (1700 + I35 b39 9) < N34 b39) ∧ ∀ I47, I47 = am_u2 I46 b39 (Int.toNat (am_wr (1700 + I35 b39 9))) 0 → (0 ≤ am_wr (2000 + I35 b39 9) ∧ am_wr (2000 + I35 b39 9) < N34 b39) ∧ ∀ I48, I48 = am_u2 I47 b39 (Int.toNat (am_wr (2000 + I35 b39 9))) 0 → (0 ≤ am_wr (2300 + I35 b39 9) ∧ am_wr (2300 + I35 b39 9) < N34 b39) ∧ ∀ I49, I49 = am_u2 I48 b39 (Int.toNat (am_wr (2300 + I35 b39 9))) 0 → (0 ≤ am_wr (2600 + I35 b39 9) ∧ am_wr (2600 + I35 b39 9) < N34 b39) ∧ ∀ I50, I50 = am_u2 I49 b39 (Int.toNat (am_wr (2600 + I35 b39 9))) 0 → (0 ≤ am_wr (2900 + I35 b39 9) ∧ am_wr (2900 + I35 b39 9) < N34 b39) ∧ ∀ I51, I51 = am_u2 I50 b39 (Int.toNat (am_wr (2900 + I35 b39 9))) 0 → ((x15 = (-1) →
            Q (am_i (I35 b39 9)) K33 N34 I51 P36 z37) ∧
            (¬ (x15 = (-1)) →
            am_C (d - 1) m_X8_tail [am_r s, am_i x15] K33 N34 I51 P36 z37 (fun v K52 N53 I54 P55 z56 => am_iv v fun x57 =>
              K52 s = 8 ∧ ∃ b59, P55 s 0 = some b59 ∧ K52 b59 = 10 ∧ (0 ≤ (6 : Int) ∧ (6 : Int) < N53 b59) ∧ ((I54 b59 6 ≤ x57 →
              Q (am_i (I35 b39 9)) K52 N53 I54 P55 z56) ∧
              (¬ (I54 b59 6 ≤ x57) →
              (0 ≤ am_wr (1700 + I35 b39 9) ∧ am_wr (1700 + I35 b39 9) < N53 b59) ∧ ∀ I61, I61 = am_u2 I54 b59 (Int.toNat (am_wr (1700 + I35 b39 9))) 1 → (0 ≤ am_wr (1700 + x15) ∧ am_wr (1700 + x15) < N53 b59) ∧ ∀ I62, I62 = am_u2 I61 b59 (Int.toNat (am_wr (1700 + x15))) 1 → Q (am_i (I35 b39 9)) K52 N53 I62 P55 z56))) am_nx))) am_nx) ∧
          (I18 b31 9 = 300 →
          am_C (d - 1) m_X8_refuse [am_r s, am_i 2] K16 N17 I18 P19 z20 (fun v K63 N64 I65 P66 z67 => am_iv v fun x68 =>
            Q (am_i x68) K63 N64 I65 P66 z67) am_nx))))) am_nx) ∧
      (¬ (x15 = (-1)) →
      K9 s = 8 ∧ am_C (d - 1) m_X8_tail [am_r s, am_i x15] K9 N10 I11 P12 z13 (fun v K69 N70 I71 P72 z73 => am_iv v fun x75 =>
        ((x75 < 0 →
        K69 s = 8 ∧ am_C (d - 1) m_X8_refuse [am_r s, am_i 2] K69 N70 I71 P72 z73 (fun v K76 N77 I78 P79 z80 => am_iv v fun x82 =>
          Q (am_i x82) K76 N77 I78 P79 z80) am_nx) ∧
        (¬ (x75 < 0) →
        K69 s = 8 ∧ am_C (d - 1) m_X8_onBelt [am_r s] K69 N70 I71 P72 z73 (fun v K83 N84 I85 P86 z87 => am_iv v fun x89 =>
          ((x89 = 20 →
          K83 s = 8 ∧ am_C (d - 1) m_X8_refuse [am_r s, am_i 2] K83 N84 I85 P86 z87 (fun v K90 N91 I92 P93 z94 => am_iv v fun x96 =>
            Q (am_i x96) K90 N91 I92 P93 z94) am_nx) ∧
          (¬ (x89 = 20) →
          K83 s = 8 ∧ ∃ b98, P86 s 0 = some b98 ∧ K83 b98 = 10 ∧ (0 ≤ (9 : Int) ∧ (9 : Int) < N84 b98) ∧ ((¬ I85 b98 9 = 300 →
            am_C (d - 1) m_X8_save [am_r s] K83 N84 I85 P86 z87 (fun _ K100 N101 I102 P103 z104 =>
              K100 s = 8 ∧ ∃ b106, P103 s 0 = some b106 ∧ K100 b106 = 10 ∧ (0 ≤ (9 : Int) ∧ (9 : Int) < N101 b106) ∧ (0 ≤ (9 : Int) ∧ (9 : Int) < N101 b106) ∧ (0 ≤ (9 : Int) ∧ (9 : Int) < N101 b106) ∧ ∀ I108, I108 = am_u2 I102 b106 (Int.toNat 9) (am_wr (I102 b106 9 + 1)) → (0 ≤ am_wr (200 + I102 b106 9) ∧ am_wr (200 + I102 b106 9) < N101 b106) ∧ ∀ I109, I109 = am_u2 I108 b106 (Int.toNat (am_wr (200 + I102 b106 9))) a1 → (0 ≤ am_wr (500 + I102 b106 9) ∧ am_wr (500 + I102 b106 9) < N101 b106) ∧ ∀ I110, I110 = am_u2 I109 b106 (Int.toNat (am_wr (500 + I102 b106 9))) 0 → (0 ≤ am_wr (800 + I102 b106 9) ∧ am_wr (800 + I102 b106 9) < N101 b106) ∧ ∀ I111, I111 = am_u2 I110 b106 (Int.toNat (am_wr (800 + I102 b106 9))) 0 → (0 ≤ am_wr (1100 + I102 b106 9) ∧ am_wr (1100 + I102 b106 9) < N101 b106) ∧ ∀ I112, I112 = am_u2 I111 b106 (Int.toNat (am_wr (1100 + I102 b106 9))) (-1) → (0 ≤ am_wr (1400 + I102 b106 9) ∧ am_wr (1400 + I102 b106 9) < N101 b106) ∧ ∀ I113, I113 = am_u2 I112 b106 (Int.toNat (am_wr (1400 + I102 b106 9))) 0 → (0 ≤ am_wr (1700 + I102 b106 9) ∧ am_wr (1700 + I102 b106 9) < N101 b106) ∧ ∀ I114, I114 = am_u2 I113 b106 (Int.toNat (am_wr (1700 + I102 b106 9))) 0 → (0 ≤ am_wr (2000 + I102 b106 9) ∧ am_wr (2000 + I102 b106 9) < N101 b106) ∧ ∀ I115, I115 = am_u2 I114 b106 (Int.toNat (am_wr (2000 + I102 b106 9))) 0 → (0 ≤ am_wr (2300 + I102 b106 9) ∧ am_wr (2300 + I102 b106 9) < N101 b106) ∧ ∀ I116, I116 = am_u2 I115 b106 (Int.toNat (am_wr (2300 + I102 b106 9))) 0 → (0 ≤ am_wr (2600 + I102 b106 9) ∧ am_wr (2600 + I102 b106 9) < N101 b106) ∧ ∀ I117, I117 = am_u2 I116 b106 (Int.toNat (am_wr (2600 + I102 b106 9))) 0 → (0 ≤ am_wr (2900 + I102 b106 9) ∧ am_wr (2900 + I102 b106 9) < N101 b106) ∧ ∀ I118, I118 = am_u2 I117 b106 (Int.toNat (am_wr (2900 + I102 b106 9))) 0 → ((x15 = (-1) →
              Q (am_i (I102 b106 9)) K100 N101 I118 P103 z104) ∧
              (¬ (x15 = (-1)) →
              am_C (d - 1) m_X8_tail [am_r s, am_i x15] K100 N101 I118 P103 z104 (fun v K119 N120 I121 P122 z123 => am_iv v fun x124 =>
                K119 s = 8 ∧ ∃ b126, P122 s 0 = some b126 ∧ K119 b126 = 10 ∧ (0 ≤ (6 : Int) ∧ (6 : Int) < N120 b126) ∧ ((I121 b126 6 ≤ x124 →
                Q (am_i (I102 b106 9)) K119 N120 I121 P122 z123) ∧
                (¬ (I121 b126 6 ≤ x124) →
                (0 ≤ am_wr (1700 + I102 b106 9) ∧ am_wr (1700 + I102 b106 9) < N120 b126) ∧ ∀ I128, I128 = am_u2 I121 b126 (Int.toNat (am_wr (1700 + I102 b106 9))) 1 → (0 ≤ am_wr (1700 + x15) ∧ am_wr (1700 + x15) < N120 b126) ∧ ∀ I129, I129 = am_u2 I128 b126 (Int.toNat (am_wr (1700 + x15))) 1 → Q (am_i (I102 b106 9)) K119 N120 I129 P122 z123))) am_nx))) am_nx) ∧
            (I85 b98 9 = 300 →
            am_C (d - 1) m_X8_refuse [am_r s, am_i 2] K83 N84 I85 P86 z87 (fun v K130 N131 I132 P133 z134 => am_iv v fun x135 =>
              Q (am_i x135) K130 N131 I132 P133 z134) am_nx))))) am_nx))) am_nx))) am_nx) ∧
    (x8 = 0 →
    K3 s = 8 ∧ am_C (d - 1) m_X8_refuse [am_r s, am_i 1] K3 N4 I5 P6 z7 (fun v K136 N137 I138 P139 z140 => am_iv v fun x142 =>
      Q (am_i x142) K136 N137 I138 P139 z140) am_nx))) am_nx) :
  am_C d m_X8_enter [am_r s, am_i a1] K N I P z Q am_nx := by
  refine am_C_of ok_X8_enter (fun v hv => am_v1all _ rfl v hv) (Nat.le_of_ble_eq_true rfl) ?_
  show am_E d m_X8_enter 0 0 0 [some (am_r s), some (am_i a1), none, none] [] K N I P z Q am_nx
  refine e_aload_n dX8_enter_0 rfl trivial ?_
  refine e_iconst dX8_enter_1 ?_
  obtain ⟨hK1, h⟩ := h
  refine e_puti dX8_enter_2 fk_X8_25 rfl (Or.inl rfl) hK1 ?_
  replace h := h _ rfl
  generalize am_u2 I s 7 0 = I2 at h ⊢
  refine e_iload_n dX8_enter_5 rfl ?_
  refine e_bipush dX8_enter_6 ?_
  refine e_sipush dX8_enter_8 ?_
  refine e_callS (Mc := m_X8_in) (vs := [am_i a1, am_i 10, am_i 400]) (st := []) dX8_enter_11 ok_X8_in rfl mk_X8_40 sm_X8_in rfl rfl (by omega) (Nat.le_of_ble_eq_true rfl) (Nat.le_of_ble_eq_true rfl) (Nat.le_of_ble_eq_true rfl) am_xh_nx (am_C_mono h (fun v K3 N4 I5 P6 z7 h => ?_) (fun _ _ _ _ _ _ h => h))
  replace h := am_iv_or h
  obtain ⟨x8, rfl, h⟩ := h
  show am_E d m_X8_enter 14 _ _ _ [am_i x8] K3 N4 I5 P6 z7 Q am_nx
  refine e_if_ne (tgt := 23) dX8_enter_14 (by decide) (fun hc => ?_) (fun hc => ?_)
  · replace h := h.1 hc
    refine e_aload_n dX8_enter_23 rfl trivial ?_
    obtain ⟨hK14, h⟩ := h
    refine e_callV (Mc := m_X8_latest) (vs := []) (st := []) dX8_enter_24 ok_X8_latest rfl ⟨by decide, rfl⟩ mk_X8_96 im_X8_latest sl_X8_latest rfl rfl hK14 (by omega) (Nat.le_of_ble_eq_true rfl) (Nat.le_of_ble_eq_true rfl) (Nat.le_of_ble_eq_true rfl) am_xh_nx (am_C_mono h (fun v K9 N10 I11 P12 z13 h => ?_) (fun _ _ _ _ _ _ h => h))
    replace h := am_iv_or h
    obtain ⟨x15, rfl, h⟩ := h
    show am_E d m_X8_enter 27 _ _ _ [am_i x15] K9 N10 I11 P12 z13 Q am_nx
    refine e_istore_n dX8_enter_27 ?_
    refine e_iload_n dX8_enter_28 rfl ?_
    refine e_iconst dX8_enter_29 ?_
    refine e_icmp_eq (tgt := 41) dX8_enter_30 (by decide) (fun hc => ?_) (fun hc => ?_)
    · replace h := h.1 hc
      refine e_aload_n dX8_enter_41 rfl trivial ?_
      obtain ⟨hK21, h⟩ := h
      refine e_callV (Mc := m_X8_onBelt) (vs := []) (st := []) dX8_enter_42 ok_X8_onBelt rfl ⟨by decide, rfl⟩ mk_X8_54 im_X8_onBelt sl_X8_onBelt rfl rfl hK21 (by omega) (Nat.le_of_ble_eq_true rfl) (Nat.le_of_ble_eq_true rfl) (Nat.le_of_ble_eq_true rfl) am_xh_nx (am_C_mono h (fun v K16 N17 I18 P19 z20 h => ?_) (fun _ _ _ _ _ _ h => h))
      replace h := am_iv_or h
      obtain ⟨x22, rfl, h⟩ := h
      show am_E d m_X8_enter 45 _ _ _ [am_i x22] K16 N17 I18 P19 z20 Q am_nx
      refine e_bipush dX8_enter_45 ?_
      refine e_icmp_eq (tgt := 63) dX8_enter_47 (by decide) (fun hc => ?_) (fun hc => ?_)
      · replace h := h.1 hc
        refine e_aload_n dX8_enter_63 rfl trivial ?_
        refine e_iconst dX8_enter_64 ?_
        obtain ⟨hK28, h⟩ := h
        refine e_callV (Mc := m_X8_refuse) (vs := [am_i 2]) (st := []) dX8_enter_65 ok_X8_refuse rfl ⟨by decide, rfl⟩ mk_X8_44 im_X8_refuse sl_X8_refuse rfl rfl hK28 (by omega) (Nat.le_of_ble_eq_true rfl) (Nat.le_of_ble_eq_true rfl) (Nat.le_of_ble_eq_true rfl) am_xh_nx (am_C_mono h (fun v K23 N24 I25 P26 z27 h => ?_) (fun _ _ _ _ _ _ h => h))
        replace h := am_iv_or h
        obtain ⟨x29, rfl, h⟩ := h
        show am_E d m_X8_enter 68 _ _ _ [am_i x29] K23 N24 I25 P26 z27 Q am_nx
        exact e_ret_i dX8_enter_68 rfl (Nat.le_of_ble_eq_true rfl) (Nat.le_of_ble_eq_true rfl) h
      · replace h := h.2 hc
        refine e_aload_n dX8_enter_50 rfl trivial ?_
        obtain ⟨hK30, h⟩ := h
        obtain ⟨b31, hb31, h⟩ := h
        refine e_getr1 dX8_enter_51 fk_X8_7 rfl hK30 hb31 ?_
        refine e_bipush dX8_enter_54 ?_
        obtain ⟨hK32, h⟩ := h
        obtain ⟨⟨h0, h1⟩, h⟩ := h
        refine e_iald dX8_enter_56 hK32 h0 h1 ?_
        show am_E _ _ _ _ _ _ (am_i (I18 b31 9) :: _) _ _ _ _ _ _ _
        refine e_sipush dX8_enter_57 ?_
        refine e_icmp_ne (tgt := 69) dX8_enter_60 (by decide) (fun hc => ?_) (fun hc => ?_)
        · replace h := h.1 hc
          refine e_aload_n dX8_enter_69 rfl trivial ?_
          refine e_callV (Mc := m_X8_save) (vs := []) (st := []) dX8_enter_70 ok_X8_save rfl ⟨by decide, rfl⟩ mk_X8_58 im_X8_save sl_X8_save rfl rfl hK30 (by omega) (Nat.le_of_ble_eq_true rfl) (Nat.le_of_ble_eq_true rfl) (Nat.le_of_ble_eq_true rfl) am_xh_nx (am_C_mono h (fun v K33 N34 I35 P36 z37 h => ?_) (fun _ _ _ _ _ _ h => h))
          show am_E d m_X8_enter 73 _ _ _ [] K33 N34 I35 P36 z37 Q am_nx
          refine e_aload_n dX8_enter_73 rfl trivial ?_
          obtain ⟨hK38, h⟩ := h
          obtain ⟨b39, hb39, h⟩ := h
          refine e_getr1 dX8_enter_74 fk_X8_7 rfl hK38 hb39 ?_
          refine e_bipush dX8_enter_77 ?_
          obtain ⟨hK40, h⟩ := h
          obtain ⟨⟨h0, h1⟩, h⟩ := h
          refine e_iald dX8_enter_79 hK40 h0 h1 ?_
          show am_E _ _ _ _ _ _ (am_i (I35 b39 9) :: _) _ _ _ _ _ _ _
          refine e_istore_n dX8_enter_80 ?_
          refine e_aload_n dX8_enter_81 rfl trivial ?_
          refine e_getr1 dX8_enter_82 fk_X8_7 rfl hK38 hb39 ?_
          refine e_bipush dX8_enter_85 ?_
          refine e_dup2 dX8_enter_87 rfl rfl ?_
          obtain ⟨⟨h0, h1⟩, h⟩ := h
          refine e_iald dX8_enter_88 hK40 h0 h1 ?_
          show am_E _ _ _ _ _ _ (am_i (I35 b39 9) :: _) _ _ _ _ _ _ _
          refine e_iconst dX8_enter_89 ?_
          refine e_iadd dX8_enter_90 ?_
          obtain ⟨⟨h0, h1⟩, h⟩ := h
          refine e_iast dX8_enter_91 hK40 h0 h1 ?_
          replace h := h _ rfl
          generalize am_u2 I35 b39 (Int.toNat 9) (am_wr (I35 b39 9 + 1)) = I41 at h ⊢
          refine e_aload_n dX8_enter_92 rfl trivial ?_
          refine e_getr1 dX8_enter_93 fk_X8_7 rfl hK38 hb39 ?_
          refine e_sipush dX8_enter_96 ?_
          refine e_iload_n dX8_enter_99 rfl ?_
          refine e_iadd dX8_enter_100 ?_
          refine e_iload_n dX8_enter_101 rfl ?_
          obtain ⟨⟨h0, h1⟩, h⟩ := h
          refine e_iast dX8_enter_102 hK40 h0 h1 ?_
          replace h := h _ rfl
          generalize am_u2 I41 b39 (Int.toNat (am_wr (200 + I35 b39 9))) a1 = I42 at h ⊢
          refine e_aload_n dX8_enter_103 rfl trivial ?_
          refine e_getr1 dX8_enter_104 fk_X8_7 rfl hK38 hb39 ?_
          refine e_sipush dX8_enter_107 ?_
          refine e_iload_n dX8_enter_110 rfl ?_
          refine e_iadd dX8_enter_111 ?_
          refine e_iconst dX8_enter_112 ?_
          obtain ⟨⟨h0, h1⟩, h⟩ := h
          refine e_iast dX8_enter_113 hK40 h0 h1 ?_
          replace h := h _ rfl
          generalize am_u2 I42 b39 (Int.toNat (am_wr (500 + I35 b39 9))) 0 = I43 at h ⊢
          refine e_aload_n dX8_enter_114 rfl trivial ?_
          refine e_getr1 dX8_enter_115 fk_X8_7 rfl hK38 hb39 ?_
          refine e_sipush dX8_enter_118 ?_
          refine e_iload_n dX8_enter_121 rfl ?_
          refine e_iadd dX8_enter_122 ?_
          refine e_iconst dX8_enter_123 ?_
          obtain ⟨⟨h0, h1⟩, h⟩ := h
          refine e_iast dX8_enter_124 hK40 h0 h1 ?_
          replace h := h _ rfl
          generalize am_u2 I43 b39 (Int.toNat (am_wr (800 + I35 b39 9))) 0 = I44 at h ⊢
          refine e_aload_n dX8_enter_125 rfl trivial ?_
          refine e_getr1 dX8_enter_126 fk_X8_7 rfl hK38 hb39 ?_
          refine e_sipush dX8_enter_129 ?_
          refine e_iload_n dX8_enter_132 rfl ?_
          refine e_iadd dX8_enter_133 ?_
          refine e_iconst dX8_enter_134 ?_
          obtain ⟨⟨h0, h1⟩, h⟩ := h
          refine e_iast dX8_enter_135 hK40 h0 h1 ?_
          replace h := h _ rfl
          generalize am_u2 I44 b39 (Int.toNat (am_wr (1100 + I35 b39 9))) (-1) = I45 at h ⊢
          refine e_aload_n dX8_enter_136 rfl trivial ?_
          refine e_getr1 dX8_enter_137 fk_X8_7 rfl hK38 hb39 ?_
          refine e_sipush dX8_enter_140 ?_
          refine e_iload_n dX8_enter_143 rfl ?_
          refine e_iadd dX8_enter_144 ?_
          refine e_iconst dX8_enter_145 ?_
          obtain ⟨⟨h0, h1⟩, h⟩ := h
          refine e_iast dX8_enter_146 hK40 h0 h1 ?_
          replace h := h _ rfl
          generalize am_u2 I45 b39 (Int.toNat (am_wr (1400 + I35 b39 9))) 0 = I46 at h ⊢
          refine e_aload_n dX8_enter_147 rfl trivial ?_
          refine e_getr1 dX8_enter_148 fk_X8_7 rfl hK38 hb39 ?_
          refine e_sipush dX8_enter_151 ?_
          refine e_iload_n dX8_enter_154 rfl ?_
          refine e_iadd dX8_enter_155 ?_
          refine e_iconst dX8_enter_156 ?_
          obtain ⟨⟨h0, h1⟩, h⟩ := h
          refine e_iast dX8_enter_157 hK40 h0 h1 ?_
          replace h := h _ rfl
          generalize am_u2 I46 b39 (Int.toNat (am_wr (1700 + I35 b39 9))) 0 = I47 at h ⊢
          refine e_aload_n dX8_enter_158 rfl trivial ?_
          refine e_getr1 dX8_enter_159 fk_X8_7 rfl hK38 hb39 ?_
          refine e_sipush dX8_enter_162 ?_
          refine e_iload_n dX8_enter_165 rfl ?_
          refine e_iadd dX8_enter_166 ?_
          refine e_iconst dX8_enter_167 ?_
          obtain ⟨⟨h0, h1⟩, h⟩ := h
          refine e_iast dX8_enter_168 hK40 h0 h1 ?_
          replace h := h _ rfl
          generalize am_u2 I47 b39 (Int.toNat (am_wr (2000 + I35 b39 9))) 0 = I48 at h ⊢
          refine e_aload_n dX8_enter_169 rfl trivial ?_
          refine e_getr1 dX8_enter_170 fk_X8_7 rfl hK38 hb39 ?_
          refine e_sipush dX8_enter_173 ?_
          refine e_iload_n dX8_enter_176 rfl ?_
          refine e_iadd dX8_enter_177 ?_
          refine e_iconst dX8_enter_178 ?_
          obtain ⟨⟨h0, h1⟩, h⟩ := h
          refine e_iast dX8_enter_179 hK40 h0 h1 ?_
          replace h := h _ rfl
          generalize am_u2 I48 b39 (Int.toNat (am_wr (2300 + I35 b39 9))) 0 = I49 at h ⊢
          refine e_aload_n dX8_enter_180 rfl trivial ?_
          refine e_getr1 dX8_enter_181 fk_X8_7 rfl hK38 hb39 ?_
          refine e_sipush dX8_enter_184 ?_
          refine e_iload_n dX8_enter_187 rfl ?_
          refine e_iadd dX8_enter_188 ?_
          refine e_iconst dX8_enter_189 ?_
          obtain ⟨⟨h0, h1⟩, h⟩ := h
          refine e_iast dX8_enter_190 hK40 h0 h1 ?_
          replace h := h _ rfl
          generalize am_u2 I49 b39 (Int.toNat (am_wr (2600 + I35 b39 9))) 0 = I50 at h ⊢
          refine e_aload_n dX8_enter_191 rfl trivial ?_
          refine e_getr1 dX8_enter_192 fk_X8_7 rfl hK38 hb39 ?_
          refine e_sipush dX8_enter_195 ?_
          refine e_iload_n dX8_enter_198 rfl ?_
          refine e_iadd dX8_enter_199 ?_
          refine e_iconst dX8_enter_200 ?_
          obtain ⟨⟨h0, h1⟩, h⟩ := h
          refine e_iast dX8_enter_201 hK40 h0 h1 ?_
          replace h := h _ rfl
          generalize am_u2 I50 b39 (Int.toNat (am_wr (2900 + I35 b39 9))) 0 = I51 at h ⊢
          refine e_iload_n dX8_enter_202 rfl ?_
          refine e_iconst dX8_enter_203 ?_
          refine e_icmp_eq (tgt := 244) dX8_enter_204 (by decide) (fun hc => ?_) (fun hc => ?_)
          · replace h := h.1 hc
            refine e_iload_n dX8_enter_244 rfl ?_
            exact e_ret_i dX8_enter_245 rfl (Nat.le_of_ble_eq_true rfl) (Nat.le_of_ble_eq_true rfl) h
          · replace h := h.2 hc
            refine e_aload_n dX8_enter_207 rfl trivial ?_
            refine e_iload_n dX8_enter_208 rfl ?_
            refine e_callV (Mc := m_X8_tail) (vs := [am_i x15]) (st := []) dX8_enter_209 ok_X8_tail rfl ⟨by decide, rfl⟩ mk_X8_99 im_X8_tail sl_X8_tail rfl rfl hK38 (by omega) (Nat.le_of_ble_eq_true rfl) (Nat.le_of_ble_eq_true rfl) (Nat.le_of_ble_eq_true rfl) am_xh_nx (am_C_mono h (fun v K52 N53 I54 P55 z56 h => ?_) (fun _ _ _ _ _ _ h => h))
            replace h := am_iv_or h
            obtain ⟨x57, rfl, h⟩ := h
            show am_E d m_X8_enter 212 _ _ _ [am_i x57] K52 N53 I54 P55 z56 Q am_nx
            refine e_aload_n dX8_enter_212 rfl trivial ?_
            obtain ⟨hK58, h⟩ := h
            obtain ⟨b59, hb59, h⟩ := h
            refine e_getr1 dX8_enter_213 fk_X8_7 rfl hK58 hb59 ?_
            refine e_bipush dX8_enter_216 ?_
            obtain ⟨hK60, h⟩ := h
            obtain ⟨⟨h0, h1⟩, h⟩ := h
            refine e_iald dX8_enter_218 hK60 h0 h1 ?_
            show am_E _ _ _ _ _ _ (am_i (I54 b59 6) :: _) _ _ _ _ _ _ _
            refine e_icmp_ge (tgt := 244) dX8_enter_219 (by decide) (fun hc => ?_) (fun hc => ?_)
            · replace h := h.1 hc
              refine e_iload_n dX8_enter_244 rfl ?_
              exact e_ret_i dX8_enter_245 rfl (Nat.le_of_ble_eq_true rfl) (Nat.le_of_ble_eq_true rfl) h
            · replace h := h.2 hc
              refine e_aload_n dX8_enter_222 rfl trivial ?_
              refine e_getr1 dX8_enter_223 fk_X8_7 rfl hK58 hb59 ?_
              refine e_sipush dX8_enter_226 ?_
              refine e_iload_n dX8_enter_229 rfl ?_
              refine e_iadd dX8_enter_230 ?_
              refine e_iconst dX8_enter_231 ?_
              obtain ⟨⟨h0, h1⟩, h⟩ := h
              refine e_iast dX8_enter_232 hK60 h0 h1 ?_
              replace h := h _ rfl
              generalize am_u2 I54 b59 (Int.toNat (am_wr (1700 + I35 b39 9))) 1 = I61 at h ⊢
              refine e_aload_n dX8_enter_233 rfl trivial ?_
              refine e_getr1 dX8_enter_234 fk_X8_7 rfl hK58 hb59 ?_
              refine e_sipush dX8_enter_237 ?_
              refine e_iload_n dX8_enter_240 rfl ?_
              refine e_iadd dX8_enter_241 ?_
              refine e_iconst dX8_enter_242 ?_
              obtain ⟨⟨h0, h1⟩, h⟩ := h
              refine e_iast dX8_enter_243 hK60 h0 h1 ?_
              replace h := h _ rfl
              generalize am_u2 I61 b59 (Int.toNat (am_wr (1700 + x15))) 1 = I62 at h ⊢
              refine e_iload_n dX8_enter_244 rfl ?_
              exact e_ret_i dX8_enter_245 rfl (Nat.le_of_ble_eq_true rfl) (Nat.le_of_ble_eq_true rfl) h
        · replace h := h.2 hc
          refine e_aload_n dX8_enter_63 rfl trivial ?_
          refine e_iconst dX8_enter_64 ?_
          refine e_callV (Mc := m_X8_refuse) (vs := [am_i 2]) (st := []) dX8_enter_65 ok_X8_refuse rfl ⟨by decide, rfl⟩ mk_X8_44 im_X8_refuse sl_X8_refuse rfl rfl hK30 (by omega) (Nat.le_of_ble_eq_true rfl) (Nat.le_of_ble_eq_true rfl) (Nat.le_of_ble_eq_true rfl) am_xh_nx (am_C_mono h (fun v K63 N64 I65 P66 z67 h => ?_) (fun _ _ _ _ _ _ h => h))
          replace h := am_iv_or h
          obtain ⟨x68, rfl, h⟩ := h
          show am_E d m_X8_enter 68 _ _ _ [am_i x68] K63 N64 I65 P66 z67 Q am_nx
          exact e_ret_i dX8_enter_68 rfl (Nat.le_of_ble_eq_true rfl) (Nat.le_of_ble_eq_true rfl) h
    · replace h := h.2 hc
      refine e_aload_n dX8_enter_33 rfl trivial ?_
      refine e_iload_n dX8_enter_34 rfl ?_
      obtain ⟨hK74, h⟩ := h
      refine e_callV (Mc := m_X8_tail) (vs := [am_i x15]) (st := []) dX8_enter_35 ok_X8_tail rfl ⟨by decide, rfl⟩ mk_X8_99 im_X8_tail sl_X8_tail rfl rfl hK74 (by omega) (Nat.le_of_ble_eq_true rfl) (Nat.le_of_ble_eq_true rfl) (Nat.le_of_ble_eq_true rfl) am_xh_nx (am_C_mono h (fun v K69 N70 I71 P72 z73 h => ?_) (fun _ _ _ _ _ _ h => h))
      replace h := am_iv_or h
      obtain ⟨x75, rfl, h⟩ := h
      show am_E d m_X8_enter 38 _ _ _ [am_i x75] K69 N70 I71 P72 z73 Q am_nx
      refine e_if_lt (tgt := 63) dX8_enter_38 (by decide) (fun hc => ?_) (fun hc => ?_)
      · replace h := h.1 hc
        refine e_aload_n dX8_enter_63 rfl trivial ?_
        refine e_iconst dX8_enter_64 ?_
        obtain ⟨hK81, h⟩ := h
        refine e_callV (Mc := m_X8_refuse) (vs := [am_i 2]) (st := []) dX8_enter_65 ok_X8_refuse rfl ⟨by decide, rfl⟩ mk_X8_44 im_X8_refuse sl_X8_refuse rfl rfl hK81 (by omega) (Nat.le_of_ble_eq_true rfl) (Nat.le_of_ble_eq_true rfl) (Nat.le_of_ble_eq_true rfl) am_xh_nx (am_C_mono h (fun v K76 N77 I78 P79 z80 h => ?_) (fun _ _ _ _ _ _ h => h))
        replace h := am_iv_or h
        obtain ⟨x82, rfl, h⟩ := h
        show am_E d m_X8_enter 68 _ _ _ [am_i x82] K76 N77 I78 P79 z80 Q am_nx
        exact e_ret_i dX8_enter_68 rfl (Nat.le_of_ble_eq_true rfl) (Nat.le_of_ble_eq_true rfl) h
      · replace h := h.2 hc
        refine e_aload_n dX8_enter_41 rfl trivial ?_
        obtain ⟨hK88, h⟩ := h
        refine e_callV (Mc := m_X8_onBelt) (vs := []) (st := []) dX8_enter_42 ok_X8_onBelt rfl ⟨by decide, rfl⟩ mk_X8_54 im_X8_onBelt sl_X8_onBelt rfl rfl hK88 (by omega) (Nat.le_of_ble_eq_true rfl) (Nat.le_of_ble_eq_true rfl) (Nat.le_of_ble_eq_true rfl) am_xh_nx (am_C_mono h (fun v K83 N84 I85 P86 z87 h => ?_) (fun _ _ _ _ _ _ h => h))
        replace h := am_iv_or h
        obtain ⟨x89, rfl, h⟩ := h
        show am_E d m_X8_enter 45 _ _ _ [am_i x89] K83 N84 I85 P86 z87 Q am_nx
        refine e_bipush dX8_enter_45 ?_
        refine e_icmp_eq (tgt := 63) dX8_enter_47 (by decide) (fun hc => ?_) (fun hc => ?_)
        · replace h := h.1 hc
          refine e_aload_n dX8_enter_63 rfl trivial ?_
          refine e_iconst dX8_enter_64 ?_
          obtain ⟨hK95, h⟩ := h
          refine e_callV (Mc := m_X8_refuse) (vs := [am_i 2]) (st := []) dX8_enter_65 ok_X8_refuse rfl ⟨by decide, rfl⟩ mk_X8_44 im_X8_refuse sl_X8_refuse rfl rfl hK95 (by omega) (Nat.le_of_ble_eq_true rfl) (Nat.le_of_ble_eq_true rfl) (Nat.le_of_ble_eq_true rfl) am_xh_nx (am_C_mono h (fun v K90 N91 I92 P93 z94 h => ?_) (fun _ _ _ _ _ _ h => h))
          replace h := am_iv_or h
          obtain ⟨x96, rfl, h⟩ := h
          show am_E d m_X8_enter 68 _ _ _ [am_i x96] K90 N91 I92 P93 z94 Q am_nx
          exact e_ret_i dX8_enter_68 rfl (Nat.le_of_ble_eq_true rfl) (Nat.le_of_ble_eq_true rfl) h
        · replace h := h.2 hc
          refine e_aload_n dX8_enter_50 rfl trivial ?_
          obtain ⟨hK97, h⟩ := h
          obtain ⟨b98, hb98, h⟩ := h
          refine e_getr1 dX8_enter_51 fk_X8_7 rfl hK97 hb98 ?_
          refine e_bipush dX8_enter_54 ?_
          obtain ⟨hK99, h⟩ := h
          obtain ⟨⟨h0, h1⟩, h⟩ := h
          refine e_iald dX8_enter_56 hK99 h0 h1 ?_
          show am_E _ _ _ _ _ _ (am_i (I85 b98 9) :: _) _ _ _ _ _ _ _
          refine e_sipush dX8_enter_57 ?_
          refine e_icmp_ne (tgt := 69) dX8_enter_60 (by decide) (fun hc => ?_) (fun hc => ?_)
          · replace h := h.1 hc
            refine e_aload_n dX8_enter_69 rfl trivial ?_
            refine e_callV (Mc := m_X8_save) (vs := []) (st := []) dX8_enter_70 ok_X8_save rfl ⟨by decide, rfl⟩ mk_X8_58 im_X8_save sl_X8_save rfl rfl hK97 (by omega) (Nat.le_of_ble_eq_true rfl) (Nat.le_of_ble_eq_true rfl) (Nat.le_of_ble_eq_true rfl) am_xh_nx (am_C_mono h (fun v K100 N101 I102 P103 z104 h => ?_) (fun _ _ _ _ _ _ h => h))
            show am_E d m_X8_enter 73 _ _ _ [] K100 N101 I102 P103 z104 Q am_nx
            refine e_aload_n dX8_enter_73 rfl trivial ?_
            obtain ⟨hK105, h⟩ := h
            obtain ⟨b106, hb106, h⟩ := h
            refine e_getr1 dX8_enter_74 fk_X8_7 rfl hK105 hb106 ?_
            refine e_bipush dX8_enter_77 ?_
            obtain ⟨hK107, h⟩ := h
            obtain ⟨⟨h0, h1⟩, h⟩ := h
            refine e_iald dX8_enter_79 hK107 h0 h1 ?_
            show am_E _ _ _ _ _ _ (am_i (I102 b106 9) :: _) _ _ _ _ _ _ _
            refine e_istore_n dX8_enter_80 ?_
            refine e_aload_n dX8_enter_81 rfl trivial ?_
            refine e_getr1 dX8_enter_82 fk_X8_7 rfl hK105 hb106 ?_
            refine e_bipush dX8_enter_85 ?_
            refine e_dup2 dX8_enter_87 rfl rfl ?_
            obtain ⟨⟨h0, h1⟩, h⟩ := h
            refine e_iald dX8_enter_88 hK107 h0 h1 ?_
            show am_E _ _ _ _ _ _ (am_i (I102 b106 9) :: _) _ _ _ _ _ _ _
            refine e_iconst dX8_enter_89 ?_
            refine e_iadd dX8_enter_90 ?_
            obtain ⟨⟨h0, h1⟩, h⟩ := h
            refine e_iast dX8_enter_91 hK107 h0 h1 ?_
            replace h := h _ rfl
            generalize am_u2 I102 b106 (Int.toNat 9) (am_wr (I102 b106 9 + 1)) = I108 at h ⊢
            refine e_aload_n dX8_enter_92 rfl trivial ?_
            refine e_getr1 dX8_enter_93 fk_X8_7 rfl hK105 hb106 ?_
            refine e_sipush dX8_enter_96 ?_
            refine e_iload_n dX8_enter_99 rfl ?_
            refine e_iadd dX8_enter_100 ?_
            refine e_iload_n dX8_enter_101 rfl ?_
            obtain ⟨⟨h0, h1⟩, h⟩ := h
            refine e_iast dX8_enter_102 hK107 h0 h1 ?_
            replace h := h _ rfl
            generalize am_u2 I108 b106 (Int.toNat (am_wr (200 + I102 b106 9))) a1 = I109 at h ⊢
            refine e_aload_n dX8_enter_103 rfl trivial ?_
            refine e_getr1 dX8_enter_104 fk_X8_7 rfl hK105 hb106 ?_
            refine e_sipush dX8_enter_107 ?_
            refine e_iload_n dX8_enter_110 rfl ?_
            refine e_iadd dX8_enter_111 ?_
            refine e_iconst dX8_enter_112 ?_
            obtain ⟨⟨h0, h1⟩, h⟩ := h
            refine e_iast dX8_enter_113 hK107 h0 h1 ?_
            replace h := h _ rfl
            generalize am_u2 I109 b106 (Int.toNat (am_wr (500 + I102 b106 9))) 0 = I110 at h ⊢
            refine e_aload_n dX8_enter_114 rfl trivial ?_
            refine e_getr1 dX8_enter_115 fk_X8_7 rfl hK105 hb106 ?_
            refine e_sipush dX8_enter_118 ?_
            refine e_iload_n dX8_enter_121 rfl ?_
            refine e_iadd dX8_enter_122 ?_
            refine e_iconst dX8_enter_123 ?_
            obtain ⟨⟨h0, h1⟩, h⟩ := h
            refine e_iast dX8_enter_124 hK107 h0 h1 ?_
            replace h := h _ rfl
            generalize am_u2 I110 b106 (Int.toNat (am_wr (800 + I102 b106 9))) 0 = I111 at h ⊢
            refine e_aload_n dX8_enter_125 rfl trivial ?_
            refine e_getr1 dX8_enter_126 fk_X8_7 rfl hK105 hb106 ?_
            refine e_sipush dX8_enter_129 ?_
            refine e_iload_n dX8_enter_132 rfl ?_
            refine e_iadd dX8_enter_133 ?_
            refine e_iconst dX8_enter_134 ?_
            obtain ⟨⟨h0, h1⟩, h⟩ := h
            refine e_iast dX8_enter_135 hK107 h0 h1 ?_
            replace h := h _ rfl
            generalize am_u2 I111 b106 (Int.toNat (am_wr (1100 + I102 b106 9))) (-1) = I112 at h ⊢
            refine e_aload_n dX8_enter_136 rfl trivial ?_
            refine e_getr1 dX8_enter_137 fk_X8_7 rfl hK105 hb106 ?_
            refine e_sipush dX8_enter_140 ?_
            refine e_iload_n dX8_enter_143 rfl ?_
            refine e_iadd dX8_enter_144 ?_
            refine e_iconst dX8_enter_145 ?_
            obtain ⟨⟨h0, h1⟩, h⟩ := h
            refine e_iast dX8_enter_146 hK107 h0 h1 ?_
            replace h := h _ rfl
            generalize am_u2 I112 b106 (Int.toNat (am_wr (1400 + I102 b106 9))) 0 = I113 at h ⊢
            refine e_aload_n dX8_enter_147 rfl trivial ?_
            refine e_getr1 dX8_enter_148 fk_X8_7 rfl hK105 hb106 ?_
            refine e_sipush dX8_enter_151 ?_
            refine e_iload_n dX8_enter_154 rfl ?_
            refine e_iadd dX8_enter_155 ?_
            refine e_iconst dX8_enter_156 ?_
            obtain ⟨⟨h0, h1⟩, h⟩ := h
            refine e_iast dX8_enter_157 hK107 h0 h1 ?_
            replace h := h _ rfl
            generalize am_u2 I113 b106 (Int.toNat (am_wr (1700 + I102 b106 9))) 0 = I114 at h ⊢
            refine e_aload_n dX8_enter_158 rfl trivial ?_
            refine e_getr1 dX8_enter_159 fk_X8_7 rfl hK105 hb106 ?_
            refine e_sipush dX8_enter_162 ?_
            refine e_iload_n dX8_enter_165 rfl ?_
            refine e_iadd dX8_enter_166 ?_
            refine e_iconst dX8_enter_167 ?_
            obtain ⟨⟨h0, h1⟩, h⟩ := h
            refine e_iast dX8_enter_168 hK107 h0 h1 ?_
            replace h := h _ rfl
            generalize am_u2 I114 b106 (Int.toNat (am_wr (2000 + I102 b106 9))) 0 = I115 at h ⊢
            refine e_aload_n dX8_enter_169 rfl trivial ?_
            refine e_getr1 dX8_enter_170 fk_X8_7 rfl hK105 hb106 ?_
            refine e_sipush dX8_enter_173 ?_
            refine e_iload_n dX8_enter_176 rfl ?_
            refine e_iadd dX8_enter_177 ?_
            refine e_iconst dX8_enter_178 ?_
            obtain ⟨⟨h0, h1⟩, h⟩ := h
            refine e_iast dX8_enter_179 hK107 h0 h1 ?_
            replace h := h _ rfl
            generalize am_u2 I115 b106 (Int.toNat (am_wr (2300 + I102 b106 9))) 0 = I116 at h ⊢
            refine e_aload_n dX8_enter_180 rfl trivial ?_
            refine e_getr1 dX8_enter_181 fk_X8_7 rfl hK105 hb106 ?_
            refine e_sipush dX8_enter_184 ?_
            refine e_iload_n dX8_enter_187 rfl ?_
            refine e_iadd dX8_enter_188 ?_
            refine e_iconst dX8_enter_189 ?_
            obtain ⟨⟨h0, h1⟩, h⟩ := h
            refine e_iast dX8_enter_190 hK107 h0 h1 ?_
            replace h := h _ rfl
            generalize am_u2 I116 b106 (Int.toNat (am_wr (2600 + I102 b106 9))) 0 = I117 at h ⊢
            refine e_aload_n dX8_enter_191 rfl trivial ?_
            refine e_getr1 dX8_enter_192 fk_X8_7 rfl hK105 hb106 ?_
            refine e_sipush dX8_enter_195 ?_
            refine e_iload_n dX8_enter_198 rfl ?_
            refine e_iadd dX8_enter_199 ?_
            refine e_iconst dX8_enter_200 ?_
            obtain ⟨⟨h0, h1⟩, h⟩ := h
            refine e_iast dX8_enter_201 hK107 h0 h1 ?_
            replace h := h _ rfl
            generalize am_u2 I117 b106 (Int.toNat (am_wr (2900 + I102 b106 9))) 0 = I118 at h ⊢
            refine e_iload_n dX8_enter_202 rfl ?_
            refine e_iconst dX8_enter_203 ?_
            refine e_icmp_eq (tgt := 244) dX8_enter_204 (by decide) (fun hc => ?_) (fun hc => ?_)
            · replace h := h.1 hc
              refine e_iload_n dX8_enter_244 rfl ?_
              exact e_ret_i dX8_enter_245 rfl (Nat.le_of_ble_eq_true rfl) (Nat.le_of_ble_eq_true rfl) h
            · replace h := h.2 hc
              refine e_aload_n dX8_enter_207 rfl trivial ?_
              refine e_iload_n dX8_enter_208 rfl ?_
              refine e_callV (Mc := m_X8_tail) (vs := [am_i x15]) (st := []) dX8_enter_209 ok_X8_tail rfl ⟨by decide, rfl⟩ mk_X8_99 im_X8_tail sl_X8_tail rfl rfl hK105 (by omega) (Nat.le_of_ble_eq_true rfl) (Nat.le_of_ble_eq_true rfl) (Nat.le_of_ble_eq_true rfl) am_xh_nx (am_C_mono h (fun v K119 N120 I121 P122 z123 h => ?_) (fun _ _ _ _ _ _ h => h))
              replace h := am_iv_or h
              obtain ⟨x124, rfl, h⟩ := h
              show am_E d m_X8_enter 212 _ _ _ [am_i x124] K119 N120 I121 P122 z123 Q am_nx
              refine e_aload_n dX8_enter_212 rfl trivial ?_
              obtain ⟨hK125, h⟩ := h
              obtain ⟨b126, hb126, h⟩ := h
              refine e_getr1 dX8_enter_213 fk_X8_7 rfl hK125 hb126 ?_
              refine e_bipush dX8_enter_216 ?_
              obtain ⟨hK127, h⟩ := h
              obtain ⟨⟨h0, h1⟩, h⟩ := h
              refine e_iald dX8_enter_218 hK127 h0 h1 ?_
              show am_E _ _ _ _ _ _ (am_i (I121 b126 6) :: _) _ _ _ _ _ _ _
              refine e_icmp_ge (tgt := 244) dX8_enter_219 (by decide) (fun hc => ?_) (fun hc => ?_)
              · replace h := h.1 hc
                refine e_iload_n dX8_enter_244 rfl ?_
                exact e_ret_i dX8_enter_245 rfl (Nat.le_of_ble_eq_true rfl) (Nat.le_of_ble_eq_true rfl) h
              · replace h := h.2 hc
                refine e_aload_n dX8_enter_222 rfl trivial ?_
                refine e_getr1 dX8_enter_223 fk_X8_7 rfl hK125 hb126 ?_
                refine e_sipush dX8_enter_226 ?_
                refine e_iload_n dX8_enter_229 rfl ?_
                refine e_iadd dX8_enter_230 ?_
                refine e_iconst dX8_enter_231 ?_
                obtain ⟨⟨h0, h1⟩, h⟩ := h
                refine e_iast dX8_enter_232 hK127 h0 h1 ?_
                replace h := h _ rfl
                generalize am_u2 I121 b126 (Int.toNat (am_wr (1700 + I102 b106 9))) 1 = I128 at h ⊢
                refine e_aload_n dX8_enter_233 rfl trivial ?_
                refine e_getr1 dX8_enter_234 fk_X8_7 rfl hK125 hb126 ?_
                refine e_sipush dX8_enter_237 ?_
                refine e_iload_n dX8_enter_240 rfl ?_
                refine e_iadd dX8_enter_241 ?_
                refine e_iconst dX8_enter_242 ?_
                obtain ⟨⟨h0, h1⟩, h⟩ := h
                refine e_iast dX8_enter_243 hK127 h0 h1 ?_
                replace h := h _ rfl
                generalize am_u2 I128 b126 (Int.toNat (am_wr (1700 + x15))) 1 = I129 at h ⊢
                refine e_iload_n dX8_enter_244 rfl ?_
                exact e_ret_i dX8_enter_245 rfl (Nat.le_of_ble_eq_true rfl) (Nat.le_of_ble_eq_true rfl) h
          · replace h := h.2 hc
            refine e_aload_n dX8_enter_63 rfl trivial ?_
            refine e_iconst dX8_enter_64 ?_
            refine e_callV (Mc := m_X8_refuse) (vs := [am_i 2]) (st := []) dX8_enter_65 ok_X8_refuse rfl ⟨by decide, rfl⟩ mk_X8_44 im_X8_refuse sl_X8_refuse rfl rfl hK97 (by omega) (Nat.le_of_ble_eq_true rfl) (Nat.le_of_ble_eq_true rfl) (Nat.le_of_ble_eq_true rfl) am_xh_nx (am_C_mono h (fun v K130 N131 I132 P133 z134 h => ?_) (fun _ _ _ _ _ _ h => h))
            replace h := am_iv_or h
            obtain ⟨x135, rfl, h⟩ := h
            show am_E d m_X8_enter 68 _ _ _ [am_i x135] K130 N131 I132 P133 z134 Q am_nx
            exact e_ret_i dX8_enter_68 rfl (Nat.le_of_ble_eq_true rfl) (Nat.le_of_ble_eq_true rfl) h
  · replace h := h.2 hc
    refine e_aload_n dX8_enter_17 rfl trivial ?_
    refine e_iconst dX8_enter_18 ?_
    obtain ⟨hK141, h⟩ := h
    refine e_callV (Mc := m_X8_refuse) (vs := [am_i 1]) (st := []) dX8_enter_19 ok_X8_refuse rfl ⟨by decide, rfl⟩ mk_X8_44 im_X8_refuse sl_X8_refuse rfl rfl hK141 (by omega) (Nat.le_of_ble_eq_true rfl) (Nat.le_of_ble_eq_true rfl) (Nat.le_of_ble_eq_true rfl) am_xh_nx (am_C_mono h (fun v K136 N137 I138 P139 z140 h => ?_) (fun _ _ _ _ _ _ h => h))
    replace h := am_iv_or h
    obtain ⟨x142, rfl, h⟩ := h
    show am_E d m_X8_enter 22 _ _ _ [am_i x142] K136 N137 I138 P139 z140 Q am_nx
    exact e_ret_i dX8_enter_22 rfl (Nat.le_of_ble_eq_true rfl) (Nat.le_of_ble_eq_true rfl) h
def L_X8_caster_4 (d : Nat) (l0 : Nat) (l1 : Int) (l2 : Int) (K N : Nat → Nat) (I : Nat → Nat → Int) (P : Nat → Nat → Option Nat) (z : Nat) (Q : am_V → am_T) : Prop := am_E d m_X8_caster 4 0 0 [some (am_r l0), some (am_i l1), some (am_i l2), none] [] K N I P z Q am_nx
set_option maxRecDepth 100000 in
set_option maxHeartbeats 4000000 in
theorem wf_X8_caster {d : Nat} {s : Nat} {K N : Nat → Nat} {I : Nat → Nat → Int} {P : Nat → Nat → Option Nat} {z : Nat} {Q : am_V → am_T} (h :
  L_X8_caster_4 d s (-1) 0 K N I P z Q) :
  am_C d m_X8_caster [am_r s] K N I P z Q am_nx := by
  refine am_C_of ok_X8_caster (fun v hv => am_v1all _ rfl v hv) (Nat.le_of_ble_eq_true rfl) ?_
  show am_E d m_X8_caster 0 0 0 [some (am_r s), none, none, none] [] K N I P z Q am_nx
  refine e_iconst dX8_caster_0 ?_
  refine e_istore_n dX8_caster_1 ?_
  refine e_iconst dX8_caster_2 ?_
  refine e_istore_n dX8_caster_3 ?_
  exact e_forget (am_sub_k (am_sub_k (am_sub_k (am_sub_d am_sub_nil)))) h
set_option maxRecDepth 100000 in
set_option maxHeartbeats 4000000 in
theorem wf_X8_caster_4 {d : Nat} (hd : 1 ≤ d) {l0 : Nat} {l1 : Int} {l2 : Int} {K N : Nat → Nat} {I : Nat → Nat → Int} {P : Nat → Nat → Option Nat} {z : Nat} {Q : am_V → am_T} (h :
  K l0 = 8 ∧ ∃ b2, P l0 0 = some b2 ∧ K b2 = 10 ∧ (0 ≤ (9 : Int) ∧ (9 : Int) < N b2) ∧ ((I b2 9 ≤ l2 →
    Q (am_i l1) K N I P z) ∧
    (¬ (I b2 9 ≤ l2) →
    am_C (d - 1) m_X8_isOn [am_r l0, am_i l2] K N I P z (fun v K4 N5 I6 P7 z8 => am_iv v fun x9 =>
      ((x9 = 0 →
      L_X8_caster_4 d l0 l1 (am_wr (l2 + 1)) K4 N5 I6 P7 z8 Q) ∧
      (¬ (x9 = 0) →
      K4 l0 = 8 ∧ am_C (d - 1) m_X8_tail [am_r l0, am_i l2] K4 N5 I6 P7 z8 (fun v K10 N11 I12 P13 z14 => am_iv v fun x16 =>
        K10 l0 = 8 ∧ ∃ b18, P13 l0 0 = some b18 ∧ K10 b18 = 10 ∧ (0 ≤ (1 : Int) ∧ (1 : Int) < N11 b18) ∧ ((x16 < I12 b18 1 →
        L_X8_caster_4 d l0 l1 (am_wr (l2 + 1)) K10 N11 I12 P13 z14 Q) ∧
        (¬ (x16 < I12 b18 1) →
        am_C (d - 1) m_X8_tail [am_r l0, am_i l2] K10 N11 I12 P13 z14 (fun v K20 N21 I22 P23 z24 => am_iv v fun x25 =>
          K20 l0 = 8 ∧ ∃ b27, P23 l0 0 = some b27 ∧ K20 b27 = 10 ∧ (0 ≤ (1 : Int) ∧ (1 : Int) < N21 b27) ∧ (0 ≤ (2 : Int) ∧ (2 : Int) < N21 b27) ∧ ((am_wr (I22 b27 1 + I22 b27 2) ≤ x25 →
          L_X8_caster_4 d l0 l1 (am_wr (l2 + 1)) K20 N21 I22 P23 z24 Q) ∧
          (¬ (am_wr (I22 b27 1 + I22 b27 2) ≤ x25) →
          ((l1 = (-1) →
            L_X8_caster_4 d l0 l2 (am_wr (l2 + 1)) K20 N21 I22 P23 z24 Q) ∧
            (¬ (l1 = (-1)) →
            am_C (d - 1) m_X8_tail [am_r l0, am_i l2] K20 N21 I22 P23 z24 (fun v K29 N30 I31 P32 z33 => am_iv v fun x34 =>
              K29 l0 = 8 ∧ am_C (d - 1) m_X8_tail [am_r l0, am_i l1] K29 N30 I31 P32 z33 (fun v K35 N36 I37 P38 z39 => am_iv v fun x41 =>
              ((x41 ≤ x34 →
              L_X8_caster_4 d l0 l1 (am_wr (l2 + 1)) K35 N36 I37 P38 z39 Q) ∧
              (¬ (x41 ≤ x34) →
              L_X8_caster_4 d l0 l2 (am_wr (l2 + 1)) K35 N36 I37 P38 z39 Q))) am_nx) am_nx))))) am_nx))) am_nx))) am_nx))) :
  L_X8_caster_4 d l0 l1 l2 K N I P z Q := by
  unfold L_X8_caster_4
  refine e_iload_n dX8_caster_4 rfl ?_
  refine e_aload_n dX8_caster_5 rfl trivial ?_
  obtain ⟨hK1, h⟩ := h
  obtain ⟨b2, hb2, h⟩ := h
  refine e_getr1 dX8_caster_6 fk_X8_7 rfl hK1 hb2 ?_
  refine e_bipush dX8_caster_9 ?_
  obtain ⟨hK3, h⟩ := h
  obtain ⟨⟨h0, h1⟩, h⟩ := h
  refine e_iald dX8_caster_11 hK3 h0 h1 ?_
  show am_E _ _ _ _ _ _ (am_i (I b2 9) :: _) _ _ _ _ _ _ _
  refine e_icmp_ge (tgt := 98) dX8_caster_12 (by decide) (fun hc => ?_) (fun hc => ?_)
  · replace h := h.1 hc
    refine e_iload_n dX8_caster_98 rfl ?_
    exact e_ret_i dX8_caster_99 rfl (Nat.le_of_ble_eq_true rfl) (Nat.le_of_ble_eq_true rfl) h
  · replace h := h.2 hc
    refine e_aload_n dX8_caster_15 rfl trivial ?_
    refine e_iload_n dX8_caster_16 rfl ?_
    refine e_callV (Mc := m_X8_isOn) (vs := [am_i l2]) (st := []) dX8_caster_17 ok_X8_isOn rfl ⟨by decide, rfl⟩ mk_X8_32 im_X8_isOn sl_X8_isOn rfl rfl hK1 (by omega) (Nat.le_of_ble_eq_true rfl) (Nat.le_of_ble_eq_true rfl) (Nat.le_of_ble_eq_true rfl) am_xh_nx (am_C_mono h (fun v K4 N5 I6 P7 z8 h => ?_) (fun _ _ _ _ _ _ h => h))
    replace h := am_iv_or h
    obtain ⟨x9, rfl, h⟩ := h
    show am_E d m_X8_caster 20 _ _ _ [am_i x9] K4 N5 I6 P7 z8 Q am_nx
    refine e_if_eq (tgt := 62) dX8_caster_20 (by decide) (fun hc => ?_) (fun hc => ?_)
    · replace h := h.1 hc
      refine e_iconst dX8_caster_62 ?_
      refine e_istore_n dX8_caster_63 ?_
      refine e_iload_n dX8_caster_64 rfl ?_
      refine e_if_eq (tgt := 90) dX8_caster_65 (by decide) (fun _ => ?_) (fun q => absurd q (by decide))
      refine e_iload_n dX8_caster_90 rfl ?_
      refine e_istore_n dX8_caster_91 ?_
      refine e_iinc dX8_caster_92 rfl ?_
      refine e_goto (tgt := 4) dX8_caster_95 (by decide) ?_
      exact e_forget (am_sub_k (am_sub_k (am_sub_k (am_sub_d am_sub_nil)))) h
    · replace h := h.2 hc
      refine e_aload_n dX8_caster_23 rfl trivial ?_
      refine e_iload_n dX8_caster_24 rfl ?_
      obtain ⟨hK15, h⟩ := h
      refine e_callV (Mc := m_X8_tail) (vs := [am_i l2]) (st := []) dX8_caster_25 ok_X8_tail rfl ⟨by decide, rfl⟩ mk_X8_99 im_X8_tail sl_X8_tail rfl rfl hK15 (by omega) (Nat.le_of_ble_eq_true rfl) (Nat.le_of_ble_eq_true rfl) (Nat.le_of_ble_eq_true rfl) am_xh_nx (am_C_mono h (fun v K10 N11 I12 P13 z14 h => ?_) (fun _ _ _ _ _ _ h => h))
      replace h := am_iv_or h
      obtain ⟨x16, rfl, h⟩ := h
      show am_E d m_X8_caster 28 _ _ _ [am_i x16] K10 N11 I12 P13 z14 Q am_nx
      refine e_aload_n dX8_caster_28 rfl trivial ?_
      obtain ⟨hK17, h⟩ := h
      obtain ⟨b18, hb18, h⟩ := h
      refine e_getr1 dX8_caster_29 fk_X8_7 rfl hK17 hb18 ?_
      refine e_iconst dX8_caster_32 ?_
      obtain ⟨hK19, h⟩ := h
      obtain ⟨⟨h0, h1⟩, h⟩ := h
      refine e_iald dX8_caster_33 hK19 h0 h1 ?_
      show am_E _ _ _ _ _ _ (am_i (I12 b18 1) :: _) _ _ _ _ _ _ _
      refine e_icmp_lt (tgt := 62) dX8_caster_34 (by decide) (fun hc => ?_) (fun hc => ?_)
      · replace h := h.1 hc
        refine e_iconst dX8_caster_62 ?_
        refine e_istore_n dX8_caster_63 ?_
        refine e_iload_n dX8_caster_64 rfl ?_
        refine e_if_eq (tgt := 90) dX8_caster_65 (by decide) (fun _ => ?_) (fun q => absurd q (by decide))
        refine e_iload_n dX8_caster_90 rfl ?_
        refine e_istore_n dX8_caster_91 ?_
        refine e_iinc dX8_caster_92 rfl ?_
        refine e_goto (tgt := 4) dX8_caster_95 (by decide) ?_
        exact e_forget (am_sub_k (am_sub_k (am_sub_k (am_sub_d am_sub_nil)))) h
      · replace h := h.2 hc
        refine e_aload_n dX8_caster_37 rfl trivial ?_
        refine e_iload_n dX8_caster_38 rfl ?_
        refine e_callV (Mc := m_X8_tail) (vs := [am_i l2]) (st := []) dX8_caster_39 ok_X8_tail rfl ⟨by decide, rfl⟩ mk_X8_99 im_X8_tail sl_X8_tail rfl rfl hK17 (by omega) (Nat.le_of_ble_eq_true rfl) (Nat.le_of_ble_eq_true rfl) (Nat.le_of_ble_eq_true rfl) am_xh_nx (am_C_mono h (fun v K20 N21 I22 P23 z24 h => ?_) (fun _ _ _ _ _ _ h => h))
        replace h := am_iv_or h
        obtain ⟨x25, rfl, h⟩ := h
        show am_E d m_X8_caster 42 _ _ _ [am_i x25] K20 N21 I22 P23 z24 Q am_nx
        refine e_aload_n dX8_caster_42 rfl trivial ?_
        obtain ⟨hK26, h⟩ := h
        obtain ⟨b27, hb27, h⟩ := h
        refine e_getr1 dX8_caster_43 fk_X8_7 rfl hK26 hb27 ?_
        refine e_iconst dX8_caster_46 ?_
        obtain ⟨hK28, h⟩ := h
        obtain ⟨⟨h0, h1⟩, h⟩ := h
        refine e_iald dX8_caster_47 hK28 h0 h1 ?_
        show am_E _ _ _ _ _ _ (am_i (I22 b27 1) :: _) _ _ _ _ _ _ _
        refine e_aload_n dX8_caster_48 rfl trivial ?_
        refine e_getr1 dX8_caster_49 fk_X8_7 rfl hK26 hb27 ?_
        refine e_iconst dX8_caster_52 ?_
        obtain ⟨⟨h0, h1⟩, h⟩ := h
        refine e_iald dX8_caster_53 hK28 h0 h1 ?_
        show am_E _ _ _ _ _ _ (am_i (I22 b27 2) :: _) _ _ _ _ _ _ _
        refine e_iadd dX8_caster_54 ?_
        refine e_icmp_ge (tgt := 62) dX8_caster_55 (by decide) (fun hc => ?_) (fun hc => ?_)
        · replace h := h.1 hc
          refine e_iconst dX8_caster_62 ?_
          refine e_istore_n dX8_caster_63 ?_
          refine e_iload_n dX8_caster_64 rfl ?_
          refine e_if_eq (tgt := 90) dX8_caster_65 (by decide) (fun _ => ?_) (fun q => absurd q (by decide))
          refine e_iload_n dX8_caster_90 rfl ?_
          refine e_istore_n dX8_caster_91 ?_
          refine e_iinc dX8_caster_92 rfl ?_
          refine e_goto (tgt := 4) dX8_caster_95 (by decide) ?_
          exact e_forget (am_sub_k (am_sub_k (am_sub_k (am_sub_d am_sub_nil)))) h
        · replace h := h.2 hc
          refine e_iconst dX8_caster_58 ?_
          refine e_goto (tgt := 63) dX8_caster_59 (by decide) ?_
          refine e_istore_n dX8_caster_63 ?_
          refine e_iload_n dX8_caster_64 rfl ?_
          refine e_if_eq (tgt := 90) dX8_caster_65 (by decide) (fun q => absurd q (by decide)) (fun _ => ?_)
          refine e_iload_n dX8_caster_68 rfl ?_
          refine e_iconst dX8_caster_69 ?_
          refine e_icmp_eq (tgt := 86) dX8_caster_70 (by decide) (fun hc => ?_) (fun hc => ?_)
          · replace h := h.1 hc
            refine e_iload_n dX8_caster_86 rfl ?_
            refine e_goto (tgt := 91) dX8_caster_87 (by decide) ?_
            refine e_istore_n dX8_caster_91 ?_
            refine e_iinc dX8_caster_92 rfl ?_
            refine e_goto (tgt := 4) dX8_caster_95 (by decide) ?_
            exact e_forget (am_sub_k (am_sub_k (am_sub_k (am_sub_d am_sub_nil)))) h
          · replace h := h.2 hc
            refine e_aload_n dX8_caster_73 rfl trivial ?_
            refine e_iload_n dX8_caster_74 rfl ?_
            refine e_callV (Mc := m_X8_tail) (vs := [am_i l2]) (st := []) dX8_caster_75 ok_X8_tail rfl ⟨by decide, rfl⟩ mk_X8_99 im_X8_tail sl_X8_tail rfl rfl hK26 (by omega) (Nat.le_of_ble_eq_true rfl) (Nat.le_of_ble_eq_true rfl) (Nat.le_of_ble_eq_true rfl) am_xh_nx (am_C_mono h (fun v K29 N30 I31 P32 z33 h => ?_) (fun _ _ _ _ _ _ h => h))
            replace h := am_iv_or h
            obtain ⟨x34, rfl, h⟩ := h
            show am_E d m_X8_caster 78 _ _ _ [am_i x34] K29 N30 I31 P32 z33 Q am_nx
            refine e_aload_n dX8_caster_78 rfl trivial ?_
            refine e_iload_n dX8_caster_79 rfl ?_
            obtain ⟨hK40, h⟩ := h
            refine e_callV (Mc := m_X8_tail) (vs := [am_i l1]) (st := [am_i x34]) dX8_caster_80 ok_X8_tail rfl ⟨by decide, rfl⟩ mk_X8_99 im_X8_tail sl_X8_tail rfl rfl hK40 (by omega) (Nat.le_of_ble_eq_true rfl) (Nat.le_of_ble_eq_true rfl) (Nat.le_of_ble_eq_true rfl) am_xh_nx (am_C_mono h (fun v K35 N36 I37 P38 z39 h => ?_) (fun _ _ _ _ _ _ h => h))
            replace h := am_iv_or h
            obtain ⟨x41, rfl, h⟩ := h
            show am_E d m_X8_caster 83 _ _ _ [am_i x41, am_i x34] K35 N36 I37 P38 z39 Q am_nx
            refine e_icmp_ge (tgt := 90) dX8_caster_83 (by decide) (fun hc => ?_) (fun hc => ?_)
            · replace h := h.1 hc
              refine e_iload_n dX8_caster_90 rfl ?_
              refine e_istore_n dX8_caster_91 ?_
              refine e_iinc dX8_caster_92 rfl ?_
              refine e_goto (tgt := 4) dX8_caster_95 (by decide) ?_
              exact e_forget (am_sub_k (am_sub_k (am_sub_k (am_sub_d am_sub_nil)))) h
            · replace h := h.2 hc
              refine e_iload_n dX8_caster_86 rfl ?_
              refine e_goto (tgt := 91) dX8_caster_87 (by decide) ?_
              refine e_istore_n dX8_caster_91 ?_
              refine e_iinc dX8_caster_92 rfl ?_
              refine e_goto (tgt := 4) dX8_caster_95 (by decide) ?_
              exact e_forget (am_sub_k (am_sub_k (am_sub_k (am_sub_d am_sub_nil)))) h
def L_X8_atScanner_4 (d : Nat) (l0 : Nat) (l1 : Int) (l2 : Int) (K N : Nat → Nat) (I : Nat → Nat → Int) (P : Nat → Nat → Option Nat) (z : Nat) (Q : am_V → am_T) : Prop := am_E d m_X8_atScanner 4 0 0 [some (am_r l0), some (am_i l1), some (am_i l2)] [] K N I P z Q am_nx
set_option maxRecDepth 100000 in
set_option maxHeartbeats 4000000 in
theorem wf_X8_atScanner {d : Nat} {s : Nat} {K N : Nat → Nat} {I : Nat → Nat → Int} {P : Nat → Nat → Option Nat} {z : Nat} {Q : am_V → am_T} (h :
  L_X8_atScanner_4 d s (-1) 0 K N I P z Q) :
  am_C d m_X8_atScanner [am_r s] K N I P z Q am_nx := by
  refine am_C_of ok_X8_atScanner (fun v hv => am_v1all _ rfl v hv) (Nat.le_of_ble_eq_true rfl) ?_
  show am_E d m_X8_atScanner 0 0 0 [some (am_r s), none, none] [] K N I P z Q am_nx
  refine e_iconst dX8_atScanner_0 ?_
  refine e_istore_n dX8_atScanner_1 ?_
  refine e_iconst dX8_atScanner_2 ?_
  refine e_istore_n dX8_atScanner_3 ?_
  exact e_forget (am_sub_k (am_sub_k (am_sub_k am_sub_nil))) h
set_option maxRecDepth 100000 in
set_option maxHeartbeats 4000000 in
theorem wf_X8_atScanner_4 {d : Nat} (hd : 1 ≤ d) {l0 : Nat} {l1 : Int} {l2 : Int} {K N : Nat → Nat} {I : Nat → Nat → Int} {P : Nat → Nat → Option Nat} {z : Nat} {Q : am_V → am_T} (h :
  K l0 = 8 ∧ ∃ b2, P l0 0 = some b2 ∧ K b2 = 10 ∧ (0 ≤ (9 : Int) ∧ (9 : Int) < N b2) ∧ ((I b2 9 ≤ l2 →
    Q (am_i l1) K N I P z) ∧
    (¬ (I b2 9 ≤ l2) →
    am_C (d - 1) m_X8_isOn [am_r l0, am_i l2] K N I P z (fun v K4 N5 I6 P7 z8 => am_iv v fun x9 =>
      ((x9 = 0 →
      L_X8_atScanner_4 d l0 l1 (am_wr (l2 + 1)) K4 N5 I6 P7 z8 Q) ∧
      (¬ (x9 = 0) →
      K4 l0 = 8 ∧ am_C (d - 1) m_X8_tail [am_r l0, am_i l2] K4 N5 I6 P7 z8 (fun v K10 N11 I12 P13 z14 => am_iv v fun x16 =>
        K10 l0 = 8 ∧ ∃ b18, P13 l0 0 = some b18 ∧ K10 b18 = 10 ∧ (0 ≤ (1 : Int) ∧ (1 : Int) < N11 b18) ∧ ((I12 b18 1 ≤ x16 →
        L_X8_atScanner_4 d l0 l1 (am_wr (l2 + 1)) K10 N11 I12 P13 z14 Q) ∧
        (¬ (I12 b18 1 ≤ x16) →
        (0 ≤ am_wr (500 + l2) ∧ am_wr (500 + l2) < N11 b18) ∧ (0 ≤ (1 : Int) ∧ (1 : Int) < N11 b18) ∧ ((I12 b18 (Int.toNat (am_wr (500 + l2))) < I12 b18 1 →
          L_X8_atScanner_4 d l0 l1 (am_wr (l2 + 1)) K10 N11 I12 P13 z14 Q) ∧
          (¬ (I12 b18 (Int.toNat (am_wr (500 + l2))) < I12 b18 1) →
          L_X8_atScanner_4 d l0 l2 (am_wr (l2 + 1)) K10 N11 I12 P13 z14 Q))))) am_nx))) am_nx))) :
  L_X8_atScanner_4 d l0 l1 l2 K N I P z Q := by
  unfold L_X8_atScanner_4
  refine e_iload_n dX8_atScanner_4 rfl ?_
  refine e_aload_n dX8_atScanner_5 rfl trivial ?_
  obtain ⟨hK1, h⟩ := h
  obtain ⟨b2, hb2, h⟩ := h
  refine e_getr1 dX8_atScanner_6 fk_X8_7 rfl hK1 hb2 ?_
  refine e_bipush dX8_atScanner_9 ?_
  obtain ⟨hK3, h⟩ := h
  obtain ⟨⟨h0, h1⟩, h⟩ := h
  refine e_iald dX8_atScanner_11 hK3 h0 h1 ?_
  show am_E _ _ _ _ _ _ (am_i (I b2 9) :: _) _ _ _ _ _ _ _
  refine e_icmp_ge (tgt := 68) dX8_atScanner_12 (by decide) (fun hc => ?_) (fun hc => ?_)
  · replace h := h.1 hc
    refine e_iload_n dX8_atScanner_68 rfl ?_
    exact e_ret_i dX8_atScanner_69 rfl (Nat.le_of_ble_eq_true rfl) (Nat.le_of_ble_eq_true rfl) h
  · replace h := h.2 hc
    refine e_aload_n dX8_atScanner_15 rfl trivial ?_
    refine e_iload_n dX8_atScanner_16 rfl ?_
    refine e_callV (Mc := m_X8_isOn) (vs := [am_i l2]) (st := []) dX8_atScanner_17 ok_X8_isOn rfl ⟨by decide, rfl⟩ mk_X8_32 im_X8_isOn sl_X8_isOn rfl rfl hK1 (by omega) (Nat.le_of_ble_eq_true rfl) (Nat.le_of_ble_eq_true rfl) (Nat.le_of_ble_eq_true rfl) am_xh_nx (am_C_mono h (fun v K4 N5 I6 P7 z8 h => ?_) (fun _ _ _ _ _ _ h => h))
    replace h := am_iv_or h
    obtain ⟨x9, rfl, h⟩ := h
    show am_E d m_X8_atScanner 20 _ _ _ [am_i x9] K4 N5 I6 P7 z8 Q am_nx
    refine e_if_eq (tgt := 60) dX8_atScanner_20 (by decide) (fun hc => ?_) (fun hc => ?_)
    · replace h := h.1 hc
      refine e_iload_n dX8_atScanner_60 rfl ?_
      refine e_istore_n dX8_atScanner_61 ?_
      refine e_iinc dX8_atScanner_62 rfl ?_
      refine e_goto (tgt := 4) dX8_atScanner_65 (by decide) ?_
      exact e_forget (am_sub_k (am_sub_k (am_sub_k am_sub_nil))) h
    · replace h := h.2 hc
      refine e_aload_n dX8_atScanner_23 rfl trivial ?_
      refine e_iload_n dX8_atScanner_24 rfl ?_
      obtain ⟨hK15, h⟩ := h
      refine e_callV (Mc := m_X8_tail) (vs := [am_i l2]) (st := []) dX8_atScanner_25 ok_X8_tail rfl ⟨by decide, rfl⟩ mk_X8_99 im_X8_tail sl_X8_tail rfl rfl hK15 (by omega) (Nat.le_of_ble_eq_true rfl) (Nat.le_of_ble_eq_true rfl) (Nat.le_of_ble_eq_true rfl) am_xh_nx (am_C_mono h (fun v K10 N11 I12 P13 z14 h => ?_) (fun _ _ _ _ _ _ h => h))
      replace h := am_iv_or h
      obtain ⟨x16, rfl, h⟩ := h
      show am_E d m_X8_atScanner 28 _ _ _ [am_i x16] K10 N11 I12 P13 z14 Q am_nx
      refine e_aload_n dX8_atScanner_28 rfl trivial ?_
      obtain ⟨hK17, h⟩ := h
      obtain ⟨b18, hb18, h⟩ := h
      refine e_getr1 dX8_atScanner_29 fk_X8_7 rfl hK17 hb18 ?_
      refine e_iconst dX8_atScanner_32 ?_
      obtain ⟨hK19, h⟩ := h
      obtain ⟨⟨h0, h1⟩, h⟩ := h
      refine e_iald dX8_atScanner_33 hK19 h0 h1 ?_
      show am_E _ _ _ _ _ _ (am_i (I12 b18 1) :: _) _ _ _ _ _ _ _
      refine e_icmp_ge (tgt := 60) dX8_atScanner_34 (by decide) (fun hc => ?_) (fun hc => ?_)
      · replace h := h.1 hc
        refine e_iload_n dX8_atScanner_60 rfl ?_
        refine e_istore_n dX8_atScanner_61 ?_
        refine e_iinc dX8_atScanner_62 rfl ?_
        refine e_goto (tgt := 4) dX8_atScanner_65 (by decide) ?_
        exact e_forget (am_sub_k (am_sub_k (am_sub_k am_sub_nil))) h
      · replace h := h.2 hc
        refine e_aload_n dX8_atScanner_37 rfl trivial ?_
        refine e_getr1 dX8_atScanner_38 fk_X8_7 rfl hK17 hb18 ?_
        refine e_sipush dX8_atScanner_41 ?_
        refine e_iload_n dX8_atScanner_44 rfl ?_
        refine e_iadd dX8_atScanner_45 ?_
        obtain ⟨⟨h0, h1⟩, h⟩ := h
        refine e_iald dX8_atScanner_46 hK19 h0 h1 ?_
        refine e_aload_n dX8_atScanner_47 rfl trivial ?_
        refine e_getr1 dX8_atScanner_48 fk_X8_7 rfl hK17 hb18 ?_
        refine e_iconst dX8_atScanner_51 ?_
        obtain ⟨⟨h0, h1⟩, h⟩ := h
        refine e_iald dX8_atScanner_52 hK19 h0 h1 ?_
        show am_E _ _ _ _ _ _ (am_i (I12 b18 1) :: _) _ _ _ _ _ _ _
        refine e_icmp_lt (tgt := 60) dX8_atScanner_53 (by decide) (fun hc => ?_) (fun hc => ?_)
        · replace h := h.1 hc
          refine e_iload_n dX8_atScanner_60 rfl ?_
          refine e_istore_n dX8_atScanner_61 ?_
          refine e_iinc dX8_atScanner_62 rfl ?_
          refine e_goto (tgt := 4) dX8_atScanner_65 (by decide) ?_
          exact e_forget (am_sub_k (am_sub_k (am_sub_k am_sub_nil))) h
        · replace h := h.2 hc
          refine e_iload_n dX8_atScanner_56 rfl ?_
          refine e_goto (tgt := 61) dX8_atScanner_57 (by decide) ?_
          refine e_istore_n dX8_atScanner_61 ?_
          refine e_iinc dX8_atScanner_62 rfl ?_
          refine e_goto (tgt := 4) dX8_atScanner_65 (by decide) ?_
          exact e_forget (am_sub_k (am_sub_k (am_sub_k am_sub_nil))) h
set_option maxRecDepth 100000 in
set_option maxHeartbeats 4000000 in
theorem wf_X8_readFor {d : Nat} {s : Nat} {a1 : Int} {a2 : Int} {K N : Nat → Nat} {I : Nat → Nat → Int} {P : Nat → Nat → Option Nat} {z : Nat} {Q : am_V → am_T} (h :
  K s = 8 ∧ ∃ b2, P s 0 = some b2 ∧ K b2 = 10 ∧ (0 ≤ am_wr (1100 + a1) ∧ am_wr (1100 + a1) < N b2) ∧ ((¬ I b2 (Int.toNat (am_wr (1100 + a1))) = (-1) →
    (0 ≤ am_wr (1100 + a1) ∧ am_wr (1100 + a1) < N b2) ∧ ((I b2 (Int.toNat (am_wr (1100 + a1))) = a2 →
      (0 ≤ (0 : Int) ∧ (0 : Int) < N b2) ∧ (0 ≤ am_wr (2900 + a1) ∧ am_wr (2900 + a1) < N b2) ∧ (0 ≤ (3 : Int) ∧ (3 : Int) < N b2) ∧ ((I b2 3 < am_wr (I b2 0 - (I b2 (Int.toNat (am_wr (2900 + a1))))) →
        (0 ≤ am_wr (2000 + a1) ∧ am_wr (2000 + a1) < N b2) ∧ (0 ≤ am_wr (2000 + a1) ∧ am_wr (2000 + a1) < N b2) ∧ ∀ I4, I4 = am_u2 I b2 (Int.toNat (am_wr (2000 + a1))) (am_wr ((I b2 (Int.toNat (am_wr (2000 + a1)))) + 1)) → (0 ≤ (0 : Int) ∧ (0 : Int) < N b2) ∧ (0 ≤ am_wr (2900 + a1) ∧ am_wr (2900 + a1) < N b2) ∧ ∀ I5, I5 = am_u2 I4 b2 (Int.toNat (am_wr (2900 + a1))) (I4 b2 0) → Q am_nl K N I5 P z) ∧
        (¬ (I b2 3 < am_wr (I b2 0 - (I b2 (Int.toNat (am_wr (2900 + a1)))))) →
        (0 ≤ am_wr (2300 + a1) ∧ am_wr (2300 + a1) < N b2) ∧ (0 ≤ am_wr (2300 + a1) ∧ am_wr (2300 + a1) < N b2) ∧ ∀ I6, I6 = am_u2 I b2 (Int.toNat (am_wr (2300 + a1))) (am_wr ((I b2 (Int.toNat (am_wr (2300 + a1)))) + 1)) → Q am_nl K N I6 P z))) ∧
      (¬ (I b2 (Int.toNat (am_wr (1100 + a1))) = a2) →
      (0 ≤ am_wr (1400 + a1) ∧ am_wr (1400 + a1) < N b2) ∧ ∀ I7, I7 = am_u2 I b2 (Int.toNat (am_wr (1400 + a1))) 1 → (0 ≤ (0 : Int) ∧ (0 : Int) < N b2) ∧ (0 ≤ am_wr (2900 + a1) ∧ am_wr (2900 + a1) < N b2) ∧ ∀ I8, I8 = am_u2 I7 b2 (Int.toNat (am_wr (2900 + a1))) (I7 b2 0) → Q am_nl K N I8 P z))) ∧
    (I b2 (Int.toNat (am_wr (1100 + a1))) = (-1) →
    (0 ≤ am_wr (1100 + a1) ∧ am_wr (1100 + a1) < N b2) ∧ ∀ I9, I9 = am_u2 I b2 (Int.toNat (am_wr (1100 + a1))) a2 → (0 ≤ (0 : Int) ∧ (0 : Int) < N b2) ∧ (0 ≤ am_wr (2900 + a1) ∧ am_wr (2900 + a1) < N b2) ∧ ∀ I10, I10 = am_u2 I9 b2 (Int.toNat (am_wr (2900 + a1))) (I9 b2 0) → Q am_nl K N I10 P z))) :
  am_C d m_X8_readFor [am_r s, am_i a1, am_i a2] K N I P z Q am_nx := by
  refine am_C_of ok_X8_readFor (fun v hv => am_v1all _ rfl v hv) (Nat.le_of_ble_eq_true rfl) ?_
  show am_E d m_X8_readFor 0 0 0 [some (am_r s), some (am_i a1), some (am_i a2)] [] K N I P z Q am_nx
  refine e_aload_n dX8_readFor_0 rfl trivial ?_
  obtain ⟨hK1, h⟩ := h
  obtain ⟨b2, hb2, h⟩ := h
  refine e_getr1 dX8_readFor_1 fk_X8_7 rfl hK1 hb2 ?_
  refine e_sipush dX8_readFor_4 ?_
  refine e_iload_n dX8_readFor_7 rfl ?_
  refine e_iadd dX8_readFor_8 ?_
  obtain ⟨hK3, h⟩ := h
  obtain ⟨⟨h0, h1⟩, h⟩ := h
  refine e_iald dX8_readFor_9 hK3 h0 h1 ?_
  refine e_iconst dX8_readFor_10 ?_
  refine e_icmp_ne (tgt := 44) dX8_readFor_11 (by decide) (fun hc => ?_) (fun hc => ?_)
  · replace h := h.1 hc
    refine e_aload_n dX8_readFor_44 rfl trivial ?_
    refine e_getr1 dX8_readFor_45 fk_X8_7 rfl hK1 hb2 ?_
    refine e_sipush dX8_readFor_48 ?_
    refine e_iload_n dX8_readFor_51 rfl ?_
    refine e_iadd dX8_readFor_52 ?_
    obtain ⟨⟨h0, h1⟩, h⟩ := h
    refine e_iald dX8_readFor_53 hK3 h0 h1 ?_
    refine e_iload_n dX8_readFor_54 rfl ?_
    refine e_icmp_eq (tgt := 88) dX8_readFor_55 (by decide) (fun hc => ?_) (fun hc => ?_)
    · replace h := h.1 hc
      refine e_aload_n dX8_readFor_88 rfl trivial ?_
      refine e_getr1 dX8_readFor_89 fk_X8_7 rfl hK1 hb2 ?_
      refine e_iconst dX8_readFor_92 ?_
      obtain ⟨⟨h0, h1⟩, h⟩ := h
      refine e_iald dX8_readFor_93 hK3 h0 h1 ?_
      show am_E _ _ _ _ _ _ (am_i (I b2 0) :: _) _ _ _ _ _ _ _
      refine e_aload_n dX8_readFor_94 rfl trivial ?_
      refine e_getr1 dX8_readFor_95 fk_X8_7 rfl hK1 hb2 ?_
      refine e_sipush dX8_readFor_98 ?_
      refine e_iload_n dX8_readFor_101 rfl ?_
      refine e_iadd dX8_readFor_102 ?_
      obtain ⟨⟨h0, h1⟩, h⟩ := h
      refine e_iald dX8_readFor_103 hK3 h0 h1 ?_
      refine e_isub dX8_readFor_104 ?_
      refine e_aload_n dX8_readFor_105 rfl trivial ?_
      refine e_getr1 dX8_readFor_106 fk_X8_7 rfl hK1 hb2 ?_
      refine e_iconst dX8_readFor_109 ?_
      obtain ⟨⟨h0, h1⟩, h⟩ := h
      refine e_iald dX8_readFor_110 hK3 h0 h1 ?_
      show am_E _ _ _ _ _ _ (am_i (I b2 3) :: _) _ _ _ _ _ _ _
      refine e_icmp_gt (tgt := 131) dX8_readFor_111 (by decide) (fun hc => ?_) (fun hc => ?_)
      · replace h := h.1 hc
        refine e_aload_n dX8_readFor_131 rfl trivial ?_
        refine e_getr1 dX8_readFor_132 fk_X8_7 rfl hK1 hb2 ?_
        refine e_sipush dX8_readFor_135 ?_
        refine e_iload_n dX8_readFor_138 rfl ?_
        refine e_iadd dX8_readFor_139 ?_
        refine e_dup2 dX8_readFor_140 rfl rfl ?_
        obtain ⟨⟨h0, h1⟩, h⟩ := h
        refine e_iald dX8_readFor_141 hK3 h0 h1 ?_
        refine e_iconst dX8_readFor_142 ?_
        refine e_iadd dX8_readFor_143 ?_
        obtain ⟨⟨h0, h1⟩, h⟩ := h
        refine e_iast dX8_readFor_144 hK3 h0 h1 ?_
        replace h := h _ rfl
        generalize am_u2 I b2 (Int.toNat (am_wr (2000 + a1))) (am_wr ((I b2 (Int.toNat (am_wr (2000 + a1)))) + 1)) = I4 at h ⊢
        refine e_aload_n dX8_readFor_145 rfl trivial ?_
        refine e_getr1 dX8_readFor_146 fk_X8_7 rfl hK1 hb2 ?_
        refine e_sipush dX8_readFor_149 ?_
        refine e_iload_n dX8_readFor_152 rfl ?_
        refine e_iadd dX8_readFor_153 ?_
        refine e_aload_n dX8_readFor_154 rfl trivial ?_
        refine e_getr1 dX8_readFor_155 fk_X8_7 rfl hK1 hb2 ?_
        refine e_iconst dX8_readFor_158 ?_
        obtain ⟨⟨h0, h1⟩, h⟩ := h
        refine e_iald dX8_readFor_159 hK3 h0 h1 ?_
        show am_E _ _ _ _ _ _ (am_i (I4 b2 0) :: _) _ _ _ _ _ _ _
        obtain ⟨⟨h0, h1⟩, h⟩ := h
        refine e_iast dX8_readFor_160 hK3 h0 h1 ?_
        replace h := h _ rfl
        generalize am_u2 I4 b2 (Int.toNat (am_wr (2900 + a1))) (I4 b2 0) = I5 at h ⊢
        exact e_ret_v dX8_readFor_161 rfl (Nat.le_of_ble_eq_true rfl) (Nat.le_of_ble_eq_true rfl) h
      · replace h := h.2 hc
        refine e_aload_n dX8_readFor_114 rfl trivial ?_
        refine e_getr1 dX8_readFor_115 fk_X8_7 rfl hK1 hb2 ?_
        refine e_sipush dX8_readFor_118 ?_
        refine e_iload_n dX8_readFor_121 rfl ?_
        refine e_iadd dX8_readFor_122 ?_
        refine e_dup2 dX8_readFor_123 rfl rfl ?_
        obtain ⟨⟨h0, h1⟩, h⟩ := h
        refine e_iald dX8_readFor_124 hK3 h0 h1 ?_
        refine e_iconst dX8_readFor_125 ?_
        refine e_iadd dX8_readFor_126 ?_
        obtain ⟨⟨h0, h1⟩, h⟩ := h
        refine e_iast dX8_readFor_127 hK3 h0 h1 ?_
        replace h := h _ rfl
        generalize am_u2 I b2 (Int.toNat (am_wr (2300 + a1))) (am_wr ((I b2 (Int.toNat (am_wr (2300 + a1)))) + 1)) = I6 at h ⊢
        refine e_goto (tgt := 161) dX8_readFor_128 (by decide) ?_
        exact e_ret_v dX8_readFor_161 rfl (Nat.le_of_ble_eq_true rfl) (Nat.le_of_ble_eq_true rfl) h
    · replace h := h.2 hc
      refine e_aload_n dX8_readFor_58 rfl trivial ?_
      refine e_getr1 dX8_readFor_59 fk_X8_7 rfl hK1 hb2 ?_
      refine e_sipush dX8_readFor_62 ?_
      refine e_iload_n dX8_readFor_65 rfl ?_
      refine e_iadd dX8_readFor_66 ?_
      refine e_iconst dX8_readFor_67 ?_
      obtain ⟨⟨h0, h1⟩, h⟩ := h
      refine e_iast dX8_readFor_68 hK3 h0 h1 ?_
      replace h := h _ rfl
      generalize am_u2 I b2 (Int.toNat (am_wr (1400 + a1))) 1 = I7 at h ⊢
      refine e_aload_n dX8_readFor_69 rfl trivial ?_
      refine e_getr1 dX8_readFor_70 fk_X8_7 rfl hK1 hb2 ?_
      refine e_sipush dX8_readFor_73 ?_
      refine e_iload_n dX8_readFor_76 rfl ?_
      refine e_iadd dX8_readFor_77 ?_
      refine e_aload_n dX8_readFor_78 rfl trivial ?_
      refine e_getr1 dX8_readFor_79 fk_X8_7 rfl hK1 hb2 ?_
      refine e_iconst dX8_readFor_82 ?_
      obtain ⟨⟨h0, h1⟩, h⟩ := h
      refine e_iald dX8_readFor_83 hK3 h0 h1 ?_
      show am_E _ _ _ _ _ _ (am_i (I7 b2 0) :: _) _ _ _ _ _ _ _
      obtain ⟨⟨h0, h1⟩, h⟩ := h
      refine e_iast dX8_readFor_84 hK3 h0 h1 ?_
      replace h := h _ rfl
      generalize am_u2 I7 b2 (Int.toNat (am_wr (2900 + a1))) (I7 b2 0) = I8 at h ⊢
      refine e_goto (tgt := 161) dX8_readFor_85 (by decide) ?_
      exact e_ret_v dX8_readFor_161 rfl (Nat.le_of_ble_eq_true rfl) (Nat.le_of_ble_eq_true rfl) h
  · replace h := h.2 hc
    refine e_aload_n dX8_readFor_14 rfl trivial ?_
    refine e_getr1 dX8_readFor_15 fk_X8_7 rfl hK1 hb2 ?_
    refine e_sipush dX8_readFor_18 ?_
    refine e_iload_n dX8_readFor_21 rfl ?_
    refine e_iadd dX8_readFor_22 ?_
    refine e_iload_n dX8_readFor_23 rfl ?_
    obtain ⟨⟨h0, h1⟩, h⟩ := h
    refine e_iast dX8_readFor_24 hK3 h0 h1 ?_
    replace h := h _ rfl
    generalize am_u2 I b2 (Int.toNat (am_wr (1100 + a1))) a2 = I9 at h ⊢
    refine e_aload_n dX8_readFor_25 rfl trivial ?_
    refine e_getr1 dX8_readFor_26 fk_X8_7 rfl hK1 hb2 ?_
    refine e_sipush dX8_readFor_29 ?_
    refine e_iload_n dX8_readFor_32 rfl ?_
    refine e_iadd dX8_readFor_33 ?_
    refine e_aload_n dX8_readFor_34 rfl trivial ?_
    refine e_getr1 dX8_readFor_35 fk_X8_7 rfl hK1 hb2 ?_
    refine e_iconst dX8_readFor_38 ?_
    obtain ⟨⟨h0, h1⟩, h⟩ := h
    refine e_iald dX8_readFor_39 hK3 h0 h1 ?_
    show am_E _ _ _ _ _ _ (am_i (I9 b2 0) :: _) _ _ _ _ _ _ _
    obtain ⟨⟨h0, h1⟩, h⟩ := h
    refine e_iast dX8_readFor_40 hK3 h0 h1 ?_
    replace h := h _ rfl
    generalize am_u2 I9 b2 (Int.toNat (am_wr (2900 + a1))) (I9 b2 0) = I10 at h ⊢
    refine e_goto (tgt := 161) dX8_readFor_41 (by decide) ?_
    exact e_ret_v dX8_readFor_161 rfl (Nat.le_of_ble_eq_true rfl) (Nat.le_of_ble_eq_true rfl) h
set_option maxRecDepth 100000 in
set_option maxHeartbeats 4000000 in
theorem wf_X8_read {d : Nat} (hd : 1 ≤ d) {s : Nat} {a1 : Int} {K N : Nat → Nat} {I : Nat → Nat → Int} {P : Nat → Nat → Option Nat} {z : Nat} {Q : am_V → am_T} (h :
  K s = 8 ∧ ∀ I2, I2 = am_u2 I s 7 0 → am_C (d - 1) m_X8_isCode [am_i a1] K N I2 P z (fun v K3 N4 I5 P6 z7 => am_iv v fun x8 =>
    ((¬ x8 = 0 →
    K3 s = 8 ∧ am_C (d - 1) m_X8_save [am_r s] K3 N4 I5 P6 z7 (fun _ K9 N10 I11 P12 z13 =>
      K9 s = 8 ∧ am_C (d - 1) m_X8_caster [am_r s] K9 N10 I11 P12 z13 (fun v K15 N16 I17 P18 z19 => am_iv v fun x21 =>
      K15 s = 8 ∧ am_C (d - 1) m_X8_atScanner [am_r s] K15 N16 I17 P18 z19 (fun v K22 N23 I24 P25 z26 => am_iv v fun x28 =>
      ((x21 = (-1) →
      ((¬ x28 = (-1) →
        K22 s = 8 ∧ am_C (d - 1) m_X8_readFor [am_r s, am_i x28, am_i a1] K22 N23 I24 P25 z26 (fun _ K29 N30 I31 P32 z33 =>
          Q (am_i x28) K29 N30 I31 P32 z33) am_nx) ∧
        (x28 = (-1) →
        K22 s = 8 ∧ ∃ b36, P25 s 0 = some b36 ∧ K22 b36 = 10 ∧ (0 ≤ (10 : Int) ∧ (10 : Int) < N23 b36) ∧ (0 ≤ (10 : Int) ∧ (10 : Int) < N23 b36) ∧ ∀ I38, I38 = am_u2 I24 b36 (Int.toNat 10) (am_wr (I24 b36 10 + 1)) → Q (am_i x28) K22 N23 I38 P25 z26))) ∧
      (¬ (x21 = (-1)) →
      K22 s = 8 ∧ ∃ b40, P25 s 0 = some b40 ∧ K22 b40 = 10 ∧ (0 ≤ am_wr (1100 + x21) ∧ am_wr (1100 + x21) < N23 b40) ∧ ((I24 b40 (Int.toNat (am_wr (1100 + x21))) = (-1) →
        ((¬ x21 = (-1) →
          am_C (d - 1) m_X8_readFor [am_r s, am_i x21, am_i a1] K22 N23 I24 P25 z26 (fun _ K42 N43 I44 P45 z46 =>
            Q (am_i x21) K42 N43 I44 P45 z46) am_nx) ∧
          (x21 = (-1) →
          (0 ≤ (10 : Int) ∧ (10 : Int) < N23 b40) ∧ (0 ≤ (10 : Int) ∧ (10 : Int) < N23 b40) ∧ ∀ I47, I47 = am_u2 I24 b40 (Int.toNat 10) (am_wr (I24 b40 10 + 1)) → Q (am_i x21) K22 N23 I47 P25 z26))) ∧
        (¬ (I24 b40 (Int.toNat (am_wr (1100 + x21))) = (-1)) →
        ((¬ x28 = (-1) →
          ((¬ x28 = (-1) →
            am_C (d - 1) m_X8_readFor [am_r s, am_i x28, am_i a1] K22 N23 I24 P25 z26 (fun _ K48 N49 I50 P51 z52 =>
              Q (am_i x28) K48 N49 I50 P51 z52) am_nx) ∧
            (x28 = (-1) →
            (0 ≤ (10 : Int) ∧ (10 : Int) < N23 b40) ∧ (0 ≤ (10 : Int) ∧ (10 : Int) < N23 b40) ∧ ∀ I53, I53 = am_u2 I24 b40 (Int.toNat 10) (am_wr (I24 b40 10 + 1)) → Q (am_i x28) K22 N23 I53 P25 z26))) ∧
          (x28 = (-1) →
          ((¬ x21 = (-1) →
            am_C (d - 1) m_X8_readFor [am_r s, am_i x21, am_i a1] K22 N23 I24 P25 z26 (fun _ K54 N55 I56 P57 z58 =>
              Q (am_i x21) K54 N55 I56 P57 z58) am_nx) ∧
            (x21 = (-1) →
            (0 ≤ (10 : Int) ∧ (10 : Int) < N23 b40) ∧ (0 ≤ (10 : Int) ∧ (10 : Int) < N23 b40) ∧ ∀ I59, I59 = am_u2 I24 b40 (Int.toNat 10) (am_wr (I24 b40 10 + 1)) → Q (am_i x21) K22 N23 I59 P25 z26))))))))) am_nx) am_nx) am_nx) ∧
    (x8 = 0 →
    K3 s = 8 ∧ am_C (d - 1) m_X8_refuse [am_r s, am_i 1] K3 N4 I5 P6 z7 (fun v K60 N61 I62 P63 z64 => am_iv v fun x66 =>
      Q (am_i x66) K60 N61 I62 P63 z64) am_nx))) am_nx) :
  am_C d m_X8_read [am_r s, am_i a1] K N I P z Q am_nx := by
  refine am_C_of ok_X8_read (fun v hv => am_v1all _ rfl v hv) (Nat.le_of_ble_eq_true rfl) ?_
  show am_E d m_X8_read 0 0 0 [some (am_r s), some (am_i a1), none, none, none] [] K N I P z Q am_nx
  refine e_aload_n dX8_read_0 rfl trivial ?_
  refine e_iconst dX8_read_1 ?_
  obtain ⟨hK1, h⟩ := h
  refine e_puti dX8_read_2 fk_X8_25 rfl (Or.inl rfl) hK1 ?_
  replace h := h _ rfl
  generalize am_u2 I s 7 0 = I2 at h ⊢
  refine e_iload_n dX8_read_5 rfl ?_
  refine e_callS (Mc := m_X8_isCode) (vs := [am_i a1]) (st := []) dX8_read_6 ok_X8_isCode rfl mk_X8_67 sm_X8_isCode rfl rfl (by omega) (Nat.le_of_ble_eq_true rfl) (Nat.le_of_ble_eq_true rfl) (Nat.le_of_ble_eq_true rfl) am_xh_nx (am_C_mono h (fun v K3 N4 I5 P6 z7 h => ?_) (fun _ _ _ _ _ _ h => h))
  replace h := am_iv_or h
  obtain ⟨x8, rfl, h⟩ := h
  show am_E d m_X8_read 9 _ _ _ [am_i x8] K3 N4 I5 P6 z7 Q am_nx
  refine e_if_ne (tgt := 18) dX8_read_9 (by decide) (fun hc => ?_) (fun hc => ?_)
  · replace h := h.1 hc
    refine e_aload_n dX8_read_18 rfl trivial ?_
    obtain ⟨hK14, h⟩ := h
    refine e_callV (Mc := m_X8_save) (vs := []) (st := []) dX8_read_19 ok_X8_save rfl ⟨by decide, rfl⟩ mk_X8_58 im_X8_save sl_X8_save rfl rfl hK14 (by omega) (Nat.le_of_ble_eq_true rfl) (Nat.le_of_ble_eq_true rfl) (Nat.le_of_ble_eq_true rfl) am_xh_nx (am_C_mono h (fun v K9 N10 I11 P12 z13 h => ?_) (fun _ _ _ _ _ _ h => h))
    show am_E d m_X8_read 22 _ _ _ [] K9 N10 I11 P12 z13 Q am_nx
    refine e_aload_n dX8_read_22 rfl trivial ?_
    obtain ⟨hK20, h⟩ := h
    refine e_callV (Mc := m_X8_caster) (vs := []) (st := []) dX8_read_23 ok_X8_caster rfl ⟨by decide, rfl⟩ mk_X8_102 im_X8_caster sl_X8_caster rfl rfl hK20 (by omega) (Nat.le_of_ble_eq_true rfl) (Nat.le_of_ble_eq_true rfl) (Nat.le_of_ble_eq_true rfl) am_xh_nx (am_C_mono h (fun v K15 N16 I17 P18 z19 h => ?_) (fun _ _ _ _ _ _ h => h))
    replace h := am_iv_or h
    obtain ⟨x21, rfl, h⟩ := h
    show am_E d m_X8_read 26 _ _ _ [am_i x21] K15 N16 I17 P18 z19 Q am_nx
    refine e_istore_n dX8_read_26 ?_
    refine e_aload_n dX8_read_27 rfl trivial ?_
    obtain ⟨hK27, h⟩ := h
    refine e_callV (Mc := m_X8_atScanner) (vs := []) (st := []) dX8_read_28 ok_X8_atScanner rfl ⟨by decide, rfl⟩ mk_X8_105 im_X8_atScanner sl_X8_atScanner rfl rfl hK27 (by omega) (Nat.le_of_ble_eq_true rfl) (Nat.le_of_ble_eq_true rfl) (Nat.le_of_ble_eq_true rfl) am_xh_nx (am_C_mono h (fun v K22 N23 I24 P25 z26 h => ?_) (fun _ _ _ _ _ _ h => h))
    replace h := am_iv_or h
    obtain ⟨x28, rfl, h⟩ := h
    show am_E d m_X8_read 31 _ _ _ [am_i x28] K22 N23 I24 P25 z26 Q am_nx
    refine e_istore_n dX8_read_31 ?_
    refine e_iload_n dX8_read_32 rfl ?_
    refine e_iconst dX8_read_33 ?_
    refine e_icmp_eq (tgt := 60) dX8_read_34 (by decide) (fun hc => ?_) (fun hc => ?_)
    · replace h := h.1 hc
      refine e_iload_n dX8_read_60 rfl ?_
      refine e_istore dX8_read_61 ?_
      refine e_iload dX8_read_63 rfl ?_
      refine e_iconst dX8_read_65 ?_
      refine e_icmp_ne (tgt := 83) dX8_read_66 (by decide) (fun hc => ?_) (fun hc => ?_)
      · replace h := h.1 hc
        refine e_aload_n dX8_read_83 rfl trivial ?_
        refine e_iload dX8_read_84 rfl ?_
        refine e_iload_n dX8_read_86 rfl ?_
        obtain ⟨hK34, h⟩ := h
        refine e_callV (Mc := m_X8_readFor) (vs := [am_i x28, am_i a1]) (st := []) dX8_read_87 ok_X8_readFor rfl ⟨by decide, rfl⟩ mk_X8_108 im_X8_readFor sl_X8_readFor rfl rfl hK34 (by omega) (Nat.le_of_ble_eq_true rfl) (Nat.le_of_ble_eq_true rfl) (Nat.le_of_ble_eq_true rfl) am_xh_nx (am_C_mono h (fun v K29 N30 I31 P32 z33 h => ?_) (fun _ _ _ _ _ _ h => h))
        show am_E d m_X8_read 90 _ _ _ [] K29 N30 I31 P32 z33 Q am_nx
        refine e_iload dX8_read_90 rfl ?_
        exact e_ret_i dX8_read_92 rfl (Nat.le_of_ble_eq_true rfl) (Nat.le_of_ble_eq_true rfl) h
      · replace h := h.2 hc
        refine e_aload_n dX8_read_69 rfl trivial ?_
        obtain ⟨hK35, h⟩ := h
        obtain ⟨b36, hb36, h⟩ := h
        refine e_getr1 dX8_read_70 fk_X8_7 rfl hK35 hb36 ?_
        refine e_bipush dX8_read_73 ?_
        refine e_dup2 dX8_read_75 rfl rfl ?_
        obtain ⟨hK37, h⟩ := h
        obtain ⟨⟨h0, h1⟩, h⟩ := h
        refine e_iald dX8_read_76 hK37 h0 h1 ?_
        show am_E _ _ _ _ _ _ (am_i (I24 b36 10) :: _) _ _ _ _ _ _ _
        refine e_iconst dX8_read_77 ?_
        refine e_iadd dX8_read_78 ?_
        obtain ⟨⟨h0, h1⟩, h⟩ := h
        refine e_iast dX8_read_79 hK37 h0 h1 ?_
        replace h := h _ rfl
        generalize am_u2 I24 b36 (Int.toNat 10) (am_wr (I24 b36 10 + 1)) = I38 at h ⊢
        refine e_goto (tgt := 90) dX8_read_80 (by decide) ?_
        refine e_iload dX8_read_90 rfl ?_
        exact e_ret_i dX8_read_92 rfl (Nat.le_of_ble_eq_true rfl) (Nat.le_of_ble_eq_true rfl) h
    · replace h := h.2 hc
      refine e_aload_n dX8_read_37 rfl trivial ?_
      obtain ⟨hK39, h⟩ := h
      obtain ⟨b40, hb40, h⟩ := h
      refine e_getr1 dX8_read_38 fk_X8_7 rfl hK39 hb40 ?_
      refine e_sipush dX8_read_41 ?_
      refine e_iload_n dX8_read_44 rfl ?_
      refine e_iadd dX8_read_45 ?_
      obtain ⟨hK41, h⟩ := h
      obtain ⟨⟨h0, h1⟩, h⟩ := h
      refine e_iald dX8_read_46 hK41 h0 h1 ?_
      refine e_iconst dX8_read_47 ?_
      refine e_icmp_eq (tgt := 56) dX8_read_48 (by decide) (fun hc => ?_) (fun hc => ?_)
      · replace h := h.1 hc
        refine e_iload_n dX8_read_56 rfl ?_
        refine e_goto (tgt := 61) dX8_read_57 (by decide) ?_
        refine e_istore dX8_read_61 ?_
        refine e_iload dX8_read_63 rfl ?_
        refine e_iconst dX8_read_65 ?_
        refine e_icmp_ne (tgt := 83) dX8_read_66 (by decide) (fun hc => ?_) (fun hc => ?_)
        · replace h := h.1 hc
          refine e_aload_n dX8_read_83 rfl trivial ?_
          refine e_iload dX8_read_84 rfl ?_
          refine e_iload_n dX8_read_86 rfl ?_
          refine e_callV (Mc := m_X8_readFor) (vs := [am_i x21, am_i a1]) (st := []) dX8_read_87 ok_X8_readFor rfl ⟨by decide, rfl⟩ mk_X8_108 im_X8_readFor sl_X8_readFor rfl rfl hK39 (by omega) (Nat.le_of_ble_eq_true rfl) (Nat.le_of_ble_eq_true rfl) (Nat.le_of_ble_eq_true rfl) am_xh_nx (am_C_mono h (fun v K42 N43 I44 P45 z46 h => ?_) (fun _ _ _ _ _ _ h => h))
          show am_E d m_X8_read 90 _ _ _ [] K42 N43 I44 P45 z46 Q am_nx
          refine e_iload dX8_read_90 rfl ?_
          exact e_ret_i dX8_read_92 rfl (Nat.le_of_ble_eq_true rfl) (Nat.le_of_ble_eq_true rfl) h
        · replace h := h.2 hc
          refine e_aload_n dX8_read_69 rfl trivial ?_
          refine e_getr1 dX8_read_70 fk_X8_7 rfl hK39 hb40 ?_
          refine e_bipush dX8_read_73 ?_
          refine e_dup2 dX8_read_75 rfl rfl ?_
          obtain ⟨⟨h0, h1⟩, h⟩ := h
          refine e_iald dX8_read_76 hK41 h0 h1 ?_
          show am_E _ _ _ _ _ _ (am_i (I24 b40 10) :: _) _ _ _ _ _ _ _
          refine e_iconst dX8_read_77 ?_
          refine e_iadd dX8_read_78 ?_
          obtain ⟨⟨h0, h1⟩, h⟩ := h
          refine e_iast dX8_read_79 hK41 h0 h1 ?_
          replace h := h _ rfl
          generalize am_u2 I24 b40 (Int.toNat 10) (am_wr (I24 b40 10 + 1)) = I47 at h ⊢
          refine e_goto (tgt := 90) dX8_read_80 (by decide) ?_
          refine e_iload dX8_read_90 rfl ?_
          exact e_ret_i dX8_read_92 rfl (Nat.le_of_ble_eq_true rfl) (Nat.le_of_ble_eq_true rfl) h
      · replace h := h.2 hc
        refine e_iload_n dX8_read_51 rfl ?_
        refine e_iconst dX8_read_52 ?_
        refine e_icmp_ne (tgt := 60) dX8_read_53 (by decide) (fun hc => ?_) (fun hc => ?_)
        · replace h := h.1 hc
          refine e_iload_n dX8_read_60 rfl ?_
          refine e_istore dX8_read_61 ?_
          refine e_iload dX8_read_63 rfl ?_
          refine e_iconst dX8_read_65 ?_
          refine e_icmp_ne (tgt := 83) dX8_read_66 (by decide) (fun hc => ?_) (fun hc => ?_)
          · replace h := h.1 hc
            refine e_aload_n dX8_read_83 rfl trivial ?_
            refine e_iload dX8_read_84 rfl ?_
            refine e_iload_n dX8_read_86 rfl ?_
            refine e_callV (Mc := m_X8_readFor) (vs := [am_i x28, am_i a1]) (st := []) dX8_read_87 ok_X8_readFor rfl ⟨by decide, rfl⟩ mk_X8_108 im_X8_readFor sl_X8_readFor rfl rfl hK39 (by omega) (Nat.le_of_ble_eq_true rfl) (Nat.le_of_ble_eq_true rfl) (Nat.le_of_ble_eq_true rfl) am_xh_nx (am_C_mono h (fun v K48 N49 I50 P51 z52 h => ?_) (fun _ _ _ _ _ _ h => h))
            show am_E d m_X8_read 90 _ _ _ [] K48 N49 I50 P51 z52 Q am_nx
            refine e_iload dX8_read_90 rfl ?_
            exact e_ret_i dX8_read_92 rfl (Nat.le_of_ble_eq_true rfl) (Nat.le_of_ble_eq_true rfl) h
          · replace h := h.2 hc
            refine e_aload_n dX8_read_69 rfl trivial ?_
            refine e_getr1 dX8_read_70 fk_X8_7 rfl hK39 hb40 ?_
            refine e_bipush dX8_read_73 ?_
            refine e_dup2 dX8_read_75 rfl rfl ?_
            obtain ⟨⟨h0, h1⟩, h⟩ := h
            refine e_iald dX8_read_76 hK41 h0 h1 ?_
            show am_E _ _ _ _ _ _ (am_i (I24 b40 10) :: _) _ _ _ _ _ _ _
            refine e_iconst dX8_read_77 ?_
            refine e_iadd dX8_read_78 ?_
            obtain ⟨⟨h0, h1⟩, h⟩ := h
            refine e_iast dX8_read_79 hK41 h0 h1 ?_
            replace h := h _ rfl
            generalize am_u2 I24 b40 (Int.toNat 10) (am_wr (I24 b40 10 + 1)) = I53 at h ⊢
            refine e_goto (tgt := 90) dX8_read_80 (by decide) ?_
            refine e_iload dX8_read_90 rfl ?_
            exact e_ret_i dX8_read_92 rfl (Nat.le_of_ble_eq_true rfl) (Nat.le_of_ble_eq_true rfl) h
        · replace h := h.2 hc
          refine e_iload_n dX8_read_56 rfl ?_
          refine e_goto (tgt := 61) dX8_read_57 (by decide) ?_
          refine e_istore dX8_read_61 ?_
          refine e_iload dX8_read_63 rfl ?_
          refine e_iconst dX8_read_65 ?_
          refine e_icmp_ne (tgt := 83) dX8_read_66 (by decide) (fun hc => ?_) (fun hc => ?_)
          · replace h := h.1 hc
            refine e_aload_n dX8_read_83 rfl trivial ?_
            refine e_iload dX8_read_84 rfl ?_
            refine e_iload_n dX8_read_86 rfl ?_
            refine e_callV (Mc := m_X8_readFor) (vs := [am_i x21, am_i a1]) (st := []) dX8_read_87 ok_X8_readFor rfl ⟨by decide, rfl⟩ mk_X8_108 im_X8_readFor sl_X8_readFor rfl rfl hK39 (by omega) (Nat.le_of_ble_eq_true rfl) (Nat.le_of_ble_eq_true rfl) (Nat.le_of_ble_eq_true rfl) am_xh_nx (am_C_mono h (fun v K54 N55 I56 P57 z58 h => ?_) (fun _ _ _ _ _ _ h => h))
            show am_E d m_X8_read 90 _ _ _ [] K54 N55 I56 P57 z58 Q am_nx
            refine e_iload dX8_read_90 rfl ?_
            exact e_ret_i dX8_read_92 rfl (Nat.le_of_ble_eq_true rfl) (Nat.le_of_ble_eq_true rfl) h
          · replace h := h.2 hc
            refine e_aload_n dX8_read_69 rfl trivial ?_
            refine e_getr1 dX8_read_70 fk_X8_7 rfl hK39 hb40 ?_
            refine e_bipush dX8_read_73 ?_
            refine e_dup2 dX8_read_75 rfl rfl ?_
            obtain ⟨⟨h0, h1⟩, h⟩ := h
            refine e_iald dX8_read_76 hK41 h0 h1 ?_
            show am_E _ _ _ _ _ _ (am_i (I24 b40 10) :: _) _ _ _ _ _ _ _
            refine e_iconst dX8_read_77 ?_
            refine e_iadd dX8_read_78 ?_
            obtain ⟨⟨h0, h1⟩, h⟩ := h
            refine e_iast dX8_read_79 hK41 h0 h1 ?_
            replace h := h _ rfl
            generalize am_u2 I24 b40 (Int.toNat 10) (am_wr (I24 b40 10 + 1)) = I59 at h ⊢
            refine e_goto (tgt := 90) dX8_read_80 (by decide) ?_
            refine e_iload dX8_read_90 rfl ?_
            exact e_ret_i dX8_read_92 rfl (Nat.le_of_ble_eq_true rfl) (Nat.le_of_ble_eq_true rfl) h
  · replace h := h.2 hc
    refine e_aload_n dX8_read_12 rfl trivial ?_
    refine e_iconst dX8_read_13 ?_
    obtain ⟨hK65, h⟩ := h
    refine e_callV (Mc := m_X8_refuse) (vs := [am_i 1]) (st := []) dX8_read_14 ok_X8_refuse rfl ⟨by decide, rfl⟩ mk_X8_44 im_X8_refuse sl_X8_refuse rfl rfl hK65 (by omega) (Nat.le_of_ble_eq_true rfl) (Nat.le_of_ble_eq_true rfl) (Nat.le_of_ble_eq_true rfl) am_xh_nx (am_C_mono h (fun v K60 N61 I62 P63 z64 h => ?_) (fun _ _ _ _ _ _ h => h))
    replace h := am_iv_or h
    obtain ⟨x66, rfl, h⟩ := h
    show am_E d m_X8_read 17 _ _ _ [am_i x66] K60 N61 I62 P63 z64 Q am_nx
    exact e_ret_i dX8_read_17 rfl (Nat.le_of_ble_eq_true rfl) (Nat.le_of_ble_eq_true rfl) h
set_option maxRecDepth 100000 in
set_option maxHeartbeats 4000000 in
theorem wf_X8_attempt {d : Nat} (hd : 1 ≤ d) {s : Nat} {a1 : Int} {a2 : Int} {K N : Nat → Nat} {I : Nat → Nat → Int} {P : Nat → Nat → Option Nat} {z : Nat} {Q : am_V → am_T} (h :
  K s = 8 ∧ am_C (d - 1) m_X8_ahead [am_r s, am_i a1] K N I P z (fun v K1 N2 I3 P4 z5 => am_iv v fun x7 =>
    K1 s = 8 ∧ am_C (d - 1) m_X8_behind [am_r s, am_i a1] K1 N2 I3 P4 z5 (fun v K8 N9 I10 P11 z12 => am_iv v fun x14 =>
    ((x7 = (-1) →
    K8 s = 8 ∧ ∃ b16, P11 s 0 = some b16 ∧ K8 b16 = 10 ∧ (0 ≤ (9 : Int) ∧ (9 : Int) < N9 b16) ∧ ((x14 = I10 b16 9 →
      (0 ≤ am_wr (34 + a2) ∧ am_wr (34 + a2) < N9 b16) ∧ (0 ≤ am_wr (28 + a2) ∧ am_wr (28 + a2) < N9 b16) ∧ ((I10 b16 (Int.toNat (am_wr (28 + a2))) ≤ I10 b16 (Int.toNat (am_wr (34 + a2))) →
        (0 ≤ am_wr (2600 + a1) ∧ am_wr (2600 + a1) < N9 b16) ∧ ∀ I18, I18 = am_u2 I10 b16 (Int.toNat (am_wr (2600 + a1))) 6 → Q am_nl K8 N9 I18 P11 z12) ∧
        (¬ (I10 b16 (Int.toNat (am_wr (28 + a2))) ≤ I10 b16 (Int.toNat (am_wr (34 + a2)))) →
        (0 ≤ am_wr (800 + a1) ∧ am_wr (800 + a1) < N9 b16) ∧ ∀ I19, I19 = am_u2 I10 b16 (Int.toNat (am_wr (800 + a1))) (am_wr (10 + a2)) → (0 ≤ am_wr (34 + a2) ∧ am_wr (34 + a2) < N9 b16) ∧ (0 ≤ am_wr (34 + a2) ∧ am_wr (34 + a2) < N9 b16) ∧ ∀ I20, I20 = am_u2 I19 b16 (Int.toNat (am_wr (34 + a2))) (am_wr ((I19 b16 (Int.toNat (am_wr (34 + a2)))) + 1)) → (0 ≤ am_wr (40 + a2) ∧ am_wr (40 + a2) < N9 b16) ∧ (0 ≤ am_wr (40 + a2) ∧ am_wr (40 + a2) < N9 b16) ∧ ∀ I21, I21 = am_u2 I20 b16 (Int.toNat (am_wr (40 + a2))) (am_wr ((I20 b16 (Int.toNat (am_wr (40 + a2)))) + 1)) → Q am_nl K8 N9 I21 P11 z12))) ∧
      (¬ (x14 = I10 b16 9) →
      am_C (d - 1) m_X8_tail [am_r s, am_i a1] K8 N9 I10 P11 z12 (fun v K22 N23 I24 P25 z26 => am_iv v fun x27 =>
        K22 s = 8 ∧ ∃ b29, P25 s 0 = some b29 ∧ K22 b29 = 10 ∧ (0 ≤ am_wr (500 + x14) ∧ am_wr (500 + x14) < N23 b29) ∧ (0 ≤ (4 : Int) ∧ (4 : Int) < N23 b29) ∧ ((am_wr (x27 - (I24 b29 (Int.toNat (am_wr (500 + x14))))) < I24 b29 4 →
        (0 ≤ am_wr (2600 + a1) ∧ am_wr (2600 + a1) < N23 b29) ∧ ∀ I31, I31 = am_u2 I24 b29 (Int.toNat (am_wr (2600 + a1))) 5 → Q am_nl K22 N23 I31 P25 z26) ∧
        (¬ (am_wr (x27 - (I24 b29 (Int.toNat (am_wr (500 + x14))))) < I24 b29 4) →
        (0 ≤ am_wr (34 + a2) ∧ am_wr (34 + a2) < N23 b29) ∧ (0 ≤ am_wr (28 + a2) ∧ am_wr (28 + a2) < N23 b29) ∧ ((I24 b29 (Int.toNat (am_wr (28 + a2))) ≤ I24 b29 (Int.toNat (am_wr (34 + a2))) →
          (0 ≤ am_wr (2600 + a1) ∧ am_wr (2600 + a1) < N23 b29) ∧ ∀ I32, I32 = am_u2 I24 b29 (Int.toNat (am_wr (2600 + a1))) 6 → Q am_nl K22 N23 I32 P25 z26) ∧
          (¬ (I24 b29 (Int.toNat (am_wr (28 + a2))) ≤ I24 b29 (Int.toNat (am_wr (34 + a2)))) →
          (0 ≤ am_wr (800 + a1) ∧ am_wr (800 + a1) < N23 b29) ∧ ∀ I33, I33 = am_u2 I24 b29 (Int.toNat (am_wr (800 + a1))) (am_wr (10 + a2)) → (0 ≤ am_wr (34 + a2) ∧ am_wr (34 + a2) < N23 b29) ∧ (0 ≤ am_wr (34 + a2) ∧ am_wr (34 + a2) < N23 b29) ∧ ∀ I34, I34 = am_u2 I33 b29 (Int.toNat (am_wr (34 + a2))) (am_wr ((I33 b29 (Int.toNat (am_wr (34 + a2)))) + 1)) → (0 ≤ am_wr (40 + a2) ∧ am_wr (40 + a2) < N23 b29) ∧ (0 ≤ am_wr (40 + a2) ∧ am_wr (40 + a2) < N23 b29) ∧ ∀ I35, I35 = am_u2 I34 b29 (Int.toNat (am_wr (40 + a2))) (am_wr ((I34 b29 (Int.toNat (am_wr (40 + a2)))) + 1)) → Q am_nl K22 N23 I35 P25 z26))))) am_nx))) ∧
    (¬ (x7 = (-1)) →
    K8 s = 8 ∧ am_C (d - 1) m_X8_tail [am_r s, am_i x7] K8 N9 I10 P11 z12 (fun v K36 N37 I38 P39 z40 => am_iv v fun x42 =>
      K36 s = 8 ∧ ∃ b44, P39 s 0 = some b44 ∧ K36 b44 = 10 ∧ (0 ≤ am_wr (500 + a1) ∧ am_wr (500 + a1) < N37 b44) ∧ (0 ≤ (4 : Int) ∧ (4 : Int) < N37 b44) ∧ ((am_wr (x42 - (I38 b44 (Int.toNat (am_wr (500 + a1))))) < I38 b44 4 →
      (0 ≤ am_wr (2600 + a1) ∧ am_wr (2600 + a1) < N37 b44) ∧ ∀ I46, I46 = am_u2 I38 b44 (Int.toNat (am_wr (2600 + a1))) 5 → Q am_nl K36 N37 I46 P39 z40) ∧
      (¬ (am_wr (x42 - (I38 b44 (Int.toNat (am_wr (500 + a1))))) < I38 b44 4) →
      (0 ≤ (9 : Int) ∧ (9 : Int) < N37 b44) ∧ ((x14 = I38 b44 9 →
        (0 ≤ am_wr (34 + a2) ∧ am_wr (34 + a2) < N37 b44) ∧ (0 ≤ am_wr (28 + a2) ∧ am_wr (28 + a2) < N37 b44) ∧ ((I38 b44 (Int.toNat (am_wr (28 + a2))) ≤ I38 b44 (Int.toNat (am_wr (34 + a2))) →
          (0 ≤ am_wr (2600 + a1) ∧ am_wr (2600 + a1) < N37 b44) ∧ ∀ I47, I47 = am_u2 I38 b44 (Int.toNat (am_wr (2600 + a1))) 6 → Q am_nl K36 N37 I47 P39 z40) ∧
          (¬ (I38 b44 (Int.toNat (am_wr (28 + a2))) ≤ I38 b44 (Int.toNat (am_wr (34 + a2)))) →
          (0 ≤ am_wr (800 + a1) ∧ am_wr (800 + a1) < N37 b44) ∧ ∀ I48, I48 = am_u2 I38 b44 (Int.toNat (am_wr (800 + a1))) (am_wr (10 + a2)) → (0 ≤ am_wr (34 + a2) ∧ am_wr (34 + a2) < N37 b44) ∧ (0 ≤ am_wr (34 + a2) ∧ am_wr (34 + a2) < N37 b44) ∧ ∀ I49, I49 = am_u2 I48 b44 (Int.toNat (am_wr (34 + a2))) (am_wr ((I48 b44 (Int.toNat (am_wr (34 + a2)))) + 1)) → (0 ≤ am_wr (40 + a2) ∧ am_wr (40 + a2) < N37 b44) ∧ (0 ≤ am_wr (40 + a2) ∧ am_wr (40 + a2) < N37 b44) ∧ ∀ I50, I50 = am_u2 I49 b44 (Int.toNat (am_wr (40 + a2))) (am_wr ((I49 b44 (Int.toNat (am_wr (40 + a2)))) + 1)) → Q am_nl K36 N37 I50 P39 z40))) ∧
        (¬ (x14 = I38 b44 9) →
        am_C (d - 1) m_X8_tail [am_r s, am_i a1] K36 N37 I38 P39 z40 (fun v K51 N52 I53 P54 z55 => am_iv v fun x56 =>
          K51 s = 8 ∧ ∃ b58, P54 s 0 = some b58 ∧ K51 b58 = 10 ∧ (0 ≤ am_wr (500 + x14) ∧ am_wr (500 + x14) < N52 b58) ∧ (0 ≤ (4 : Int) ∧ (4 : Int) < N52 b58) ∧ ((am_wr (x56 - (I53 b58 (Int.toNat (am_wr (500 + x14))))) < I53 b58 4 →
          (0 ≤ am_wr (2600 + a1) ∧ am_wr (2600 + a1) < N52 b58) ∧ ∀ I60, I60 = am_u2 I53 b58 (Int.toNat (am_wr (2600 + a1))) 5 → Q am_nl K51 N52 I60 P54 z55) ∧
          (¬ (am_wr (x56 - (I53 b58 (Int.toNat (am_wr (500 + x14))))) < I53 b58 4) →
          (0 ≤ am_wr (34 + a2) ∧ am_wr (34 + a2) < N52 b58) ∧ (0 ≤ am_wr (28 + a2) ∧ am_wr (28 + a2) < N52 b58) ∧ ((I53 b58 (Int.toNat (am_wr (28 + a2))) ≤ I53 b58 (Int.toNat (am_wr (34 + a2))) →
            (0 ≤ am_wr (2600 + a1) ∧ am_wr (2600 + a1) < N52 b58) ∧ ∀ I61, I61 = am_u2 I53 b58 (Int.toNat (am_wr (2600 + a1))) 6 → Q am_nl K51 N52 I61 P54 z55) ∧
            (¬ (I53 b58 (Int.toNat (am_wr (28 + a2))) ≤ I53 b58 (Int.toNat (am_wr (34 + a2)))) →
            (0 ≤ am_wr (800 + a1) ∧ am_wr (800 + a1) < N52 b58) ∧ ∀ I62, I62 = am_u2 I53 b58 (Int.toNat (am_wr (800 + a1))) (am_wr (10 + a2)) → (0 ≤ am_wr (34 + a2) ∧ am_wr (34 + a2) < N52 b58) ∧ (0 ≤ am_wr (34 + a2) ∧ am_wr (34 + a2) < N52 b58) ∧ ∀ I63, I63 = am_u2 I62 b58 (Int.toNat (am_wr (34 + a2))) (am_wr ((I62 b58 (Int.toNat (am_wr (34 + a2)))) + 1)) → (0 ≤ am_wr (40 + a2) ∧ am_wr (40 + a2) < N52 b58) ∧ (0 ≤ am_wr (40 + a2) ∧ am_wr (40 + a2) < N52 b58) ∧ ∀ I64, I64 = am_u2 I63 b58 (Int.toNat (am_wr (40 + a2))) (am_wr ((I63 b58 (Int.toNat (am_wr (40 + a2)))) + 1)) → Q am_nl K51 N52 I64 P54 z55))))) am_nx))))) am_nx))) am_nx) am_nx) :
  am_C d m_X8_attempt [am_r s, am_i a1, am_i a2] K N I P z Q am_nx := by
  refine am_C_of ok_X8_attempt (fun v hv => am_v1all _ rfl v hv) (Nat.le_of_ble_eq_true rfl) ?_
  show am_E d m_X8_attempt 0 0 0 [some (am_r s), some (am_i a1), some (am_i a2), none, none, none] [] K N I P z Q am_nx
  refine e_aload_n dX8_attempt_0 rfl trivial ?_
  refine e_iload_n dX8_attempt_1 rfl ?_
  obtain ⟨hK6, h⟩ := h
  refine e_callV (Mc := m_X8_ahead) (vs := [am_i a1]) (st := []) dX8_attempt_2 ok_X8_ahead rfl ⟨by decide, rfl⟩ mk_X8_93 im_X8_ahead sl_X8_ahead rfl rfl hK6 (by omega) (Nat.le_of_ble_eq_true rfl) (Nat.le_of_ble_eq_true rfl) (Nat.le_of_ble_eq_true rfl) am_xh_nx (am_C_mono h (fun v K1 N2 I3 P4 z5 h => ?_) (fun _ _ _ _ _ _ h => h))
  replace h := am_iv_or h
  obtain ⟨x7, rfl, h⟩ := h
  show am_E d m_X8_attempt 5 _ _ _ [am_i x7] K1 N2 I3 P4 z5 Q am_nx
  refine e_istore_n dX8_attempt_5 ?_
  refine e_aload_n dX8_attempt_6 rfl trivial ?_
  refine e_iload_n dX8_attempt_7 rfl ?_
  obtain ⟨hK13, h⟩ := h
  refine e_callV (Mc := m_X8_behind) (vs := [am_i a1]) (st := []) dX8_attempt_8 ok_X8_behind rfl ⟨by decide, rfl⟩ mk_X8_112 im_X8_behind sl_X8_behind rfl rfl hK13 (by omega) (Nat.le_of_ble_eq_true rfl) (Nat.le_of_ble_eq_true rfl) (Nat.le_of_ble_eq_true rfl) am_xh_nx (am_C_mono h (fun v K8 N9 I10 P11 z12 h => ?_) (fun _ _ _ _ _ _ h => h))
  replace h := am_iv_or h
  obtain ⟨x14, rfl, h⟩ := h
  show am_E d m_X8_attempt 11 _ _ _ [am_i x14] K8 N9 I10 P11 z12 Q am_nx
  refine e_istore dX8_attempt_11 ?_
  refine e_iload_n dX8_attempt_13 rfl ?_
  refine e_iconst dX8_attempt_14 ?_
  refine e_icmp_eq (tgt := 43) dX8_attempt_15 (by decide) (fun hc => ?_) (fun hc => ?_)
  · replace h := h.1 hc
    refine e_iload dX8_attempt_43 rfl ?_
    refine e_aload_n dX8_attempt_45 rfl trivial ?_
    obtain ⟨hK15, h⟩ := h
    obtain ⟨b16, hb16, h⟩ := h
    refine e_getr1 dX8_attempt_46 fk_X8_7 rfl hK15 hb16 ?_
    refine e_bipush dX8_attempt_49 ?_
    obtain ⟨hK17, h⟩ := h
    obtain ⟨⟨h0, h1⟩, h⟩ := h
    refine e_iald dX8_attempt_51 hK17 h0 h1 ?_
    show am_E _ _ _ _ _ _ (am_i (I10 b16 9) :: _) _ _ _ _ _ _ _
    refine e_icmp_eq (tgt := 81) dX8_attempt_52 (by decide) (fun hc => ?_) (fun hc => ?_)
    · replace h := h.1 hc
      refine e_iconst dX8_attempt_81 ?_
      refine e_goto (tgt := 86) dX8_attempt_82 (by decide) ?_
      refine e_istore dX8_attempt_86 ?_
      refine e_iload dX8_attempt_88 rfl ?_
      refine e_if_eq (tgt := 157) dX8_attempt_90 (by decide) (fun q => absurd q (by decide)) (fun _ => ?_)
      refine e_aload_n dX8_attempt_93 rfl trivial ?_
      refine e_getr1 dX8_attempt_94 fk_X8_7 rfl hK15 hb16 ?_
      refine e_bipush dX8_attempt_97 ?_
      refine e_iload_n dX8_attempt_99 rfl ?_
      refine e_iadd dX8_attempt_100 ?_
      obtain ⟨⟨h0, h1⟩, h⟩ := h
      refine e_iald dX8_attempt_101 hK17 h0 h1 ?_
      refine e_aload_n dX8_attempt_102 rfl trivial ?_
      refine e_getr1 dX8_attempt_103 fk_X8_7 rfl hK15 hb16 ?_
      refine e_bipush dX8_attempt_106 ?_
      refine e_iload_n dX8_attempt_108 rfl ?_
      refine e_iadd dX8_attempt_109 ?_
      obtain ⟨⟨h0, h1⟩, h⟩ := h
      refine e_iald dX8_attempt_110 hK17 h0 h1 ?_
      refine e_icmp_ge (tgt := 157) dX8_attempt_111 (by decide) (fun hc => ?_) (fun hc => ?_)
      · replace h := h.1 hc
        refine e_aload_n dX8_attempt_157 rfl trivial ?_
        refine e_getr1 dX8_attempt_158 fk_X8_7 rfl hK15 hb16 ?_
        refine e_sipush dX8_attempt_161 ?_
        refine e_iload_n dX8_attempt_164 rfl ?_
        refine e_iadd dX8_attempt_165 ?_
        refine e_iload dX8_attempt_166 rfl ?_
        refine e_if_eq (tgt := 176) dX8_attempt_168 (by decide) (fun q => absurd q (by decide)) (fun _ => ?_)
        refine e_bipush dX8_attempt_171 ?_
        refine e_goto (tgt := 177) dX8_attempt_173 (by decide) ?_
        obtain ⟨⟨h0, h1⟩, h⟩ := h
        refine e_iast dX8_attempt_177 hK17 h0 h1 ?_
        replace h := h _ rfl
        generalize am_u2 I10 b16 (Int.toNat (am_wr (2600 + a1))) 6 = I18 at h ⊢
        exact e_ret_v dX8_attempt_178 rfl (Nat.le_of_ble_eq_true rfl) (Nat.le_of_ble_eq_true rfl) h
      · replace h := h.2 hc
        refine e_aload_n dX8_attempt_114 rfl trivial ?_
        refine e_getr1 dX8_attempt_115 fk_X8_7 rfl hK15 hb16 ?_
        refine e_sipush dX8_attempt_118 ?_
        refine e_iload_n dX8_attempt_121 rfl ?_
        refine e_iadd dX8_attempt_122 ?_
        refine e_bipush dX8_attempt_123 ?_
        refine e_iload_n dX8_attempt_125 rfl ?_
        refine e_iadd dX8_attempt_126 ?_
        obtain ⟨⟨h0, h1⟩, h⟩ := h
        refine e_iast dX8_attempt_127 hK17 h0 h1 ?_
        replace h := h _ rfl
        generalize am_u2 I10 b16 (Int.toNat (am_wr (800 + a1))) (am_wr (10 + a2)) = I19 at h ⊢
        refine e_aload_n dX8_attempt_128 rfl trivial ?_
        refine e_getr1 dX8_attempt_129 fk_X8_7 rfl hK15 hb16 ?_
        refine e_bipush dX8_attempt_132 ?_
        refine e_iload_n dX8_attempt_134 rfl ?_
        refine e_iadd dX8_attempt_135 ?_
        refine e_dup2 dX8_attempt_136 rfl rfl ?_
        obtain ⟨⟨h0, h1⟩, h⟩ := h
        refine e_iald dX8_attempt_137 hK17 h0 h1 ?_
        refine e_iconst dX8_attempt_138 ?_
        refine e_iadd dX8_attempt_139 ?_
        obtain ⟨⟨h0, h1⟩, h⟩ := h
        refine e_iast dX8_attempt_140 hK17 h0 h1 ?_
        replace h := h _ rfl
        generalize am_u2 I19 b16 (Int.toNat (am_wr (34 + a2))) (am_wr ((I19 b16 (Int.toNat (am_wr (34 + a2)))) + 1)) = I20 at h ⊢
        refine e_aload_n dX8_attempt_141 rfl trivial ?_
        refine e_getr1 dX8_attempt_142 fk_X8_7 rfl hK15 hb16 ?_
        refine e_bipush dX8_attempt_145 ?_
        refine e_iload_n dX8_attempt_147 rfl ?_
        refine e_iadd dX8_attempt_148 ?_
        refine e_dup2 dX8_attempt_149 rfl rfl ?_
        obtain ⟨⟨h0, h1⟩, h⟩ := h
        refine e_iald dX8_attempt_150 hK17 h0 h1 ?_
        refine e_iconst dX8_attempt_151 ?_
        refine e_iadd dX8_attempt_152 ?_
        obtain ⟨⟨h0, h1⟩, h⟩ := h
        refine e_iast dX8_attempt_153 hK17 h0 h1 ?_
        replace h := h _ rfl
        generalize am_u2 I20 b16 (Int.toNat (am_wr (40 + a2))) (am_wr ((I20 b16 (Int.toNat (am_wr (40 + a2)))) + 1)) = I21 at h ⊢
        refine e_goto (tgt := 178) dX8_attempt_154 (by decide) ?_
        exact e_ret_v dX8_attempt_178 rfl (Nat.le_of_ble_eq_true rfl) (Nat.le_of_ble_eq_true rfl) h
    · replace h := h.2 hc
      refine e_aload_n dX8_attempt_55 rfl trivial ?_
      refine e_iload_n dX8_attempt_56 rfl ?_
      refine e_callV (Mc := m_X8_tail) (vs := [am_i a1]) (st := []) dX8_attempt_57 ok_X8_tail rfl ⟨by decide, rfl⟩ mk_X8_99 im_X8_tail sl_X8_tail rfl rfl hK15 (by omega) (Nat.le_of_ble_eq_true rfl) (Nat.le_of_ble_eq_true rfl) (Nat.le_of_ble_eq_true rfl) am_xh_nx (am_C_mono h (fun v K22 N23 I24 P25 z26 h => ?_) (fun _ _ _ _ _ _ h => h))
      replace h := am_iv_or h
      obtain ⟨x27, rfl, h⟩ := h
      show am_E d m_X8_attempt 60 _ _ _ [am_i x27] K22 N23 I24 P25 z26 Q am_nx
      refine e_aload_n dX8_attempt_60 rfl trivial ?_
      obtain ⟨hK28, h⟩ := h
      obtain ⟨b29, hb29, h⟩ := h
      refine e_getr1 dX8_attempt_61 fk_X8_7 rfl hK28 hb29 ?_
      refine e_sipush dX8_attempt_64 ?_
      refine e_iload dX8_attempt_67 rfl ?_
      refine e_iadd dX8_attempt_69 ?_
      obtain ⟨hK30, h⟩ := h
      obtain ⟨⟨h0, h1⟩, h⟩ := h
      refine e_iald dX8_attempt_70 hK30 h0 h1 ?_
      refine e_isub dX8_attempt_71 ?_
      refine e_aload_n dX8_attempt_72 rfl trivial ?_
      refine e_getr1 dX8_attempt_73 fk_X8_7 rfl hK28 hb29 ?_
      refine e_iconst dX8_attempt_76 ?_
      obtain ⟨⟨h0, h1⟩, h⟩ := h
      refine e_iald dX8_attempt_77 hK30 h0 h1 ?_
      show am_E _ _ _ _ _ _ (am_i (I24 b29 4) :: _) _ _ _ _ _ _ _
      refine e_icmp_lt (tgt := 85) dX8_attempt_78 (by decide) (fun hc => ?_) (fun hc => ?_)
      · replace h := h.1 hc
        refine e_iconst dX8_attempt_85 ?_
        refine e_istore dX8_attempt_86 ?_
        refine e_iload dX8_attempt_88 rfl ?_
        refine e_if_eq (tgt := 157) dX8_attempt_90 (by decide) (fun _ => ?_) (fun q => absurd q (by decide))
        refine e_aload_n dX8_attempt_157 rfl trivial ?_
        refine e_getr1 dX8_attempt_158 fk_X8_7 rfl hK28 hb29 ?_
        refine e_sipush dX8_attempt_161 ?_
        refine e_iload_n dX8_attempt_164 rfl ?_
        refine e_iadd dX8_attempt_165 ?_
        refine e_iload dX8_attempt_166 rfl ?_
        refine e_if_eq (tgt := 176) dX8_attempt_168 (by decide) (fun _ => ?_) (fun q => absurd q (by decide))
        refine e_iconst dX8_attempt_176 ?_
        obtain ⟨⟨h0, h1⟩, h⟩ := h
        refine e_iast dX8_attempt_177 hK30 h0 h1 ?_
        replace h := h _ rfl
        generalize am_u2 I24 b29 (Int.toNat (am_wr (2600 + a1))) 5 = I31 at h ⊢
        exact e_ret_v dX8_attempt_178 rfl (Nat.le_of_ble_eq_true rfl) (Nat.le_of_ble_eq_true rfl) h
      · replace h := h.2 hc
        refine e_iconst dX8_attempt_81 ?_
        refine e_goto (tgt := 86) dX8_attempt_82 (by decide) ?_
        refine e_istore dX8_attempt_86 ?_
        refine e_iload dX8_attempt_88 rfl ?_
        refine e_if_eq (tgt := 157) dX8_attempt_90 (by decide) (fun q => absurd q (by decide)) (fun _ => ?_)
        refine e_aload_n dX8_attempt_93 rfl trivial ?_
        refine e_getr1 dX8_attempt_94 fk_X8_7 rfl hK28 hb29 ?_
        refine e_bipush dX8_attempt_97 ?_
        refine e_iload_n dX8_attempt_99 rfl ?_
        refine e_iadd dX8_attempt_100 ?_
        obtain ⟨⟨h0, h1⟩, h⟩ := h
        refine e_iald dX8_attempt_101 hK30 h0 h1 ?_
        refine e_aload_n dX8_attempt_102 rfl trivial ?_
        refine e_getr1 dX8_attempt_103 fk_X8_7 rfl hK28 hb29 ?_
        refine e_bipush dX8_attempt_106 ?_
        refine e_iload_n dX8_attempt_108 rfl ?_
        refine e_iadd dX8_attempt_109 ?_
        obtain ⟨⟨h0, h1⟩, h⟩ := h
        refine e_iald dX8_attempt_110 hK30 h0 h1 ?_
        refine e_icmp_ge (tgt := 157) dX8_attempt_111 (by decide) (fun hc => ?_) (fun hc => ?_)
        · replace h := h.1 hc
          refine e_aload_n dX8_attempt_157 rfl trivial ?_
          refine e_getr1 dX8_attempt_158 fk_X8_7 rfl hK28 hb29 ?_
          refine e_sipush dX8_attempt_161 ?_
          refine e_iload_n dX8_attempt_164 rfl ?_
          refine e_iadd dX8_attempt_165 ?_
          refine e_iload dX8_attempt_166 rfl ?_
          refine e_if_eq (tgt := 176) dX8_attempt_168 (by decide) (fun q => absurd q (by decide)) (fun _ => ?_)
          refine e_bipush dX8_attempt_171 ?_
          refine e_goto (tgt := 177) dX8_attempt_173 (by decide) ?_
          obtain ⟨⟨h0, h1⟩, h⟩ := h
          refine e_iast dX8_attempt_177 hK30 h0 h1 ?_
          replace h := h _ rfl
          generalize am_u2 I24 b29 (Int.toNat (am_wr (2600 + a1))) 6 = I32 at h ⊢
          exact e_ret_v dX8_attempt_178 rfl (Nat.le_of_ble_eq_true rfl) (Nat.le_of_ble_eq_true rfl) h
        · replace h := h.2 hc
          refine e_aload_n dX8_attempt_114 rfl trivial ?_
          refine e_getr1 dX8_attempt_115 fk_X8_7 rfl hK28 hb29 ?_
          refine e_sipush dX8_attempt_118 ?_
          refine e_iload_n dX8_attempt_121 rfl ?_
          refine e_iadd dX8_attempt_122 ?_
          refine e_bipush dX8_attempt_123 ?_
          refine e_iload_n dX8_attempt_125 rfl ?_
          refine e_iadd dX8_attempt_126 ?_
          obtain ⟨⟨h0, h1⟩, h⟩ := h
          refine e_iast dX8_attempt_127 hK30 h0 h1 ?_
          replace h := h _ rfl
          generalize am_u2 I24 b29 (Int.toNat (am_wr (800 + a1))) (am_wr (10 + a2)) = I33 at h ⊢
          refine e_aload_n dX8_attempt_128 rfl trivial ?_
          refine e_getr1 dX8_attempt_129 fk_X8_7 rfl hK28 hb29 ?_
          refine e_bipush dX8_attempt_132 ?_
          refine e_iload_n dX8_attempt_134 rfl ?_
          refine e_iadd dX8_attempt_135 ?_
          refine e_dup2 dX8_attempt_136 rfl rfl ?_
          obtain ⟨⟨h0, h1⟩, h⟩ := h
          refine e_iald dX8_attempt_137 hK30 h0 h1 ?_
          refine e_iconst dX8_attempt_138 ?_
          refine e_iadd dX8_attempt_139 ?_
          obtain ⟨⟨h0, h1⟩, h⟩ := h
          refine e_iast dX8_attempt_140 hK30 h0 h1 ?_
          replace h := h _ rfl
          generalize am_u2 I33 b29 (Int.toNat (am_wr (34 + a2))) (am_wr ((I33 b29 (Int.toNat (am_wr (34 + a2)))) + 1)) = I34 at h ⊢
          refine e_aload_n dX8_attempt_141 rfl trivial ?_
          refine e_getr1 dX8_attempt_142 fk_X8_7 rfl hK28 hb29 ?_
          refine e_bipush dX8_attempt_145 ?_
          refine e_iload_n dX8_attempt_147 rfl ?_
          refine e_iadd dX8_attempt_148 ?_
          refine e_dup2 dX8_attempt_149 rfl rfl ?_
          obtain ⟨⟨h0, h1⟩, h⟩ := h
          refine e_iald dX8_attempt_150 hK30 h0 h1 ?_
          refine e_iconst dX8_attempt_151 ?_
          refine e_iadd dX8_attempt_152 ?_
          obtain ⟨⟨h0, h1⟩, h⟩ := h
          refine e_iast dX8_attempt_153 hK30 h0 h1 ?_
          replace h := h _ rfl
          generalize am_u2 I34 b29 (Int.toNat (am_wr (40 + a2))) (am_wr ((I34 b29 (Int.toNat (am_wr (40 + a2)))) + 1)) = I35 at h ⊢
          refine e_goto (tgt := 178) dX8_attempt_154 (by decide) ?_
          exact e_ret_v dX8_attempt_178 rfl (Nat.le_of_ble_eq_true rfl) (Nat.le_of_ble_eq_true rfl) h
  · replace h := h.2 hc
    refine e_aload_n dX8_attempt_18 rfl trivial ?_
    refine e_iload_n dX8_attempt_19 rfl ?_
    obtain ⟨hK41, h⟩ := h
    refine e_callV (Mc := m_X8_tail) (vs := [am_i x7]) (st := []) dX8_attempt_20 ok_X8_tail rfl ⟨by decide, rfl⟩ mk_X8_99 im_X8_tail sl_X8_tail rfl rfl hK41 (by omega) (Nat.le_of_ble_eq_true rfl) (Nat.le_of_ble_eq_true rfl) (Nat.le_of_ble_eq_true rfl) am_xh_nx (am_C_mono h (fun v K36 N37 I38 P39 z40 h => ?_) (fun _ _ _ _ _ _ h => h))
    replace h := am_iv_or h
    obtain ⟨x42, rfl, h⟩ := h
    show am_E d m_X8_attempt 23 _ _ _ [am_i x42] K36 N37 I38 P39 z40 Q am_nx
    refine e_aload_n dX8_attempt_23 rfl trivial ?_
    obtain ⟨hK43, h⟩ := h
    obtain ⟨b44, hb44, h⟩ := h
    refine e_getr1 dX8_attempt_24 fk_X8_7 rfl hK43 hb44 ?_
    refine e_sipush dX8_attempt_27 ?_
    refine e_iload_n dX8_attempt_30 rfl ?_
    refine e_iadd dX8_attempt_31 ?_
    obtain ⟨hK45, h⟩ := h
    obtain ⟨⟨h0, h1⟩, h⟩ := h
    refine e_iald dX8_attempt_32 hK45 h0 h1 ?_
    refine e_isub dX8_attempt_33 ?_
    refine e_aload_n dX8_attempt_34 rfl trivial ?_
    refine e_getr1 dX8_attempt_35 fk_X8_7 rfl hK43 hb44 ?_
    refine e_iconst dX8_attempt_38 ?_
    obtain ⟨⟨h0, h1⟩, h⟩ := h
    refine e_iald dX8_attempt_39 hK45 h0 h1 ?_
    show am_E _ _ _ _ _ _ (am_i (I38 b44 4) :: _) _ _ _ _ _ _ _
    refine e_icmp_lt (tgt := 85) dX8_attempt_40 (by decide) (fun hc => ?_) (fun hc => ?_)
    · replace h := h.1 hc
      refine e_iconst dX8_attempt_85 ?_
      refine e_istore dX8_attempt_86 ?_
      refine e_iload dX8_attempt_88 rfl ?_
      refine e_if_eq (tgt := 157) dX8_attempt_90 (by decide) (fun _ => ?_) (fun q => absurd q (by decide))
      refine e_aload_n dX8_attempt_157 rfl trivial ?_
      refine e_getr1 dX8_attempt_158 fk_X8_7 rfl hK43 hb44 ?_
      refine e_sipush dX8_attempt_161 ?_
      refine e_iload_n dX8_attempt_164 rfl ?_
      refine e_iadd dX8_attempt_165 ?_
      refine e_iload dX8_attempt_166 rfl ?_
      refine e_if_eq (tgt := 176) dX8_attempt_168 (by decide) (fun _ => ?_) (fun q => absurd q (by decide))
      refine e_iconst dX8_attempt_176 ?_
      obtain ⟨⟨h0, h1⟩, h⟩ := h
      refine e_iast dX8_attempt_177 hK45 h0 h1 ?_
      replace h := h _ rfl
      generalize am_u2 I38 b44 (Int.toNat (am_wr (2600 + a1))) 5 = I46 at h ⊢
      exact e_ret_v dX8_attempt_178 rfl (Nat.le_of_ble_eq_true rfl) (Nat.le_of_ble_eq_true rfl) h
    · replace h := h.2 hc
      refine e_iload dX8_attempt_43 rfl ?_
      refine e_aload_n dX8_attempt_45 rfl trivial ?_
      refine e_getr1 dX8_attempt_46 fk_X8_7 rfl hK43 hb44 ?_
      refine e_bipush dX8_attempt_49 ?_
      obtain ⟨⟨h0, h1⟩, h⟩ := h
      refine e_iald dX8_attempt_51 hK45 h0 h1 ?_
      show am_E _ _ _ _ _ _ (am_i (I38 b44 9) :: _) _ _ _ _ _ _ _
      refine e_icmp_eq (tgt := 81) dX8_attempt_52 (by decide) (fun hc => ?_) (fun hc => ?_)
      · replace h := h.1 hc
        refine e_iconst dX8_attempt_81 ?_
        refine e_goto (tgt := 86) dX8_attempt_82 (by decide) ?_
        refine e_istore dX8_attempt_86 ?_
        refine e_iload dX8_attempt_88 rfl ?_
        refine e_if_eq (tgt := 157) dX8_attempt_90 (by decide) (fun q => absurd q (by decide)) (fun _ => ?_)
        refine e_aload_n dX8_attempt_93 rfl trivial ?_
        refine e_getr1 dX8_attempt_94 fk_X8_7 rfl hK43 hb44 ?_
        refine e_bipush dX8_attempt_97 ?_
        refine e_iload_n dX8_attempt_99 rfl ?_
        refine e_iadd dX8_attempt_100 ?_
        obtain ⟨⟨h0, h1⟩, h⟩ := h
        refine e_iald dX8_attempt_101 hK45 h0 h1 ?_
        refine e_aload_n dX8_attempt_102 rfl trivial ?_
        refine e_getr1 dX8_attempt_103 fk_X8_7 rfl hK43 hb44 ?_
        refine e_bipush dX8_attempt_106 ?_
        refine e_iload_n dX8_attempt_108 rfl ?_
        refine e_iadd dX8_attempt_109 ?_
        obtain ⟨⟨h0, h1⟩, h⟩ := h
        refine e_iald dX8_attempt_110 hK45 h0 h1 ?_
        refine e_icmp_ge (tgt := 157) dX8_attempt_111 (by decide) (fun hc => ?_) (fun hc => ?_)
        · replace h := h.1 hc
          refine e_aload_n dX8_attempt_157 rfl trivial ?_
          refine e_getr1 dX8_attempt_158 fk_X8_7 rfl hK43 hb44 ?_
          refine e_sipush dX8_attempt_161 ?_
          refine e_iload_n dX8_attempt_164 rfl ?_
          refine e_iadd dX8_attempt_165 ?_
          refine e_iload dX8_attempt_166 rfl ?_
          refine e_if_eq (tgt := 176) dX8_attempt_168 (by decide) (fun q => absurd q (by decide)) (fun _ => ?_)
          refine e_bipush dX8_attempt_171 ?_
          refine e_goto (tgt := 177) dX8_attempt_173 (by decide) ?_
          obtain ⟨⟨h0, h1⟩, h⟩ := h
          refine e_iast dX8_attempt_177 hK45 h0 h1 ?_
          replace h := h _ rfl
          generalize am_u2 I38 b44 (Int.toNat (am_wr (2600 + a1))) 6 = I47 at h ⊢
          exact e_ret_v dX8_attempt_178 rfl (Nat.le_of_ble_eq_true rfl) (Nat.le_of_ble_eq_true rfl) h
        · replace h := h.2 hc
          refine e_aload_n dX8_attempt_114 rfl trivial ?_
          refine e_getr1 dX8_attempt_115 fk_X8_7 rfl hK43 hb44 ?_
          refine e_sipush dX8_attempt_118 ?_
          refine e_iload_n dX8_attempt_121 rfl ?_
          refine e_iadd dX8_attempt_122 ?_
          refine e_bipush dX8_attempt_123 ?_
          refine e_iload_n dX8_attempt_125 rfl ?_
          refine e_iadd dX8_attempt_126 ?_
          obtain ⟨⟨h0, h1⟩, h⟩ := h
          refine e_iast dX8_attempt_127 hK45 h0 h1 ?_
          replace h := h _ rfl
          generalize am_u2 I38 b44 (Int.toNat (am_wr (800 + a1))) (am_wr (10 + a2)) = I48 at h ⊢
          refine e_aload_n dX8_attempt_128 rfl trivial ?_
          refine e_getr1 dX8_attempt_129 fk_X8_7 rfl hK43 hb44 ?_
          refine e_bipush dX8_attempt_132 ?_
          refine e_iload_n dX8_attempt_134 rfl ?_
          refine e_iadd dX8_attempt_135 ?_
          refine e_dup2 dX8_attempt_136 rfl rfl ?_
          obtain ⟨⟨h0, h1⟩, h⟩ := h
          refine e_iald dX8_attempt_137 hK45 h0 h1 ?_
          refine e_iconst dX8_attempt_138 ?_
          refine e_iadd dX8_attempt_139 ?_
          obtain ⟨⟨h0, h1⟩, h⟩ := h
          refine e_iast dX8_attempt_140 hK45 h0 h1 ?_
          replace h := h _ rfl
          generalize am_u2 I48 b44 (Int.toNat (am_wr (34 + a2))) (am_wr ((I48 b44 (Int.toNat (am_wr (34 + a2)))) + 1)) = I49 at h ⊢
          refine e_aload_n dX8_attempt_141 rfl trivial ?_
          refine e_getr1 dX8_attempt_142 fk_X8_7 rfl hK43 hb44 ?_
          refine e_bipush dX8_attempt_145 ?_
          refine e_iload_n dX8_attempt_147 rfl ?_
          refine e_iadd dX8_attempt_148 ?_
          refine e_dup2 dX8_attempt_149 rfl rfl ?_
          obtain ⟨⟨h0, h1⟩, h⟩ := h
          refine e_iald dX8_attempt_150 hK45 h0 h1 ?_
          refine e_iconst dX8_attempt_151 ?_
          refine e_iadd dX8_attempt_152 ?_
          obtain ⟨⟨h0, h1⟩, h⟩ := h
          refine e_iast dX8_attempt_153 hK45 h0 h1 ?_
          replace h := h _ rfl
          generalize am_u2 I49 b44 (Int.toNat (am_wr (40 + a2))) (am_wr ((I49 b44 (Int.toNat (am_wr (40 + a2)))) + 1)) = I50 at h ⊢
          refine e_goto (tgt := 178) dX8_attempt_154 (by decide) ?_
          exact e_ret_v dX8_attempt_178 rfl (Nat.le_of_ble_eq_true rfl) (Nat.le_of_ble_eq_true rfl) h
      · replace h := h.2 hc
        refine e_aload_n dX8_attempt_55 rfl trivial ?_
        refine e_iload_n dX8_attempt_56 rfl ?_
        refine e_callV (Mc := m_X8_tail) (vs := [am_i a1]) (st := []) dX8_attempt_57 ok_X8_tail rfl ⟨by decide, rfl⟩ mk_X8_99 im_X8_tail sl_X8_tail rfl rfl hK43 (by omega) (Nat.le_of_ble_eq_true rfl) (Nat.le_of_ble_eq_true rfl) (Nat.le_of_ble_eq_true rfl) am_xh_nx (am_C_mono h (fun v K51 N52 I53 P54 z55 h => ?_) (fun _ _ _ _ _ _ h => h))
        replace h := am_iv_or h
        obtain ⟨x56, rfl, h⟩ := h
        show am_E d m_X8_attempt 60 _ _ _ [am_i x56] K51 N52 I53 P54 z55 Q am_nx
        refine e_aload_n dX8_attempt_60 rfl trivial ?_
        obtain ⟨hK57, h⟩ := h
        obtain ⟨b58, hb58, h⟩ := h
        refine e_getr1 dX8_attempt_61 fk_X8_7 rfl hK57 hb58 ?_
        refine e_sipush dX8_attempt_64 ?_
        refine e_iload dX8_attempt_67 rfl ?_
        refine e_iadd dX8_attempt_69 ?_
        obtain ⟨hK59, h⟩ := h
        obtain ⟨⟨h0, h1⟩, h⟩ := h
        refine e_iald dX8_attempt_70 hK59 h0 h1 ?_
        refine e_isub dX8_attempt_71 ?_
        refine e_aload_n dX8_attempt_72 rfl trivial ?_
        refine e_getr1 dX8_attempt_73 fk_X8_7 rfl hK57 hb58 ?_
        refine e_iconst dX8_attempt_76 ?_
        obtain ⟨⟨h0, h1⟩, h⟩ := h
        refine e_iald dX8_attempt_77 hK59 h0 h1 ?_
        show am_E _ _ _ _ _ _ (am_i (I53 b58 4) :: _) _ _ _ _ _ _ _
        refine e_icmp_lt (tgt := 85) dX8_attempt_78 (by decide) (fun hc => ?_) (fun hc => ?_)
        · replace h := h.1 hc
          refine e_iconst dX8_attempt_85 ?_
          refine e_istore dX8_attempt_86 ?_
          refine e_iload dX8_attempt_88 rfl ?_
          refine e_if_eq (tgt := 157) dX8_attempt_90 (by decide) (fun _ => ?_) (fun q => absurd q (by decide))
          refine e_aload_n dX8_attempt_157 rfl trivial ?_
          refine e_getr1 dX8_attempt_158 fk_X8_7 rfl hK57 hb58 ?_
          refine e_sipush dX8_attempt_161 ?_
          refine e_iload_n dX8_attempt_164 rfl ?_
          refine e_iadd dX8_attempt_165 ?_
          refine e_iload dX8_attempt_166 rfl ?_
          refine e_if_eq (tgt := 176) dX8_attempt_168 (by decide) (fun _ => ?_) (fun q => absurd q (by decide))
          refine e_iconst dX8_attempt_176 ?_
          obtain ⟨⟨h0, h1⟩, h⟩ := h
          refine e_iast dX8_attempt_177 hK59 h0 h1 ?_
          replace h := h _ rfl
          generalize am_u2 I53 b58 (Int.toNat (am_wr (2600 + a1))) 5 = I60 at h ⊢
          exact e_ret_v dX8_attempt_178 rfl (Nat.le_of_ble_eq_true rfl) (Nat.le_of_ble_eq_true rfl) h
        · replace h := h.2 hc
          refine e_iconst dX8_attempt_81 ?_
          refine e_goto (tgt := 86) dX8_attempt_82 (by decide) ?_
          refine e_istore dX8_attempt_86 ?_
          refine e_iload dX8_attempt_88 rfl ?_
          refine e_if_eq (tgt := 157) dX8_attempt_90 (by decide) (fun q => absurd q (by decide)) (fun _ => ?_)
          refine e_aload_n dX8_attempt_93 rfl trivial ?_
          refine e_getr1 dX8_attempt_94 fk_X8_7 rfl hK57 hb58 ?_
          refine e_bipush dX8_attempt_97 ?_
          refine e_iload_n dX8_attempt_99 rfl ?_
          refine e_iadd dX8_attempt_100 ?_
          obtain ⟨⟨h0, h1⟩, h⟩ := h
          refine e_iald dX8_attempt_101 hK59 h0 h1 ?_
          refine e_aload_n dX8_attempt_102 rfl trivial ?_
          refine e_getr1 dX8_attempt_103 fk_X8_7 rfl hK57 hb58 ?_
          refine e_bipush dX8_attempt_106 ?_
          refine e_iload_n dX8_attempt_108 rfl ?_
          refine e_iadd dX8_attempt_109 ?_
          obtain ⟨⟨h0, h1⟩, h⟩ := h
          refine e_iald dX8_attempt_110 hK59 h0 h1 ?_
          refine e_icmp_ge (tgt := 157) dX8_attempt_111 (by decide) (fun hc => ?_) (fun hc => ?_)
          · replace h := h.1 hc
            refine e_aload_n dX8_attempt_157 rfl trivial ?_
            refine e_getr1 dX8_attempt_158 fk_X8_7 rfl hK57 hb58 ?_
            refine e_sipush dX8_attempt_161 ?_
            refine e_iload_n dX8_attempt_164 rfl ?_
            refine e_iadd dX8_attempt_165 ?_
            refine e_iload dX8_attempt_166 rfl ?_
            refine e_if_eq (tgt := 176) dX8_attempt_168 (by decide) (fun q => absurd q (by decide)) (fun _ => ?_)
            refine e_bipush dX8_attempt_171 ?_
            refine e_goto (tgt := 177) dX8_attempt_173 (by decide) ?_
            obtain ⟨⟨h0, h1⟩, h⟩ := h
            refine e_iast dX8_attempt_177 hK59 h0 h1 ?_
            replace h := h _ rfl
            generalize am_u2 I53 b58 (Int.toNat (am_wr (2600 + a1))) 6 = I61 at h ⊢
            exact e_ret_v dX8_attempt_178 rfl (Nat.le_of_ble_eq_true rfl) (Nat.le_of_ble_eq_true rfl) h
          · replace h := h.2 hc
            refine e_aload_n dX8_attempt_114 rfl trivial ?_
            refine e_getr1 dX8_attempt_115 fk_X8_7 rfl hK57 hb58 ?_
            refine e_sipush dX8_attempt_118 ?_
            refine e_iload_n dX8_attempt_121 rfl ?_
            refine e_iadd dX8_attempt_122 ?_
            refine e_bipush dX8_attempt_123 ?_
            refine e_iload_n dX8_attempt_125 rfl ?_
            refine e_iadd dX8_attempt_126 ?_
            obtain ⟨⟨h0, h1⟩, h⟩ := h
            refine e_iast dX8_attempt_127 hK59 h0 h1 ?_
            replace h := h _ rfl
            generalize am_u2 I53 b58 (Int.toNat (am_wr (800 + a1))) (am_wr (10 + a2)) = I62 at h ⊢
            refine e_aload_n dX8_attempt_128 rfl trivial ?_
            refine e_getr1 dX8_attempt_129 fk_X8_7 rfl hK57 hb58 ?_
            refine e_bipush dX8_attempt_132 ?_
            refine e_iload_n dX8_attempt_134 rfl ?_
            refine e_iadd dX8_attempt_135 ?_
            refine e_dup2 dX8_attempt_136 rfl rfl ?_
            obtain ⟨⟨h0, h1⟩, h⟩ := h
            refine e_iald dX8_attempt_137 hK59 h0 h1 ?_
            refine e_iconst dX8_attempt_138 ?_
            refine e_iadd dX8_attempt_139 ?_
            obtain ⟨⟨h0, h1⟩, h⟩ := h
            refine e_iast dX8_attempt_140 hK59 h0 h1 ?_
            replace h := h _ rfl
            generalize am_u2 I62 b58 (Int.toNat (am_wr (34 + a2))) (am_wr ((I62 b58 (Int.toNat (am_wr (34 + a2)))) + 1)) = I63 at h ⊢
            refine e_aload_n dX8_attempt_141 rfl trivial ?_
            refine e_getr1 dX8_attempt_142 fk_X8_7 rfl hK57 hb58 ?_
            refine e_bipush dX8_attempt_145 ?_
            refine e_iload_n dX8_attempt_147 rfl ?_
            refine e_iadd dX8_attempt_148 ?_
            refine e_dup2 dX8_attempt_149 rfl rfl ?_
            obtain ⟨⟨h0, h1⟩, h⟩ := h
            refine e_iald dX8_attempt_150 hK59 h0 h1 ?_
            refine e_iconst dX8_attempt_151 ?_
            refine e_iadd dX8_attempt_152 ?_
            obtain ⟨⟨h0, h1⟩, h⟩ := h
            refine e_iast dX8_attempt_153 hK59 h0 h1 ?_
            replace h := h _ rfl
            generalize am_u2 I63 b58 (Int.toNat (am_wr (40 + a2))) (am_wr ((I63 b58 (Int.toNat (am_wr (40 + a2)))) + 1)) = I64 at h ⊢
            refine e_goto (tgt := 178) dX8_attempt_154 (by decide) ?_
            exact e_ret_v dX8_attempt_178 rfl (Nat.le_of_ble_eq_true rfl) (Nat.le_of_ble_eq_true rfl) h
set_option maxRecDepth 100000 in
set_option maxHeartbeats 4000000 in
theorem wf_X8_reasonOf {d : Nat} {s : Nat} {a1 : Int} {K N : Nat → Nat} {I : Nat → Nat → Int} {P : Nat → Nat → Option Nat} {z : Nat} {Q : am_V → am_T} (h :
  K s = 8 ∧ ∃ b2, P s 0 = some b2 ∧ K b2 = 10 ∧ (0 ≤ am_wr (1100 + a1) ∧ am_wr (1100 + a1) < N b2) ∧ ((¬ I b2 (Int.toNat (am_wr (1100 + a1))) = (-1) →
    (0 ≤ am_wr (1400 + a1) ∧ am_wr (1400 + a1) < N b2) ∧ ((¬ I b2 (Int.toNat (am_wr (1400 + a1))) = 1 →
      (0 ≤ am_wr (1700 + a1) ∧ am_wr (1700 + a1) < N b2) ∧ ((¬ I b2 (Int.toNat (am_wr (1700 + a1))) = 1 →
        (0 ≤ am_wr (2600 + a1) ∧ am_wr (2600 + a1) < N b2) ∧ ((I b2 (Int.toNat (am_wr (2600 + a1))) ≤ 0 →
          Q (am_i 4) K N I P z) ∧
          (¬ (I b2 (Int.toNat (am_wr (2600 + a1))) ≤ 0) →
          (0 ≤ am_wr (2600 + a1) ∧ am_wr (2600 + a1) < N b2) ∧ Q (am_i (I b2 (Int.toNat (am_wr (2600 + a1))))) K N I P z))) ∧
        (I b2 (Int.toNat (am_wr (1700 + a1))) = 1 →
        Q (am_i 3) K N I P z))) ∧
      (I b2 (Int.toNat (am_wr (1400 + a1))) = 1 →
      Q (am_i 2) K N I P z))) ∧
    (I b2 (Int.toNat (am_wr (1100 + a1))) = (-1) →
    Q (am_i 1) K N I P z))) :
  am_C d m_X8_reasonOf [am_r s, am_i a1] K N I P z Q am_nx := by
  refine am_C_of ok_X8_reasonOf (fun v hv => am_v1all _ rfl v hv) (Nat.le_of_ble_eq_true rfl) ?_
  show am_E d m_X8_reasonOf 0 0 0 [some (am_r s), some (am_i a1)] [] K N I P z Q am_nx
  refine e_aload_n dX8_reasonOf_0 rfl trivial ?_
  obtain ⟨hK1, h⟩ := h
  obtain ⟨b2, hb2, h⟩ := h
  refine e_getr1 dX8_reasonOf_1 fk_X8_7 rfl hK1 hb2 ?_
  refine e_sipush dX8_reasonOf_4 ?_
  refine e_iload_n dX8_reasonOf_7 rfl ?_
  refine e_iadd dX8_reasonOf_8 ?_
  obtain ⟨hK3, h⟩ := h
  obtain ⟨⟨h0, h1⟩, h⟩ := h
  refine e_iald dX8_reasonOf_9 hK3 h0 h1 ?_
  refine e_iconst dX8_reasonOf_10 ?_
  refine e_icmp_ne (tgt := 18) dX8_reasonOf_11 (by decide) (fun hc => ?_) (fun hc => ?_)
  · replace h := h.1 hc
    refine e_aload_n dX8_reasonOf_18 rfl trivial ?_
    refine e_getr1 dX8_reasonOf_19 fk_X8_7 rfl hK1 hb2 ?_
    refine e_sipush dX8_reasonOf_22 ?_
    refine e_iload_n dX8_reasonOf_25 rfl ?_
    refine e_iadd dX8_reasonOf_26 ?_
    obtain ⟨⟨h0, h1⟩, h⟩ := h
    refine e_iald dX8_reasonOf_27 hK3 h0 h1 ?_
    refine e_iconst dX8_reasonOf_28 ?_
    refine e_icmp_ne (tgt := 36) dX8_reasonOf_29 (by decide) (fun hc => ?_) (fun hc => ?_)
    · replace h := h.1 hc
      refine e_aload_n dX8_reasonOf_36 rfl trivial ?_
      refine e_getr1 dX8_reasonOf_37 fk_X8_7 rfl hK1 hb2 ?_
      refine e_sipush dX8_reasonOf_40 ?_
      refine e_iload_n dX8_reasonOf_43 rfl ?_
      refine e_iadd dX8_reasonOf_44 ?_
      obtain ⟨⟨h0, h1⟩, h⟩ := h
      refine e_iald dX8_reasonOf_45 hK3 h0 h1 ?_
      refine e_iconst dX8_reasonOf_46 ?_
      refine e_icmp_ne (tgt := 54) dX8_reasonOf_47 (by decide) (fun hc => ?_) (fun hc => ?_)
      · replace h := h.1 hc
        refine e_aload_n dX8_reasonOf_54 rfl trivial ?_
        refine e_getr1 dX8_reasonOf_55 fk_X8_7 rfl hK1 hb2 ?_
        refine e_sipush dX8_reasonOf_58 ?_
        refine e_iload_n dX8_reasonOf_61 rfl ?_
        refine e_iadd dX8_reasonOf_62 ?_
        obtain ⟨⟨h0, h1⟩, h⟩ := h
        refine e_iald dX8_reasonOf_63 hK3 h0 h1 ?_
        refine e_if_le (tgt := 80) dX8_reasonOf_64 (by decide) (fun hc => ?_) (fun hc => ?_)
        · replace h := h.1 hc
          refine e_iconst dX8_reasonOf_80 ?_
          exact e_ret_i dX8_reasonOf_81 rfl (Nat.le_of_ble_eq_true rfl) (Nat.le_of_ble_eq_true rfl) h
        · replace h := h.2 hc
          refine e_aload_n dX8_reasonOf_67 rfl trivial ?_
          refine e_getr1 dX8_reasonOf_68 fk_X8_7 rfl hK1 hb2 ?_
          refine e_sipush dX8_reasonOf_71 ?_
          refine e_iload_n dX8_reasonOf_74 rfl ?_
          refine e_iadd dX8_reasonOf_75 ?_
          obtain ⟨⟨h0, h1⟩, h⟩ := h
          refine e_iald dX8_reasonOf_76 hK3 h0 h1 ?_
          refine e_goto (tgt := 81) dX8_reasonOf_77 (by decide) ?_
          exact e_ret_i dX8_reasonOf_81 rfl (Nat.le_of_ble_eq_true rfl) (Nat.le_of_ble_eq_true rfl) h
      · replace h := h.2 hc
        refine e_iconst dX8_reasonOf_50 ?_
        refine e_goto (tgt := 81) dX8_reasonOf_51 (by decide) ?_
        exact e_ret_i dX8_reasonOf_81 rfl (Nat.le_of_ble_eq_true rfl) (Nat.le_of_ble_eq_true rfl) h
    · replace h := h.2 hc
      refine e_iconst dX8_reasonOf_32 ?_
      refine e_goto (tgt := 81) dX8_reasonOf_33 (by decide) ?_
      exact e_ret_i dX8_reasonOf_81 rfl (Nat.le_of_ble_eq_true rfl) (Nat.le_of_ble_eq_true rfl) h
  · replace h := h.2 hc
    refine e_iconst dX8_reasonOf_14 ?_
    refine e_goto (tgt := 81) dX8_reasonOf_15 (by decide) ?_
    exact e_ret_i dX8_reasonOf_81 rfl (Nat.le_of_ble_eq_true rfl) (Nat.le_of_ble_eq_true rfl) h
def L_X8_go_12 (d : Nat) (l0 : Nat) (l1 : Int) (K N : Nat → Nat) (I : Nat → Nat → Int) (P : Nat → Nat → Option Nat) (z : Nat) (Q : am_V → am_T) : Prop := am_E d m_X8_go 12 0 0 [some (am_r l0), some (am_i l1), none] [] K N I P z Q am_nx
def L_X8_go_52 (d : Nat) (l0 : Nat) (l1 : Int) (K N : Nat → Nat) (I : Nat → Nat → Int) (P : Nat → Nat → Option Nat) (z : Nat) (Q : am_V → am_T) : Prop := am_E d m_X8_go 52 0 0 [some (am_r l0), some (am_i l1), none] [] K N I P z Q am_nx
def L_X8_go_133 (d : Nat) (l0 : Nat) (l1 : Int) (K N : Nat → Nat) (I : Nat → Nat → Int) (P : Nat → Nat → Option Nat) (z : Nat) (Q : am_V → am_T) : Prop := am_E d m_X8_go 133 0 0 [some (am_r l0), some (am_i l1), none] [] K N I P z Q am_nx
set_option maxRecDepth 100000 in
set_option maxHeartbeats 4000000 in
theorem wf_X8_go {d : Nat} {s : Nat} {K N : Nat → Nat} {I : Nat → Nat → Int} {P : Nat → Nat → Option Nat} {z : Nat} {Q : am_V → am_T} (h :
  K s = 8 ∧ ∃ b2, P s 0 = some b2 ∧ K b2 = 10 ∧ (0 ≤ (0 : Int) ∧ (0 : Int) < N b2) ∧ (0 ≤ (0 : Int) ∧ (0 : Int) < N b2) ∧ ∀ I4, I4 = am_u2 I b2 (Int.toNat 0) (am_wr (I b2 0 + 1)) → L_X8_go_12 d s 0 K N I4 P z Q) :
  am_C d m_X8_go [am_r s] K N I P z Q am_nx := by
  refine am_C_of ok_X8_go (fun v hv => am_v1all _ rfl v hv) (Nat.le_of_ble_eq_true rfl) ?_
  show am_E d m_X8_go 0 0 0 [some (am_r s), none, none] [] K N I P z Q am_nx
  refine e_aload_n dX8_go_0 rfl trivial ?_
  obtain ⟨hK1, h⟩ := h
  obtain ⟨b2, hb2, h⟩ := h
  refine e_getr1 dX8_go_1 fk_X8_7 rfl hK1 hb2 ?_
  refine e_iconst dX8_go_4 ?_
  refine e_dup2 dX8_go_5 rfl rfl ?_
  obtain ⟨hK3, h⟩ := h
  obtain ⟨⟨h0, h1⟩, h⟩ := h
  refine e_iald dX8_go_6 hK3 h0 h1 ?_
  show am_E _ _ _ _ _ _ (am_i (I b2 0) :: _) _ _ _ _ _ _ _
  refine e_iconst dX8_go_7 ?_
  refine e_iadd dX8_go_8 ?_
  obtain ⟨⟨h0, h1⟩, h⟩ := h
  refine e_iast dX8_go_9 hK3 h0 h1 ?_
  replace h := h _ rfl
  generalize am_u2 I b2 (Int.toNat 0) (am_wr (I b2 0 + 1)) = I4 at h ⊢
  refine e_iconst dX8_go_10 ?_
  refine e_istore_n dX8_go_11 ?_
  exact e_forget (am_sub_k (am_sub_k (am_sub_d am_sub_nil))) h
set_option maxRecDepth 100000 in
set_option maxHeartbeats 4000000 in
theorem wf_X8_go_12 {d : Nat} (hd : 1 ≤ d) {l0 : Nat} {l1 : Int} {K N : Nat → Nat} {I : Nat → Nat → Int} {P : Nat → Nat → Option Nat} {z : Nat} {Q : am_V → am_T} (h :
  K l0 = 8 ∧ ∃ b2, P l0 0 = some b2 ∧ K b2 = 10 ∧ (0 ≤ (9 : Int) ∧ (9 : Int) < N b2) ∧ ((I b2 9 ≤ l1 →
    L_X8_go_52 d l0 0 K N I P z Q) ∧
    (¬ (I b2 9 ≤ l1) →
    (0 ≤ am_wr (500 + l1) ∧ am_wr (500 + l1) < N b2) ∧ am_C (d - 1) m_X8_isOn [am_r l0, am_i l1] K N I P z (fun v K4 N5 I6 P7 z8 => am_iv v fun x9 =>
      am_C (d - 1) m_X8_one [am_i x9] K4 N5 I6 P7 z8 (fun v K10 N11 I12 P13 z14 => am_iv v fun x15 =>
      K10 b2 = 10 ∧ (0 ≤ am_wr (500 + l1) ∧ am_wr (500 + l1) < N11 b2) ∧ ∀ I17, I17 = am_u2 I12 b2 (Int.toNat (am_wr (500 + l1))) (am_wr ((I b2 (Int.toNat (am_wr (500 + l1)))) + x15)) → L_X8_go_12 d l0 (am_wr (l1 + 1)) K10 N11 I17 P13 z14 Q) am_nx) am_nx))) :
  L_X8_go_12 d l0 l1 K N I P z Q := by
  unfold L_X8_go_12
  refine e_iload_n dX8_go_12 rfl ?_
  refine e_aload_n dX8_go_13 rfl trivial ?_
  obtain ⟨hK1, h⟩ := h
  obtain ⟨b2, hb2, h⟩ := h
  refine e_getr1 dX8_go_14 fk_X8_7 rfl hK1 hb2 ?_
  refine e_bipush dX8_go_17 ?_
  obtain ⟨hK3, h⟩ := h
  obtain ⟨⟨h0, h1⟩, h⟩ := h
  refine e_iald dX8_go_19 hK3 h0 h1 ?_
  show am_E _ _ _ _ _ _ (am_i (I b2 9) :: _) _ _ _ _ _ _ _
  refine e_icmp_ge (tgt := 50) dX8_go_20 (by decide) (fun hc => ?_) (fun hc => ?_)
  · replace h := h.1 hc
    refine e_iconst dX8_go_50 ?_
    refine e_istore_n dX8_go_51 ?_
    exact e_forget (am_sub_k (am_sub_k (am_sub_d am_sub_nil))) h
  · replace h := h.2 hc
    refine e_aload_n dX8_go_23 rfl trivial ?_
    refine e_getr1 dX8_go_24 fk_X8_7 rfl hK1 hb2 ?_
    refine e_sipush dX8_go_27 ?_
    refine e_iload_n dX8_go_30 rfl ?_
    refine e_iadd dX8_go_31 ?_
    refine e_dup2 dX8_go_32 rfl rfl ?_
    obtain ⟨⟨h0, h1⟩, h⟩ := h
    refine e_iald dX8_go_33 hK3 h0 h1 ?_
    refine e_aload_n dX8_go_34 rfl trivial ?_
    refine e_iload_n dX8_go_35 rfl ?_
    refine e_callV (Mc := m_X8_isOn) (vs := [am_i l1]) (st := [am_i (I b2 (Int.toNat (am_wr (500 + l1)))), am_i (am_wr (500 + l1)), am_r b2]) dX8_go_36 ok_X8_isOn rfl ⟨by decide, rfl⟩ mk_X8_32 im_X8_isOn sl_X8_isOn rfl rfl hK1 (by omega) (Nat.le_of_ble_eq_true rfl) (Nat.le_of_ble_eq_true rfl) (Nat.le_of_ble_eq_true rfl) am_xh_nx (am_C_mono h (fun v K4 N5 I6 P7 z8 h => ?_) (fun _ _ _ _ _ _ h => h))
    replace h := am_iv_or h
    obtain ⟨x9, rfl, h⟩ := h
    show am_E d m_X8_go 39 _ _ _ [am_i x9, am_i (I b2 (Int.toNat (am_wr (500 + l1)))), am_i (am_wr (500 + l1)), am_r b2] K4 N5 I6 P7 z8 Q am_nx
    refine e_callS (Mc := m_X8_one) (vs := [am_i x9]) (st := [am_i (I b2 (Int.toNat (am_wr (500 + l1)))), am_i (am_wr (500 + l1)), am_r b2]) dX8_go_39 ok_X8_one rfl mk_X8_36 sm_X8_one rfl rfl (by omega) (Nat.le_of_ble_eq_true rfl) (Nat.le_of_ble_eq_true rfl) (Nat.le_of_ble_eq_true rfl) am_xh_nx (am_C_mono h (fun v K10 N11 I12 P13 z14 h => ?_) (fun _ _ _ _ _ _ h => h))
    replace h := am_iv_or h
    obtain ⟨x15, rfl, h⟩ := h
    show am_E d m_X8_go 42 _ _ _ [am_i x15, am_i (I b2 (Int.toNat (am_wr (500 + l1)))), am_i (am_wr (500 + l1)), am_r b2] K10 N11 I12 P13 z14 Q am_nx
    refine e_iadd dX8_go_42 ?_
    obtain ⟨hK16, h⟩ := h
    obtain ⟨⟨h0, h1⟩, h⟩ := h
    refine e_iast dX8_go_43 hK16 h0 h1 ?_
    replace h := h _ rfl
    generalize am_u2 I12 b2 (Int.toNat (am_wr (500 + l1))) (am_wr ((I b2 (Int.toNat (am_wr (500 + l1)))) + x15)) = I17 at h ⊢
    refine e_iinc dX8_go_44 rfl ?_
    refine e_goto (tgt := 12) dX8_go_47 (by decide) ?_
    exact e_forget (am_sub_k (am_sub_k (am_sub_d am_sub_nil))) h
set_option maxRecDepth 100000 in
set_option maxHeartbeats 4000000 in
theorem wf_X8_go_52 {d : Nat} (hd : 1 ≤ d) {l0 : Nat} {l1 : Int} {K N : Nat → Nat} {I : Nat → Nat → Int} {P : Nat → Nat → Option Nat} {z : Nat} {Q : am_V → am_T} (h :
  K l0 = 8 ∧ ∃ b2, P l0 0 = some b2 ∧ K b2 = 10 ∧ (0 ≤ (9 : Int) ∧ (9 : Int) < N b2) ∧ ((I b2 9 ≤ l1 →
    L_X8_go_133 d l0 0 K N I P z Q) ∧
    (¬ (I b2 9 ≤ l1) →
    am_C (d - 1) m_X8_isOn [am_r l0, am_i l1] K N I P z (fun v K4 N5 I6 P7 z8 => am_iv v fun x9 =>
      ((x9 = 0 →
      L_X8_go_52 d l0 (am_wr (l1 + 1)) K4 N5 I6 P7 z8 Q) ∧
      (¬ (x9 = 0) →
      K4 l0 = 8 ∧ am_C (d - 1) m_X8_laneOf [am_r l0, am_i l1] K4 N5 I6 P7 z8 (fun v K10 N11 I12 P13 z14 => am_iv v fun x16 =>
        ((x16 = (-1) →
        L_X8_go_52 d l0 (am_wr (l1 + 1)) K10 N11 I12 P13 z14 Q) ∧
        (¬ (x16 = (-1)) →
        K10 l0 = 8 ∧ am_C (d - 1) m_X8_middle [am_r l0, am_i l1] K10 N11 I12 P13 z14 (fun v K17 N18 I19 P20 z21 => am_iv v fun x23 =>
          K17 l0 = 8 ∧ ∃ b25, P20 l0 0 = some b25 ∧ K17 b25 = 10 ∧ (0 ≤ am_wr (16 + x16) ∧ am_wr (16 + x16) < N18 b25) ∧ (0 ≤ am_wr (22 + x16) ∧ am_wr (22 + x16) < N18 b25) ∧ am_C (d - 1) m_X8_in [am_i (am_wr (x23 - (I19 b25 (Int.toNat (am_wr (16 + x16)))))), am_i 0, am_i (am_wr ((I19 b25 (Int.toNat (am_wr (22 + x16)))) - 1))] K17 N18 I19 P20 z21 (fun v K27 N28 I29 P30 z31 => am_iv v fun x32 =>
          ((x32 = 0 →
          L_X8_go_52 d l0 (am_wr (l1 + 1)) K27 N28 I29 P30 z31 Q) ∧
          (¬ (x32 = 0) →
          K27 l0 = 8 ∧ am_C (d - 1) m_X8_attempt [am_r l0, am_i l1, am_i x16] K27 N28 I29 P30 z31 (fun _ K33 N34 I35 P36 z37 =>
            L_X8_go_52 d l0 (am_wr (l1 + 1)) K33 N34 I35 P36 z37 Q) am_nx))) am_nx) am_nx))) am_nx))) am_nx))) :
  L_X8_go_52 d l0 l1 K N I P z Q := by
  unfold L_X8_go_52
  refine e_iload_n dX8_go_52 rfl ?_
  refine e_aload_n dX8_go_53 rfl trivial ?_
  obtain ⟨hK1, h⟩ := h
  obtain ⟨b2, hb2, h⟩ := h
  refine e_getr1 dX8_go_54 fk_X8_7 rfl hK1 hb2 ?_
  refine e_bipush dX8_go_57 ?_
  obtain ⟨hK3, h⟩ := h
  obtain ⟨⟨h0, h1⟩, h⟩ := h
  refine e_iald dX8_go_59 hK3 h0 h1 ?_
  show am_E _ _ _ _ _ _ (am_i (I b2 9) :: _) _ _ _ _ _ _ _
  refine e_icmp_ge (tgt := 131) dX8_go_60 (by decide) (fun hc => ?_) (fun hc => ?_)
  · replace h := h.1 hc
    refine e_iconst dX8_go_131 ?_
    refine e_istore_n dX8_go_132 ?_
    exact e_forget (am_sub_k (am_sub_k (am_sub_d am_sub_nil))) h
  · replace h := h.2 hc
    refine e_aload_n dX8_go_63 rfl trivial ?_
    refine e_iload_n dX8_go_64 rfl ?_
    refine e_callV (Mc := m_X8_isOn) (vs := [am_i l1]) (st := []) dX8_go_65 ok_X8_isOn rfl ⟨by decide, rfl⟩ mk_X8_32 im_X8_isOn sl_X8_isOn rfl rfl hK1 (by omega) (Nat.le_of_ble_eq_true rfl) (Nat.le_of_ble_eq_true rfl) (Nat.le_of_ble_eq_true rfl) am_xh_nx (am_C_mono h (fun v K4 N5 I6 P7 z8 h => ?_) (fun _ _ _ _ _ _ h => h))
    replace h := am_iv_or h
    obtain ⟨x9, rfl, h⟩ := h
    show am_E d m_X8_go 68 _ _ _ [am_i x9] K4 N5 I6 P7 z8 Q am_nx
    refine e_if_eq (tgt := 79) dX8_go_68 (by decide) (fun hc => ?_) (fun hc => ?_)
    · replace h := h.1 hc
      refine e_iconst dX8_go_79 ?_
      refine e_istore_n dX8_go_80 ?_
      refine e_iload_n dX8_go_81 rfl ?_
      refine e_iconst dX8_go_82 ?_
      refine e_icmp_eq (tgt := 125) dX8_go_83 (by decide) (fun _ => ?_) (fun q => absurd q (by decide))
      refine e_iinc dX8_go_125 rfl ?_
      refine e_goto (tgt := 52) dX8_go_128 (by decide) ?_
      exact e_forget (am_sub_k (am_sub_k (am_sub_d am_sub_nil))) h
    · replace h := h.2 hc
      refine e_aload_n dX8_go_71 rfl trivial ?_
      refine e_iload_n dX8_go_72 rfl ?_
      obtain ⟨hK15, h⟩ := h
      refine e_callV (Mc := m_X8_laneOf) (vs := [am_i l1]) (st := []) dX8_go_73 ok_X8_laneOf rfl ⟨by decide, rfl⟩ mk_X8_115 im_X8_laneOf sl_X8_laneOf rfl rfl hK15 (by omega) (Nat.le_of_ble_eq_true rfl) (Nat.le_of_ble_eq_true rfl) (Nat.le_of_ble_eq_true rfl) am_xh_nx (am_C_mono h (fun v K10 N11 I12 P13 z14 h => ?_) (fun _ _ _ _ _ _ h => h))
      replace h := am_iv_or h
      obtain ⟨x16, rfl, h⟩ := h
      show am_E d m_X8_go 76 _ _ _ [am_i x16] K10 N11 I12 P13 z14 Q am_nx
      refine e_goto (tgt := 80) dX8_go_76 (by decide) ?_
      refine e_istore_n dX8_go_80 ?_
      refine e_iload_n dX8_go_81 rfl ?_
      refine e_iconst dX8_go_82 ?_
      refine e_icmp_eq (tgt := 125) dX8_go_83 (by decide) (fun hc => ?_) (fun hc => ?_)
      · replace h := h.1 hc
        refine e_iinc dX8_go_125 rfl ?_
        refine e_goto (tgt := 52) dX8_go_128 (by decide) ?_
        exact e_forget (am_sub_k (am_sub_k (am_sub_d am_sub_nil))) h
      · replace h := h.2 hc
        refine e_aload_n dX8_go_86 rfl trivial ?_
        refine e_iload_n dX8_go_87 rfl ?_
        obtain ⟨hK22, h⟩ := h
        refine e_callV (Mc := m_X8_middle) (vs := [am_i l1]) (st := []) dX8_go_88 ok_X8_middle rfl ⟨by decide, rfl⟩ mk_X8_118 im_X8_middle sl_X8_middle rfl rfl hK22 (by omega) (Nat.le_of_ble_eq_true rfl) (Nat.le_of_ble_eq_true rfl) (Nat.le_of_ble_eq_true rfl) am_xh_nx (am_C_mono h (fun v K17 N18 I19 P20 z21 h => ?_) (fun _ _ _ _ _ _ h => h))
        replace h := am_iv_or h
        obtain ⟨x23, rfl, h⟩ := h
        show am_E d m_X8_go 91 _ _ _ [am_i x23] K17 N18 I19 P20 z21 Q am_nx
        refine e_aload_n dX8_go_91 rfl trivial ?_
        obtain ⟨hK24, h⟩ := h
        obtain ⟨b25, hb25, h⟩ := h
        refine e_getr1 dX8_go_92 fk_X8_7 rfl hK24 hb25 ?_
        refine e_bipush dX8_go_95 ?_
        refine e_iload_n dX8_go_97 rfl ?_
        refine e_iadd dX8_go_98 ?_
        obtain ⟨hK26, h⟩ := h
        obtain ⟨⟨h0, h1⟩, h⟩ := h
        refine e_iald dX8_go_99 hK26 h0 h1 ?_
        refine e_isub dX8_go_100 ?_
        refine e_iconst dX8_go_101 ?_
        refine e_aload_n dX8_go_102 rfl trivial ?_
        refine e_getr1 dX8_go_103 fk_X8_7 rfl hK24 hb25 ?_
        refine e_bipush dX8_go_106 ?_
        refine e_iload_n dX8_go_108 rfl ?_
        refine e_iadd dX8_go_109 ?_
        obtain ⟨⟨h0, h1⟩, h⟩ := h
        refine e_iald dX8_go_110 hK26 h0 h1 ?_
        refine e_iconst dX8_go_111 ?_
        refine e_isub dX8_go_112 ?_
        refine e_callS (Mc := m_X8_in) (vs := [am_i (am_wr (x23 - (I19 b25 (Int.toNat (am_wr (16 + x16)))))), am_i 0, am_i (am_wr ((I19 b25 (Int.toNat (am_wr (22 + x16)))) - 1))]) (st := []) dX8_go_113 ok_X8_in rfl mk_X8_40 sm_X8_in rfl rfl (by omega) (Nat.le_of_ble_eq_true rfl) (Nat.le_of_ble_eq_true rfl) (Nat.le_of_ble_eq_true rfl) am_xh_nx (am_C_mono h (fun v K27 N28 I29 P30 z31 h => ?_) (fun _ _ _ _ _ _ h => h))
        replace h := am_iv_or h
        obtain ⟨x32, rfl, h⟩ := h
        show am_E d m_X8_go 116 _ _ _ [am_i x32] K27 N28 I29 P30 z31 Q am_nx
        refine e_if_eq (tgt := 125) dX8_go_116 (by decide) (fun hc => ?_) (fun hc => ?_)
        · replace h := h.1 hc
          refine e_iinc dX8_go_125 rfl ?_
          refine e_goto (tgt := 52) dX8_go_128 (by decide) ?_
          exact e_forget (am_sub_k (am_sub_k (am_sub_d am_sub_nil))) h
        · replace h := h.2 hc
          refine e_aload_n dX8_go_119 rfl trivial ?_
          refine e_iload_n dX8_go_120 rfl ?_
          refine e_iload_n dX8_go_121 rfl ?_
          obtain ⟨hK38, h⟩ := h
          refine e_callV (Mc := m_X8_attempt) (vs := [am_i l1, am_i x16]) (st := []) dX8_go_122 ok_X8_attempt rfl ⟨by decide, rfl⟩ mk_X8_121 im_X8_attempt sl_X8_attempt rfl rfl hK38 (by omega) (Nat.le_of_ble_eq_true rfl) (Nat.le_of_ble_eq_true rfl) (Nat.le_of_ble_eq_true rfl) am_xh_nx (am_C_mono h (fun v K33 N34 I35 P36 z37 h => ?_) (fun _ _ _ _ _ _ h => h))
          show am_E d m_X8_go 125 _ _ _ [] K33 N34 I35 P36 z37 Q am_nx
          refine e_iinc dX8_go_125 rfl ?_
          refine e_goto (tgt := 52) dX8_go_128 (by decide) ?_
          exact e_forget (am_sub_k (am_sub_k (am_sub_d am_sub_nil))) h
set_option maxRecDepth 100000 in
set_option maxHeartbeats 4000000 in
theorem wf_X8_go_133 {d : Nat} (hd : 1 ≤ d) {l0 : Nat} {l1 : Int} {K N : Nat → Nat} {I : Nat → Nat → Int} {P : Nat → Nat → Option Nat} {z : Nat} {Q : am_V → am_T} (h :
  K l0 = 8 ∧ ∃ b2, P l0 0 = some b2 ∧ K b2 = 10 ∧ (0 ≤ (9 : Int) ∧ (9 : Int) < N b2) ∧ ((I b2 9 ≤ l1 →
    Q am_nl K N I P z) ∧
    (¬ (I b2 9 ≤ l1) →
    am_C (d - 1) m_X8_isOn [am_r l0, am_i l1] K N I P z (fun v K4 N5 I6 P7 z8 => am_iv v fun x9 =>
      ((x9 = 0 →
      L_X8_go_133 d l0 (am_wr (l1 + 1)) K4 N5 I6 P7 z8 Q) ∧
      (¬ (x9 = 0) →
      K4 l0 = 8 ∧ ∃ b11, P7 l0 0 = some b11 ∧ K4 b11 = 10 ∧ (0 ≤ am_wr (500 + l1) ∧ am_wr (500 + l1) < N5 b11) ∧ (0 ≤ (5 : Int) ∧ (5 : Int) < N5 b11) ∧ ((I6 b11 (Int.toNat (am_wr (500 + l1))) < I6 b11 5 →
        L_X8_go_133 d l0 (am_wr (l1 + 1)) K4 N5 I6 P7 z8 Q) ∧
        (¬ (I6 b11 (Int.toNat (am_wr (500 + l1))) < I6 b11 5) →
        am_C (d - 1) m_X8_reasonOf [am_r l0, am_i l1] K4 N5 I6 P7 z8 (fun v K13 N14 I15 P16 z17 => am_iv v fun x18 =>
          K13 b11 = 10 ∧ (0 ≤ am_wr (800 + l1) ∧ am_wr (800 + l1) < N14 b11) ∧ ∀ I20, I20 = am_u2 I15 b11 (Int.toNat (am_wr (800 + l1))) x18 → L_X8_go_133 d l0 (am_wr (l1 + 1)) K13 N14 I20 P16 z17 Q) am_nx))))) am_nx))) :
  L_X8_go_133 d l0 l1 K N I P z Q := by
  unfold L_X8_go_133
  refine e_iload_n dX8_go_133 rfl ?_
  refine e_aload_n dX8_go_134 rfl trivial ?_
  obtain ⟨hK1, h⟩ := h
  obtain ⟨b2, hb2, h⟩ := h
  refine e_getr1 dX8_go_135 fk_X8_7 rfl hK1 hb2 ?_
  refine e_bipush dX8_go_138 ?_
  obtain ⟨hK3, h⟩ := h
  obtain ⟨⟨h0, h1⟩, h⟩ := h
  refine e_iald dX8_go_140 hK3 h0 h1 ?_
  show am_E _ _ _ _ _ _ (am_i (I b2 9) :: _) _ _ _ _ _ _ _
  refine e_icmp_ge (tgt := 192) dX8_go_141 (by decide) (fun hc => ?_) (fun hc => ?_)
  · replace h := h.1 hc
    exact e_ret_v dX8_go_192 rfl (Nat.le_of_ble_eq_true rfl) (Nat.le_of_ble_eq_true rfl) h
  · replace h := h.2 hc
    refine e_aload_n dX8_go_144 rfl trivial ?_
    refine e_iload_n dX8_go_145 rfl ?_
    refine e_callV (Mc := m_X8_isOn) (vs := [am_i l1]) (st := []) dX8_go_146 ok_X8_isOn rfl ⟨by decide, rfl⟩ mk_X8_32 im_X8_isOn sl_X8_isOn rfl rfl hK1 (by omega) (Nat.le_of_ble_eq_true rfl) (Nat.le_of_ble_eq_true rfl) (Nat.le_of_ble_eq_true rfl) am_xh_nx (am_C_mono h (fun v K4 N5 I6 P7 z8 h => ?_) (fun _ _ _ _ _ _ h => h))
    replace h := am_iv_or h
    obtain ⟨x9, rfl, h⟩ := h
    show am_E d m_X8_go 149 _ _ _ [am_i x9] K4 N5 I6 P7 z8 Q am_nx
    refine e_if_eq (tgt := 186) dX8_go_149 (by decide) (fun hc => ?_) (fun hc => ?_)
    · replace h := h.1 hc
      refine e_iinc dX8_go_186 rfl ?_
      refine e_goto (tgt := 133) dX8_go_189 (by decide) ?_
      exact e_forget (am_sub_k (am_sub_k (am_sub_d am_sub_nil))) h
    · replace h := h.2 hc
      refine e_aload_n dX8_go_152 rfl trivial ?_
      obtain ⟨hK10, h⟩ := h
      obtain ⟨b11, hb11, h⟩ := h
      refine e_getr1 dX8_go_153 fk_X8_7 rfl hK10 hb11 ?_
      refine e_sipush dX8_go_156 ?_
      refine e_iload_n dX8_go_159 rfl ?_
      refine e_iadd dX8_go_160 ?_
      obtain ⟨hK12, h⟩ := h
      obtain ⟨⟨h0, h1⟩, h⟩ := h
      refine e_iald dX8_go_161 hK12 h0 h1 ?_
      refine e_aload_n dX8_go_162 rfl trivial ?_
      refine e_getr1 dX8_go_163 fk_X8_7 rfl hK10 hb11 ?_
      refine e_iconst dX8_go_166 ?_
      obtain ⟨⟨h0, h1⟩, h⟩ := h
      refine e_iald dX8_go_167 hK12 h0 h1 ?_
      show am_E _ _ _ _ _ _ (am_i (I6 b11 5) :: _) _ _ _ _ _ _ _
      refine e_icmp_lt (tgt := 186) dX8_go_168 (by decide) (fun hc => ?_) (fun hc => ?_)
      · replace h := h.1 hc
        refine e_iinc dX8_go_186 rfl ?_
        refine e_goto (tgt := 133) dX8_go_189 (by decide) ?_
        exact e_forget (am_sub_k (am_sub_k (am_sub_d am_sub_nil))) h
      · replace h := h.2 hc
        refine e_aload_n dX8_go_171 rfl trivial ?_
        refine e_getr1 dX8_go_172 fk_X8_7 rfl hK10 hb11 ?_
        refine e_sipush dX8_go_175 ?_
        refine e_iload_n dX8_go_178 rfl ?_
        refine e_iadd dX8_go_179 ?_
        refine e_aload_n dX8_go_180 rfl trivial ?_
        refine e_iload_n dX8_go_181 rfl ?_
        refine e_callV (Mc := m_X8_reasonOf) (vs := [am_i l1]) (st := [am_i (am_wr (800 + l1)), am_r b11]) dX8_go_182 ok_X8_reasonOf rfl ⟨by decide, rfl⟩ mk_X8_124 im_X8_reasonOf sl_X8_reasonOf rfl rfl hK10 (by omega) (Nat.le_of_ble_eq_true rfl) (Nat.le_of_ble_eq_true rfl) (Nat.le_of_ble_eq_true rfl) am_xh_nx (am_C_mono h (fun v K13 N14 I15 P16 z17 h => ?_) (fun _ _ _ _ _ _ h => h))
        replace h := am_iv_or h
        obtain ⟨x18, rfl, h⟩ := h
        show am_E d m_X8_go 185 _ _ _ [am_i x18, am_i (am_wr (800 + l1)), am_r b11] K13 N14 I15 P16 z17 Q am_nx
        obtain ⟨hK19, h⟩ := h
        obtain ⟨⟨h0, h1⟩, h⟩ := h
        refine e_iast dX8_go_185 hK19 h0 h1 ?_
        replace h := h _ rfl
        generalize am_u2 I15 b11 (Int.toNat (am_wr (800 + l1))) x18 = I20 at h ⊢
        refine e_iinc dX8_go_186 rfl ?_
        refine e_goto (tgt := 133) dX8_go_189 (by decide) ?_
        exact e_forget (am_sub_k (am_sub_k (am_sub_d am_sub_nil))) h
def L_X8_move_52 (d : Nat) (l0 : Nat) (l1 : Int) (l2 : Int) (l3 : Int) (K N : Nat → Nat) (I : Nat → Nat → Int) (P : Nat → Nat → Option Nat) (z : Nat) (Q : am_V → am_T) : Prop := am_E d m_X8_move 52 0 0 [some (am_r l0), some (am_i l1), some (am_i l2), some (am_i l3)] [] K N I P z Q am_nx
set_option maxRecDepth 100000 in
set_option maxHeartbeats 4000000 in
theorem wf_X8_move {d : Nat} (hd : 1 ≤ d) {s : Nat} {a1 : Int} {K N : Nat → Nat} {I : Nat → Nat → Int} {P : Nat → Nat → Option Nat} {z : Nat} {Q : am_V → am_T} (h :
  K s = 8 ∧ ∀ I2, I2 = am_u2 I s 7 0 → am_C (d - 1) m_X8_in [am_i a1, am_i 1, am_i 500] K N I2 P z (fun v K3 N4 I5 P6 z7 => am_iv v fun x8 =>
    ((¬ x8 = 0 →
    K3 s = 8 ∧ ∃ b10, P6 s 0 = some b10 ∧ K3 b10 = 10 ∧ (0 ≤ (0 : Int) ∧ (0 : Int) < N4 b10) ∧ ((am_wr (I5 b10 0 + a1) ≤ 50000 →
      am_C (d - 1) m_X8_save [am_r s] K3 N4 I5 P6 z7 (fun _ K12 N13 I14 P15 z16 =>
        K12 s = 8 ∧ am_C (d - 1) m_X8_onBelt [am_r s] K12 N13 I14 P15 z16 (fun v K17 N18 I19 P20 z21 => am_iv v fun x23 =>
        L_X8_move_52 d s a1 x23 0 K17 N18 I19 P20 z21 Q) am_nx) am_nx) ∧
      (¬ (am_wr (I5 b10 0 + a1) ≤ 50000) →
      am_C (d - 1) m_X8_refuse [am_r s, am_i 2] K3 N4 I5 P6 z7 (fun v K24 N25 I26 P27 z28 => am_iv v fun x29 =>
        Q (am_i x29) K24 N25 I26 P27 z28) am_nx))) ∧
    (x8 = 0 →
    K3 s = 8 ∧ am_C (d - 1) m_X8_refuse [am_r s, am_i 1] K3 N4 I5 P6 z7 (fun v K30 N31 I32 P33 z34 => am_iv v fun x36 =>
      Q (am_i x36) K30 N31 I32 P33 z34) am_nx))) am_nx) :
  am_C d m_X8_move [am_r s, am_i a1] K N I P z Q am_nx := by
  refine am_C_of ok_X8_move (fun v hv => am_v1all _ rfl v hv) (Nat.le_of_ble_eq_true rfl) ?_
  show am_E d m_X8_move 0 0 0 [some (am_r s), some (am_i a1), none, none] [] K N I P z Q am_nx
  refine e_aload_n dX8_move_0 rfl trivial ?_
  refine e_iconst dX8_move_1 ?_
  obtain ⟨hK1, h⟩ := h
  refine e_puti dX8_move_2 fk_X8_25 rfl (Or.inl rfl) hK1 ?_
  replace h := h _ rfl
  generalize am_u2 I s 7 0 = I2 at h ⊢
  refine e_iload_n dX8_move_5 rfl ?_
  refine e_iconst dX8_move_6 ?_
  refine e_sipush dX8_move_7 ?_
  refine e_callS (Mc := m_X8_in) (vs := [am_i a1, am_i 1, am_i 500]) (st := []) dX8_move_10 ok_X8_in rfl mk_X8_40 sm_X8_in rfl rfl (by omega) (Nat.le_of_ble_eq_true rfl) (Nat.le_of_ble_eq_true rfl) (Nat.le_of_ble_eq_true rfl) am_xh_nx (am_C_mono h (fun v K3 N4 I5 P6 z7 h => ?_) (fun _ _ _ _ _ _ h => h))
  replace h := am_iv_or h
  obtain ⟨x8, rfl, h⟩ := h
  show am_E d m_X8_move 13 _ _ _ [am_i x8] K3 N4 I5 P6 z7 Q am_nx
  refine e_if_ne (tgt := 22) dX8_move_13 (by decide) (fun hc => ?_) (fun hc => ?_)
  · replace h := h.1 hc
    refine e_aload_n dX8_move_22 rfl trivial ?_
    obtain ⟨hK9, h⟩ := h
    obtain ⟨b10, hb10, h⟩ := h
    refine e_getr1 dX8_move_23 fk_X8_7 rfl hK9 hb10 ?_
    refine e_iconst dX8_move_26 ?_
    obtain ⟨hK11, h⟩ := h
    obtain ⟨⟨h0, h1⟩, h⟩ := h
    refine e_iald dX8_move_27 hK11 h0 h1 ?_
    show am_E _ _ _ _ _ _ (am_i (I5 b10 0) :: _) _ _ _ _ _ _ _
    refine e_iload_n dX8_move_28 rfl ?_
    refine e_iadd dX8_move_29 ?_
    refine e_ldc dX8_move_30 lc_X8_127 ?_
    refine e_icmp_le (tgt := 41) dX8_move_32 (by decide) (fun hc => ?_) (fun hc => ?_)
    · replace h := h.1 hc
      refine e_aload_n dX8_move_41 rfl trivial ?_
      refine e_callV (Mc := m_X8_save) (vs := []) (st := []) dX8_move_42 ok_X8_save rfl ⟨by decide, rfl⟩ mk_X8_58 im_X8_save sl_X8_save rfl rfl hK9 (by omega) (Nat.le_of_ble_eq_true rfl) (Nat.le_of_ble_eq_true rfl) (Nat.le_of_ble_eq_true rfl) am_xh_nx (am_C_mono h (fun v K12 N13 I14 P15 z16 h => ?_) (fun _ _ _ _ _ _ h => h))
      show am_E d m_X8_move 45 _ _ _ [] K12 N13 I14 P15 z16 Q am_nx
      refine e_aload_n dX8_move_45 rfl trivial ?_
      obtain ⟨hK22, h⟩ := h
      refine e_callV (Mc := m_X8_onBelt) (vs := []) (st := []) dX8_move_46 ok_X8_onBelt rfl ⟨by decide, rfl⟩ mk_X8_54 im_X8_onBelt sl_X8_onBelt rfl rfl hK22 (by omega) (Nat.le_of_ble_eq_true rfl) (Nat.le_of_ble_eq_true rfl) (Nat.le_of_ble_eq_true rfl) am_xh_nx (am_C_mono h (fun v K17 N18 I19 P20 z21 h => ?_) (fun _ _ _ _ _ _ h => h))
      replace h := am_iv_or h
      obtain ⟨x23, rfl, h⟩ := h
      show am_E d m_X8_move 49 _ _ _ [am_i x23] K17 N18 I19 P20 z21 Q am_nx
      refine e_istore_n dX8_move_49 ?_
      refine e_iconst dX8_move_50 ?_
      refine e_istore_n dX8_move_51 ?_
      exact e_forget (am_sub_k (am_sub_k (am_sub_k (am_sub_k am_sub_nil)))) h
    · replace h := h.2 hc
      refine e_aload_n dX8_move_35 rfl trivial ?_
      refine e_iconst dX8_move_36 ?_
      refine e_callV (Mc := m_X8_refuse) (vs := [am_i 2]) (st := []) dX8_move_37 ok_X8_refuse rfl ⟨by decide, rfl⟩ mk_X8_44 im_X8_refuse sl_X8_refuse rfl rfl hK9 (by omega) (Nat.le_of_ble_eq_true rfl) (Nat.le_of_ble_eq_true rfl) (Nat.le_of_ble_eq_true rfl) am_xh_nx (am_C_mono h (fun v K24 N25 I26 P27 z28 h => ?_) (fun _ _ _ _ _ _ h => h))
      replace h := am_iv_or h
      obtain ⟨x29, rfl, h⟩ := h
      show am_E d m_X8_move 40 _ _ _ [am_i x29] K24 N25 I26 P27 z28 Q am_nx
      exact e_ret_i dX8_move_40 rfl (Nat.le_of_ble_eq_true rfl) (Nat.le_of_ble_eq_true rfl) h
  · replace h := h.2 hc
    refine e_aload_n dX8_move_16 rfl trivial ?_
    refine e_iconst dX8_move_17 ?_
    obtain ⟨hK35, h⟩ := h
    refine e_callV (Mc := m_X8_refuse) (vs := [am_i 1]) (st := []) dX8_move_18 ok_X8_refuse rfl ⟨by decide, rfl⟩ mk_X8_44 im_X8_refuse sl_X8_refuse rfl rfl hK35 (by omega) (Nat.le_of_ble_eq_true rfl) (Nat.le_of_ble_eq_true rfl) (Nat.le_of_ble_eq_true rfl) am_xh_nx (am_C_mono h (fun v K30 N31 I32 P33 z34 h => ?_) (fun _ _ _ _ _ _ h => h))
    replace h := am_iv_or h
    obtain ⟨x36, rfl, h⟩ := h
    show am_E d m_X8_move 21 _ _ _ [am_i x36] K30 N31 I32 P33 z34 Q am_nx
    exact e_ret_i dX8_move_21 rfl (Nat.le_of_ble_eq_true rfl) (Nat.le_of_ble_eq_true rfl) h
set_option maxRecDepth 100000 in
set_option maxHeartbeats 4000000 in
theorem wf_X8_move_52 {d : Nat} (hd : 1 ≤ d) {l0 : Nat} {l1 : Int} {l2 : Int} {l3 : Int} {K N : Nat → Nat} {I : Nat → Nat → Int} {P : Nat → Nat → Option Nat} {z : Nat} {Q : am_V → am_T} (h :
  ((l1 ≤ l3 →
    K l0 = 8 ∧ am_C (d - 1) m_X8_onBelt [am_r l0] K N I P z (fun v K1 N2 I3 P4 z5 => am_iv v fun x7 =>
      Q (am_i (am_wr (l2 - x7))) K1 N2 I3 P4 z5) am_nx) ∧
    (¬ (l1 ≤ l3) →
    K l0 = 8 ∧ am_C (d - 1) m_X8_go [am_r l0] K N I P z (fun _ K8 N9 I10 P11 z12 =>
      L_X8_move_52 d l0 l1 l2 (am_wr (l3 + 1)) K8 N9 I10 P11 z12 Q) am_nx))) :
  L_X8_move_52 d l0 l1 l2 l3 K N I P z Q := by
  unfold L_X8_move_52
  refine e_iload_n dX8_move_52 rfl ?_
  refine e_iload_n dX8_move_53 rfl ?_
  refine e_icmp_ge (tgt := 67) dX8_move_54 (by decide) (fun hc => ?_) (fun hc => ?_)
  · replace h := h.1 hc
    refine e_iload_n dX8_move_67 rfl ?_
    refine e_aload_n dX8_move_68 rfl trivial ?_
    obtain ⟨hK6, h⟩ := h
    refine e_callV (Mc := m_X8_onBelt) (vs := []) (st := [am_i l2]) dX8_move_69 ok_X8_onBelt rfl ⟨by decide, rfl⟩ mk_X8_54 im_X8_onBelt sl_X8_onBelt rfl rfl hK6 (by omega) (Nat.le_of_ble_eq_true rfl) (Nat.le_of_ble_eq_true rfl) (Nat.le_of_ble_eq_true rfl) am_xh_nx (am_C_mono h (fun v K1 N2 I3 P4 z5 h => ?_) (fun _ _ _ _ _ _ h => h))
    replace h := am_iv_or h
    obtain ⟨x7, rfl, h⟩ := h
    show am_E d m_X8_move 72 _ _ _ [am_i x7, am_i l2] K1 N2 I3 P4 z5 Q am_nx
    refine e_isub dX8_move_72 ?_
    exact e_ret_i dX8_move_73 rfl (Nat.le_of_ble_eq_true rfl) (Nat.le_of_ble_eq_true rfl) h
  · replace h := h.2 hc
    refine e_aload_n dX8_move_57 rfl trivial ?_
    obtain ⟨hK13, h⟩ := h
    refine e_callV (Mc := m_X8_go) (vs := []) (st := []) dX8_move_58 ok_X8_go rfl ⟨by decide, rfl⟩ mk_X8_128 im_X8_go sl_X8_go rfl rfl hK13 (by omega) (Nat.le_of_ble_eq_true rfl) (Nat.le_of_ble_eq_true rfl) (Nat.le_of_ble_eq_true rfl) am_xh_nx (am_C_mono h (fun v K8 N9 I10 P11 z12 h => ?_) (fun _ _ _ _ _ _ h => h))
    show am_E d m_X8_move 61 _ _ _ [] K8 N9 I10 P11 z12 Q am_nx
    refine e_iinc dX8_move_61 rfl ?_
    refine e_goto (tgt := 52) dX8_move_64 (by decide) ?_
    exact e_forget (am_sub_k (am_sub_k (am_sub_k (am_sub_k am_sub_nil)))) h
set_option maxRecDepth 100000 in
set_option maxHeartbeats 4000000 in
theorem wf_X8_takeOff {d : Nat} (hd : 1 ≤ d) {s : Nat} {a1 : Int} {K N : Nat → Nat} {I : Nat → Nat → Int} {P : Nat → Nat → Option Nat} {z : Nat} {Q : am_V → am_T} (h :
  K s = 8 ∧ ∀ I2, I2 = am_u2 I s 7 0 → am_C (d - 1) m_X8_isPart [am_r s, am_i a1] K N I2 P z (fun v K3 N4 I5 P6 z7 => am_iv v fun x8 =>
    ((¬ x8 = 0 →
    K3 s = 8 ∧ am_C (d - 1) m_X8_isOn [am_r s, am_i a1] K3 N4 I5 P6 z7 (fun v K9 N10 I11 P12 z13 => am_iv v fun x15 =>
      ((¬ x15 = 0 →
      K9 s = 8 ∧ am_C (d - 1) m_X8_save [am_r s] K9 N10 I11 P12 z13 (fun _ K16 N17 I18 P19 z20 =>
        K16 s = 8 ∧ ∃ b23, P19 s 0 = some b23 ∧ K16 b23 = 10 ∧ (0 ≤ am_wr (800 + a1) ∧ am_wr (800 + a1) < N17 b23) ∧ ∀ I25, I25 = am_u2 I18 b23 (Int.toNat (am_wr (800 + a1))) 9 → (0 ≤ am_wr (500 + a1) ∧ am_wr (500 + a1) < N17 b23) ∧ Q (am_i (I25 b23 (Int.toNat (am_wr (500 + a1))))) K16 N17 I25 P19 z20) am_nx) ∧
      (x15 = 0 →
      K9 s = 8 ∧ am_C (d - 1) m_X8_refuse [am_r s, am_i 2] K9 N10 I11 P12 z13 (fun v K26 N27 I28 P29 z30 => am_iv v fun x32 =>
        Q (am_i x32) K26 N27 I28 P29 z30) am_nx))) am_nx) ∧
    (x8 = 0 →
    K3 s = 8 ∧ am_C (d - 1) m_X8_refuse [am_r s, am_i 1] K3 N4 I5 P6 z7 (fun v K33 N34 I35 P36 z37 => am_iv v fun x39 =>
      Q (am_i x39) K33 N34 I35 P36 z37) am_nx))) am_nx) :
  am_C d m_X8_takeOff [am_r s, am_i a1] K N I P z Q am_nx := by
  refine am_C_of ok_X8_takeOff (fun v hv => am_v1all _ rfl v hv) (Nat.le_of_ble_eq_true rfl) ?_
  show am_E d m_X8_takeOff 0 0 0 [some (am_r s), some (am_i a1)] [] K N I P z Q am_nx
  refine e_aload_n dX8_takeOff_0 rfl trivial ?_
  refine e_iconst dX8_takeOff_1 ?_
  obtain ⟨hK1, h⟩ := h
  refine e_puti dX8_takeOff_2 fk_X8_25 rfl (Or.inl rfl) hK1 ?_
  replace h := h _ rfl
  generalize am_u2 I s 7 0 = I2 at h ⊢
  refine e_aload_n dX8_takeOff_5 rfl trivial ?_
  refine e_iload_n dX8_takeOff_6 rfl ?_
  refine e_callV (Mc := m_X8_isPart) (vs := [am_i a1]) (st := []) dX8_takeOff_7 ok_X8_isPart rfl ⟨by decide, rfl⟩ mk_X8_131 im_X8_isPart sl_X8_isPart rfl rfl hK1 (by omega) (Nat.le_of_ble_eq_true rfl) (Nat.le_of_ble_eq_true rfl) (Nat.le_of_ble_eq_true rfl) am_xh_nx (am_C_mono h (fun v K3 N4 I5 P6 z7 h => ?_) (fun _ _ _ _ _ _ h => h))
  replace h := am_iv_or h
  obtain ⟨x8, rfl, h⟩ := h
  show am_E d m_X8_takeOff 10 _ _ _ [am_i x8] K3 N4 I5 P6 z7 Q am_nx
  refine e_if_ne (tgt := 19) dX8_takeOff_10 (by decide) (fun hc => ?_) (fun hc => ?_)
  · replace h := h.1 hc
    refine e_aload_n dX8_takeOff_19 rfl trivial ?_
    refine e_iload_n dX8_takeOff_20 rfl ?_
    obtain ⟨hK14, h⟩ := h
    refine e_callV (Mc := m_X8_isOn) (vs := [am_i a1]) (st := []) dX8_takeOff_21 ok_X8_isOn rfl ⟨by decide, rfl⟩ mk_X8_32 im_X8_isOn sl_X8_isOn rfl rfl hK14 (by omega) (Nat.le_of_ble_eq_true rfl) (Nat.le_of_ble_eq_true rfl) (Nat.le_of_ble_eq_true rfl) am_xh_nx (am_C_mono h (fun v K9 N10 I11 P12 z13 h => ?_) (fun _ _ _ _ _ _ h => h))
    replace h := am_iv_or h
    obtain ⟨x15, rfl, h⟩ := h
    show am_E d m_X8_takeOff 24 _ _ _ [am_i x15] K9 N10 I11 P12 z13 Q am_nx
    refine e_if_ne (tgt := 33) dX8_takeOff_24 (by decide) (fun hc => ?_) (fun hc => ?_)
    · replace h := h.1 hc
      refine e_aload_n dX8_takeOff_33 rfl trivial ?_
      obtain ⟨hK21, h⟩ := h
      refine e_callV (Mc := m_X8_save) (vs := []) (st := []) dX8_takeOff_34 ok_X8_save rfl ⟨by decide, rfl⟩ mk_X8_58 im_X8_save sl_X8_save rfl rfl hK21 (by omega) (Nat.le_of_ble_eq_true rfl) (Nat.le_of_ble_eq_true rfl) (Nat.le_of_ble_eq_true rfl) am_xh_nx (am_C_mono h (fun v K16 N17 I18 P19 z20 h => ?_) (fun _ _ _ _ _ _ h => h))
      show am_E d m_X8_takeOff 37 _ _ _ [] K16 N17 I18 P19 z20 Q am_nx
      refine e_aload_n dX8_takeOff_37 rfl trivial ?_
      obtain ⟨hK22, h⟩ := h
      obtain ⟨b23, hb23, h⟩ := h
      refine e_getr1 dX8_takeOff_38 fk_X8_7 rfl hK22 hb23 ?_
      refine e_sipush dX8_takeOff_41 ?_
      refine e_iload_n dX8_takeOff_44 rfl ?_
      refine e_iadd dX8_takeOff_45 ?_
      refine e_bipush dX8_takeOff_46 ?_
      obtain ⟨hK24, h⟩ := h
      obtain ⟨⟨h0, h1⟩, h⟩ := h
      refine e_iast dX8_takeOff_48 hK24 h0 h1 ?_
      replace h := h _ rfl
      generalize am_u2 I18 b23 (Int.toNat (am_wr (800 + a1))) 9 = I25 at h ⊢
      refine e_aload_n dX8_takeOff_49 rfl trivial ?_
      refine e_getr1 dX8_takeOff_50 fk_X8_7 rfl hK22 hb23 ?_
      refine e_sipush dX8_takeOff_53 ?_
      refine e_iload_n dX8_takeOff_56 rfl ?_
      refine e_iadd dX8_takeOff_57 ?_
      obtain ⟨⟨h0, h1⟩, h⟩ := h
      refine e_iald dX8_takeOff_58 hK24 h0 h1 ?_
      exact e_ret_i dX8_takeOff_59 rfl (Nat.le_of_ble_eq_true rfl) (Nat.le_of_ble_eq_true rfl) h
    · replace h := h.2 hc
      refine e_aload_n dX8_takeOff_27 rfl trivial ?_
      refine e_iconst dX8_takeOff_28 ?_
      obtain ⟨hK31, h⟩ := h
      refine e_callV (Mc := m_X8_refuse) (vs := [am_i 2]) (st := []) dX8_takeOff_29 ok_X8_refuse rfl ⟨by decide, rfl⟩ mk_X8_44 im_X8_refuse sl_X8_refuse rfl rfl hK31 (by omega) (Nat.le_of_ble_eq_true rfl) (Nat.le_of_ble_eq_true rfl) (Nat.le_of_ble_eq_true rfl) am_xh_nx (am_C_mono h (fun v K26 N27 I28 P29 z30 h => ?_) (fun _ _ _ _ _ _ h => h))
      replace h := am_iv_or h
      obtain ⟨x32, rfl, h⟩ := h
      show am_E d m_X8_takeOff 32 _ _ _ [am_i x32] K26 N27 I28 P29 z30 Q am_nx
      exact e_ret_i dX8_takeOff_32 rfl (Nat.le_of_ble_eq_true rfl) (Nat.le_of_ble_eq_true rfl) h
  · replace h := h.2 hc
    refine e_aload_n dX8_takeOff_13 rfl trivial ?_
    refine e_iconst dX8_takeOff_14 ?_
    obtain ⟨hK38, h⟩ := h
    refine e_callV (Mc := m_X8_refuse) (vs := [am_i 1]) (st := []) dX8_takeOff_15 ok_X8_refuse rfl ⟨by decide, rfl⟩ mk_X8_44 im_X8_refuse sl_X8_refuse rfl rfl hK38 (by omega) (Nat.le_of_ble_eq_true rfl) (Nat.le_of_ble_eq_true rfl) (Nat.le_of_ble_eq_true rfl) am_xh_nx (am_C_mono h (fun v K33 N34 I35 P36 z37 h => ?_) (fun _ _ _ _ _ _ h => h))
    replace h := am_iv_or h
    obtain ⟨x39, rfl, h⟩ := h
    show am_E d m_X8_takeOff 18 _ _ _ [am_i x39] K33 N34 I35 P36 z37 Q am_nx
    exact e_ret_i dX8_takeOff_18 rfl (Nat.le_of_ble_eq_true rfl) (Nat.le_of_ble_eq_true rfl) h
def L_X8_undo_30 (d : Nat) (l0 : Nat) (l1 : Int) (K N : Nat → Nat) (I : Nat → Nat → Int) (P : Nat → Nat → Option Nat) (z : Nat) (Q : am_V → am_T) : Prop := am_E d m_X8_undo 30 0 0 [some (am_r l0), some (am_i l1)] [] K N I P z Q am_nx
set_option maxRecDepth 100000 in
set_option maxHeartbeats 4000000 in
theorem wf_X8_undo {d : Nat} (hd : 1 ≤ d) {s : Nat} {K N : Nat → Nat} {I : Nat → Nat → Int} {P : Nat → Nat → Option Nat} {z : Nat} {Q : am_V → am_T} (h :
  K s = 8 ∧ ∀ I2, I2 = am_u2 I s 7 0 → ((¬ I2 s 5 = 0 →
    ∀ I3, I3 = am_u2 I2 s 5 (am_wr (I2 s 5 - 1)) → L_X8_undo_30 d s 0 K N I3 P z Q) ∧
    (I2 s 5 = 0 →
    am_C (d - 1) m_X8_refuse [am_r s, am_i 1] K N I2 P z (fun v K4 N5 I6 P7 z8 => am_iv v fun x9 =>
      Q (am_i x9) K4 N5 I6 P7 z8) am_nx))) :
  am_C d m_X8_undo [am_r s] K N I P z Q am_nx := by
  refine am_C_of ok_X8_undo (fun v hv => am_v1all _ rfl v hv) (Nat.le_of_ble_eq_true rfl) ?_
  show am_E d m_X8_undo 0 0 0 [some (am_r s), none] [] K N I P z Q am_nx
  refine e_aload_n dX8_undo_0 rfl trivial ?_
  refine e_iconst dX8_undo_1 ?_
  obtain ⟨hK1, h⟩ := h
  refine e_puti dX8_undo_2 fk_X8_25 rfl (Or.inl rfl) hK1 ?_
  replace h := h _ rfl
  generalize am_u2 I s 7 0 = I2 at h ⊢
  refine e_aload_n dX8_undo_5 rfl trivial ?_
  refine e_geti dX8_undo_6 fk_X8_29 rfl hK1 ?_
  refine e_if_ne (tgt := 18) dX8_undo_9 (by decide) (fun hc => ?_) (fun hc => ?_)
  · replace h := h.1 hc
    refine e_aload_n dX8_undo_18 rfl trivial ?_
    refine e_dup dX8_undo_19 rfl ?_
    refine e_geti dX8_undo_20 fk_X8_29 rfl hK1 ?_
    refine e_iconst dX8_undo_23 ?_
    refine e_isub dX8_undo_24 ?_
    refine e_puti dX8_undo_25 fk_X8_29 rfl (Or.inl rfl) hK1 ?_
    replace h := h _ rfl
    generalize am_u2 I2 s 5 (am_wr (I2 s 5 - 1)) = I3 at h ⊢
    refine e_iconst dX8_undo_28 ?_
    refine e_istore_n dX8_undo_29 ?_
    exact e_forget (am_sub_k (am_sub_k am_sub_nil)) h
  · replace h := h.2 hc
    refine e_aload_n dX8_undo_12 rfl trivial ?_
    refine e_iconst dX8_undo_13 ?_
    refine e_callV (Mc := m_X8_refuse) (vs := [am_i 1]) (st := []) dX8_undo_14 ok_X8_refuse rfl ⟨by decide, rfl⟩ mk_X8_44 im_X8_refuse sl_X8_refuse rfl rfl hK1 (by omega) (Nat.le_of_ble_eq_true rfl) (Nat.le_of_ble_eq_true rfl) (Nat.le_of_ble_eq_true rfl) am_xh_nx (am_C_mono h (fun v K4 N5 I6 P7 z8 h => ?_) (fun _ _ _ _ _ _ h => h))
    replace h := am_iv_or h
    obtain ⟨x9, rfl, h⟩ := h
    show am_E d m_X8_undo 17 _ _ _ [am_i x9] K4 N5 I6 P7 z8 Q am_nx
    exact e_ret_i dX8_undo_17 rfl (Nat.le_of_ble_eq_true rfl) (Nat.le_of_ble_eq_true rfl) h
set_option maxRecDepth 100000 in
set_option maxHeartbeats 4000000 in
theorem wf_X8_undo_30 {d : Nat} {l0 : Nat} {l1 : Int} {K N : Nat → Nat} {I : Nat → Nat → Int} {P : Nat → Nat → Option Nat} {z : Nat} {Q : am_V → am_T} (h :
  ((3200 ≤ l1 →
    K l0 = 8 ∧ Q (am_i (I l0 5)) K N I P z) ∧
    (¬ (3200 ≤ l1) →
    K l0 = 8 ∧ ∃ b3, P l0 0 = some b3 ∧ ∃ b4, P l0 1 = some b4 ∧ K b4 = 10 ∧ (0 ≤ am_wr ((am_wr (I l0 5 * 3200)) + l1) ∧ am_wr ((am_wr (I l0 5 * 3200)) + l1) < N b4) ∧ K b3 = 10 ∧ (0 ≤ l1 ∧ l1 < N b3) ∧ ∀ I7, I7 = am_u2 I b3 (Int.toNat l1) (I b4 (Int.toNat (am_wr ((am_wr (I l0 5 * 3200)) + l1)))) → L_X8_undo_30 d l0 (am_wr (l1 + 1)) K N I7 P z Q))) :
  L_X8_undo_30 d l0 l1 K N I P z Q := by
  unfold L_X8_undo_30
  refine e_iload_n dX8_undo_30 rfl ?_
  refine e_sipush dX8_undo_31 ?_
  refine e_icmp_ge (tgt := 64) dX8_undo_34 (by decide) (fun hc => ?_) (fun hc => ?_)
  · replace h := h.1 hc
    refine e_aload_n dX8_undo_64 rfl trivial ?_
    obtain ⟨hK1, h⟩ := h
    refine e_geti dX8_undo_65 fk_X8_29 rfl hK1 ?_
    exact e_ret_i dX8_undo_68 rfl (Nat.le_of_ble_eq_true rfl) (Nat.le_of_ble_eq_true rfl) h
  · replace h := h.2 hc
    refine e_aload_n dX8_undo_37 rfl trivial ?_
    obtain ⟨hK2, h⟩ := h
    obtain ⟨b3, hb3, h⟩ := h
    refine e_getr1 dX8_undo_38 fk_X8_7 rfl hK2 hb3 ?_
    refine e_iload_n dX8_undo_41 rfl ?_
    refine e_aload_n dX8_undo_42 rfl trivial ?_
    obtain ⟨b4, hb4, h⟩ := h
    refine e_getr1 dX8_undo_43 fk_X8_13 rfl hK2 hb4 ?_
    refine e_aload_n dX8_undo_46 rfl trivial ?_
    refine e_geti dX8_undo_47 fk_X8_29 rfl hK2 ?_
    refine e_sipush dX8_undo_50 ?_
    refine e_imul dX8_undo_53 ?_
    refine e_iload_n dX8_undo_54 rfl ?_
    refine e_iadd dX8_undo_55 ?_
    obtain ⟨hK5, h⟩ := h
    obtain ⟨⟨h0, h1⟩, h⟩ := h
    refine e_iald dX8_undo_56 hK5 h0 h1 ?_
    obtain ⟨hK6, h⟩ := h
    obtain ⟨⟨h0, h1⟩, h⟩ := h
    refine e_iast dX8_undo_57 hK6 h0 h1 ?_
    replace h := h _ rfl
    generalize am_u2 I b3 (Int.toNat l1) (I b4 (Int.toNat (am_wr ((am_wr (I l0 5 * 3200)) + l1)))) = I7 at h ⊢
    refine e_iinc dX8_undo_58 rfl ?_
    refine e_goto (tgt := 30) dX8_undo_61 (by decide) ?_
    exact e_forget (am_sub_k (am_sub_k am_sub_nil)) h
set_option maxRecDepth 100000 in
set_option maxHeartbeats 4000000 in
theorem wf_X8_part {d : Nat} (hd : 1 ≤ d) {s : Nat} {a1 : Int} {a2 : Int} {K N : Nat → Nat} {I : Nat → Nat → Int} {P : Nat → Nat → Option Nat} {z : Nat} {Q : am_V → am_T} (h :
  K s = 8 ∧ ∀ I2, I2 = am_u2 I s 7 0 → am_C (d - 1) m_X8_isPart [am_r s, am_i a1] K N I2 P z (fun v K3 N4 I5 P6 z7 => am_iv v fun x8 =>
    ((¬ x8 = 0 →
    ((a2 = 0 →
      K3 s = 8 ∧ ∃ b10, P6 s 0 = some b10 ∧ K3 b10 = 10 ∧ (0 ≤ am_wr (200 + a1) ∧ am_wr (200 + a1) < N4 b10) ∧ Q (am_i (I5 b10 (Int.toNat (am_wr (200 + a1))))) K3 N4 I5 P6 z7) ∧
      (a2 = 1 →
      K3 s = 8 ∧ ∃ b13, P6 s 0 = some b13 ∧ K3 b13 = 10 ∧ (0 ≤ am_wr (800 + a1) ∧ am_wr (800 + a1) < N4 b13) ∧ Q (am_i (I5 b13 (Int.toNat (am_wr (800 + a1))))) K3 N4 I5 P6 z7) ∧
      (a2 = 2 →
      K3 s = 8 ∧ ∃ b16, P6 s 0 = some b16 ∧ K3 b16 = 10 ∧ (0 ≤ am_wr (500 + a1) ∧ am_wr (500 + a1) < N4 b16) ∧ Q (am_i (I5 b16 (Int.toNat (am_wr (500 + a1))))) K3 N4 I5 P6 z7) ∧
      (a2 = 3 →
      K3 s = 8 ∧ ∃ b19, P6 s 0 = some b19 ∧ K3 b19 = 10 ∧ (0 ≤ am_wr (1100 + a1) ∧ am_wr (1100 + a1) < N4 b19) ∧ Q (am_i (I5 b19 (Int.toNat (am_wr (1100 + a1))))) K3 N4 I5 P6 z7) ∧
      (a2 = 4 →
      K3 s = 8 ∧ ∃ b22, P6 s 0 = some b22 ∧ K3 b22 = 10 ∧ (0 ≤ am_wr (1400 + a1) ∧ am_wr (1400 + a1) < N4 b22) ∧ Q (am_i (I5 b22 (Int.toNat (am_wr (1400 + a1))))) K3 N4 I5 P6 z7) ∧
      (a2 = 5 →
      K3 s = 8 ∧ ∃ b25, P6 s 0 = some b25 ∧ K3 b25 = 10 ∧ (0 ≤ am_wr (1700 + a1) ∧ am_wr (1700 + a1) < N4 b25) ∧ Q (am_i (I5 b25 (Int.toNat (am_wr (1700 + a1))))) K3 N4 I5 P6 z7) ∧
      (a2 = 6 →
      K3 s = 8 ∧ ∃ b28, P6 s 0 = some b28 ∧ K3 b28 = 10 ∧ (0 ≤ am_wr (2000 + a1) ∧ am_wr (2000 + a1) < N4 b28) ∧ Q (am_i (I5 b28 (Int.toNat (am_wr (2000 + a1))))) K3 N4 I5 P6 z7) ∧
      (a2 = 7 →
      K3 s = 8 ∧ ∃ b31, P6 s 0 = some b31 ∧ K3 b31 = 10 ∧ (0 ≤ am_wr (2300 + a1) ∧ am_wr (2300 + a1) < N4 b31) ∧ Q (am_i (I5 b31 (Int.toNat (am_wr (2300 + a1))))) K3 N4 I5 P6 z7) ∧
      (a2 = 8 →
      K3 s = 8 ∧ am_C (d - 1) m_X8_isOn [am_r s, am_i a1] K3 N4 I5 P6 z7 (fun v K33 N34 I35 P36 z37 => am_iv v fun x39 =>
        ((x39 = 0 →
        Q (am_i (-1)) K33 N34 I35 P36 z37) ∧
        (¬ (x39 = 0) →
        K33 s = 8 ∧ am_C (d - 1) m_X8_laneOf [am_r s, am_i a1] K33 N34 I35 P36 z37 (fun v K40 N41 I42 P43 z44 => am_iv v fun x46 =>
          Q (am_i x46) K40 N41 I42 P43 z44) am_nx))) am_nx) ∧
      (a2 = 9 →
      K3 s = 8 ∧ ∃ b48, P6 s 0 = some b48 ∧ K3 b48 = 10 ∧ (0 ≤ am_wr (2600 + a1) ∧ am_wr (2600 + a1) < N4 b48) ∧ Q (am_i (I5 b48 (Int.toNat (am_wr (2600 + a1))))) K3 N4 I5 P6 z7) ∧
      ((a2 < 0 ∨ 9 < a2) →
      K3 s = 8 ∧ am_C (d - 1) m_X8_refuse [am_r s, am_i 2] K3 N4 I5 P6 z7 (fun v K50 N51 I52 P53 z54 => am_iv v fun x56 =>
        Q (am_i x56) K50 N51 I52 P53 z54) am_nx))) ∧
    (x8 = 0 →
    K3 s = 8 ∧ am_C (d - 1) m_X8_refuse [am_r s, am_i 1] K3 N4 I5 P6 z7 (fun v K57 N58 I59 P60 z61 => am_iv v fun x63 =>
      Q (am_i x63) K57 N58 I59 P60 z61) am_nx))) am_nx) :
  am_C d m_X8_part [am_r s, am_i a1, am_i a2] K N I P z Q am_nx := by
  refine am_C_of ok_X8_part (fun v hv => am_v1all _ rfl v hv) (Nat.le_of_ble_eq_true rfl) ?_
  show am_E d m_X8_part 0 0 0 [some (am_r s), some (am_i a1), some (am_i a2)] [] K N I P z Q am_nx
  refine e_aload_n dX8_part_0 rfl trivial ?_
  refine e_iconst dX8_part_1 ?_
  obtain ⟨hK1, h⟩ := h
  refine e_puti dX8_part_2 fk_X8_25 rfl (Or.inl rfl) hK1 ?_
  replace h := h _ rfl
  generalize am_u2 I s 7 0 = I2 at h ⊢
  refine e_aload_n dX8_part_5 rfl trivial ?_
  refine e_iload_n dX8_part_6 rfl ?_
  refine e_callV (Mc := m_X8_isPart) (vs := [am_i a1]) (st := []) dX8_part_7 ok_X8_isPart rfl ⟨by decide, rfl⟩ mk_X8_131 im_X8_isPart sl_X8_isPart rfl rfl hK1 (by omega) (Nat.le_of_ble_eq_true rfl) (Nat.le_of_ble_eq_true rfl) (Nat.le_of_ble_eq_true rfl) am_xh_nx (am_C_mono h (fun v K3 N4 I5 P6 z7 h => ?_) (fun _ _ _ _ _ _ h => h))
  replace h := am_iv_or h
  obtain ⟨x8, rfl, h⟩ := h
  show am_E d m_X8_part 10 _ _ _ [am_i x8] K3 N4 I5 P6 z7 Q am_nx
  refine e_if_ne (tgt := 19) dX8_part_10 (by decide) (fun hc => ?_) (fun hc => ?_)
  · replace h := h.1 hc
    refine e_iload_n dX8_part_19 rfl ?_
    refine e_tsw dX8_part_20 (by decide) (by decide) (by decide) ?_ ?_
    · refine ⟨fun hc => ?_, ⟨fun hc => ?_, ⟨fun hc => ?_, ⟨fun hc => ?_, ⟨fun hc => ?_, ⟨fun hc => ?_, ⟨fun hc => ?_, ⟨fun hc => ?_, ⟨fun hc => ?_, ⟨fun hc => ?_, trivial⟩⟩⟩⟩⟩⟩⟩⟩⟩⟩
      · have h := h.1 (by omega)
        show am_E _ _ 76 _ _ _ _ _ _ _ _ _ _ _
        refine e_aload_n dX8_part_76 rfl trivial ?_
        obtain ⟨hK9, h⟩ := h
        obtain ⟨b10, hb10, h⟩ := h
        refine e_getr1 dX8_part_77 fk_X8_7 rfl hK9 hb10 ?_
        refine e_sipush dX8_part_80 ?_
        refine e_iload_n dX8_part_83 rfl ?_
        refine e_iadd dX8_part_84 ?_
        obtain ⟨hK11, h⟩ := h
        obtain ⟨⟨h0, h1⟩, h⟩ := h
        refine e_iald dX8_part_85 hK11 h0 h1 ?_
        exact e_ret_i dX8_part_86 rfl (Nat.le_of_ble_eq_true rfl) (Nat.le_of_ble_eq_true rfl) h
      · have h := h.2.1 (by omega)
        show am_E _ _ 87 _ _ _ _ _ _ _ _ _ _ _
        refine e_aload_n dX8_part_87 rfl trivial ?_
        obtain ⟨hK12, h⟩ := h
        obtain ⟨b13, hb13, h⟩ := h
        refine e_getr1 dX8_part_88 fk_X8_7 rfl hK12 hb13 ?_
        refine e_sipush dX8_part_91 ?_
        refine e_iload_n dX8_part_94 rfl ?_
        refine e_iadd dX8_part_95 ?_
        obtain ⟨hK14, h⟩ := h
        obtain ⟨⟨h0, h1⟩, h⟩ := h
        refine e_iald dX8_part_96 hK14 h0 h1 ?_
        exact e_ret_i dX8_part_97 rfl (Nat.le_of_ble_eq_true rfl) (Nat.le_of_ble_eq_true rfl) h
      · have h := h.2.2.1 (by omega)
        show am_E _ _ 98 _ _ _ _ _ _ _ _ _ _ _
        refine e_aload_n dX8_part_98 rfl trivial ?_
        obtain ⟨hK15, h⟩ := h
        obtain ⟨b16, hb16, h⟩ := h
        refine e_getr1 dX8_part_99 fk_X8_7 rfl hK15 hb16 ?_
        refine e_sipush dX8_part_102 ?_
        refine e_iload_n dX8_part_105 rfl ?_
        refine e_iadd dX8_part_106 ?_
        obtain ⟨hK17, h⟩ := h
        obtain ⟨⟨h0, h1⟩, h⟩ := h
        refine e_iald dX8_part_107 hK17 h0 h1 ?_
        exact e_ret_i dX8_part_108 rfl (Nat.le_of_ble_eq_true rfl) (Nat.le_of_ble_eq_true rfl) h
      · have h := h.2.2.2.1 (by omega)
        show am_E _ _ 109 _ _ _ _ _ _ _ _ _ _ _
        refine e_aload_n dX8_part_109 rfl trivial ?_
        obtain ⟨hK18, h⟩ := h
        obtain ⟨b19, hb19, h⟩ := h
        refine e_getr1 dX8_part_110 fk_X8_7 rfl hK18 hb19 ?_
        refine e_sipush dX8_part_113 ?_
        refine e_iload_n dX8_part_116 rfl ?_
        refine e_iadd dX8_part_117 ?_
        obtain ⟨hK20, h⟩ := h
        obtain ⟨⟨h0, h1⟩, h⟩ := h
        refine e_iald dX8_part_118 hK20 h0 h1 ?_
        exact e_ret_i dX8_part_119 rfl (Nat.le_of_ble_eq_true rfl) (Nat.le_of_ble_eq_true rfl) h
      · have h := h.2.2.2.2.1 (by omega)
        show am_E _ _ 120 _ _ _ _ _ _ _ _ _ _ _
        refine e_aload_n dX8_part_120 rfl trivial ?_
        obtain ⟨hK21, h⟩ := h
        obtain ⟨b22, hb22, h⟩ := h
        refine e_getr1 dX8_part_121 fk_X8_7 rfl hK21 hb22 ?_
        refine e_sipush dX8_part_124 ?_
        refine e_iload_n dX8_part_127 rfl ?_
        refine e_iadd dX8_part_128 ?_
        obtain ⟨hK23, h⟩ := h
        obtain ⟨⟨h0, h1⟩, h⟩ := h
        refine e_iald dX8_part_129 hK23 h0 h1 ?_
        exact e_ret_i dX8_part_130 rfl (Nat.le_of_ble_eq_true rfl) (Nat.le_of_ble_eq_true rfl) h
      · have h := h.2.2.2.2.2.1 (by omega)
        show am_E _ _ 131 _ _ _ _ _ _ _ _ _ _ _
        refine e_aload_n dX8_part_131 rfl trivial ?_
        obtain ⟨hK24, h⟩ := h
        obtain ⟨b25, hb25, h⟩ := h
        refine e_getr1 dX8_part_132 fk_X8_7 rfl hK24 hb25 ?_
        refine e_sipush dX8_part_135 ?_
        refine e_iload_n dX8_part_138 rfl ?_
        refine e_iadd dX8_part_139 ?_
        obtain ⟨hK26, h⟩ := h
        obtain ⟨⟨h0, h1⟩, h⟩ := h
        refine e_iald dX8_part_140 hK26 h0 h1 ?_
        exact e_ret_i dX8_part_141 rfl (Nat.le_of_ble_eq_true rfl) (Nat.le_of_ble_eq_true rfl) h
      · have h := h.2.2.2.2.2.2.1 (by omega)
        show am_E _ _ 142 _ _ _ _ _ _ _ _ _ _ _
        refine e_aload_n dX8_part_142 rfl trivial ?_
        obtain ⟨hK27, h⟩ := h
        obtain ⟨b28, hb28, h⟩ := h
        refine e_getr1 dX8_part_143 fk_X8_7 rfl hK27 hb28 ?_
        refine e_sipush dX8_part_146 ?_
        refine e_iload_n dX8_part_149 rfl ?_
        refine e_iadd dX8_part_150 ?_
        obtain ⟨hK29, h⟩ := h
        obtain ⟨⟨h0, h1⟩, h⟩ := h
        refine e_iald dX8_part_151 hK29 h0 h1 ?_
        exact e_ret_i dX8_part_152 rfl (Nat.le_of_ble_eq_true rfl) (Nat.le_of_ble_eq_true rfl) h
      · have h := h.2.2.2.2.2.2.2.1 (by omega)
        show am_E _ _ 153 _ _ _ _ _ _ _ _ _ _ _
        refine e_aload_n dX8_part_153 rfl trivial ?_
        obtain ⟨hK30, h⟩ := h
        obtain ⟨b31, hb31, h⟩ := h
        refine e_getr1 dX8_part_154 fk_X8_7 rfl hK30 hb31 ?_
        refine e_sipush dX8_part_157 ?_
        refine e_iload_n dX8_part_160 rfl ?_
        refine e_iadd dX8_part_161 ?_
        obtain ⟨hK32, h⟩ := h
        obtain ⟨⟨h0, h1⟩, h⟩ := h
        refine e_iald dX8_part_162 hK32 h0 h1 ?_
        exact e_ret_i dX8_part_163 rfl (Nat.le_of_ble_eq_true rfl) (Nat.le_of_ble_eq_true rfl) h
      · have h := h.2.2.2.2.2.2.2.2.1 (by omega)
        show am_E _ _ 164 _ _ _ _ _ _ _ _ _ _ _
        refine e_aload_n dX8_part_164 rfl trivial ?_
        refine e_iload_n dX8_part_165 rfl ?_
        obtain ⟨hK38, h⟩ := h
        refine e_callV (Mc := m_X8_isOn) (vs := [am_i a1]) (st := []) dX8_part_166 ok_X8_isOn rfl ⟨by decide, rfl⟩ mk_X8_32 im_X8_isOn sl_X8_isOn rfl rfl hK38 (by omega) (Nat.le_of_ble_eq_true rfl) (Nat.le_of_ble_eq_true rfl) (Nat.le_of_ble_eq_true rfl) am_xh_nx (am_C_mono h (fun v K33 N34 I35 P36 z37 h => ?_) (fun _ _ _ _ _ _ h => h))
        replace h := am_iv_or h
        obtain ⟨x39, rfl, h⟩ := h
        show am_E d m_X8_part 169 _ _ _ [am_i x39] K33 N34 I35 P36 z37 Q am_nx
        refine e_if_eq (tgt := 180) dX8_part_169 (by decide) (fun hc => ?_) (fun hc => ?_)
        · replace h := h.1 hc
          refine e_iconst dX8_part_180 ?_
          exact e_ret_i dX8_part_181 rfl (Nat.le_of_ble_eq_true rfl) (Nat.le_of_ble_eq_true rfl) h
        · replace h := h.2 hc
          refine e_aload_n dX8_part_172 rfl trivial ?_
          refine e_iload_n dX8_part_173 rfl ?_
          obtain ⟨hK45, h⟩ := h
          refine e_callV (Mc := m_X8_laneOf) (vs := [am_i a1]) (st := []) dX8_part_174 ok_X8_laneOf rfl ⟨by decide, rfl⟩ mk_X8_115 im_X8_laneOf sl_X8_laneOf rfl rfl hK45 (by omega) (Nat.le_of_ble_eq_true rfl) (Nat.le_of_ble_eq_true rfl) (Nat.le_of_ble_eq_true rfl) am_xh_nx (am_C_mono h (fun v K40 N41 I42 P43 z44 h => ?_) (fun _ _ _ _ _ _ h => h))
          replace h := am_iv_or h
          obtain ⟨x46, rfl, h⟩ := h
          show am_E d m_X8_part 177 _ _ _ [am_i x46] K40 N41 I42 P43 z44 Q am_nx
          refine e_goto (tgt := 181) dX8_part_177 (by decide) ?_
          exact e_ret_i dX8_part_181 rfl (Nat.le_of_ble_eq_true rfl) (Nat.le_of_ble_eq_true rfl) h
      · have h := h.2.2.2.2.2.2.2.2.2.1 (by omega)
        show am_E _ _ 182 _ _ _ _ _ _ _ _ _ _ _
        refine e_aload_n dX8_part_182 rfl trivial ?_
        obtain ⟨hK47, h⟩ := h
        obtain ⟨b48, hb48, h⟩ := h
        refine e_getr1 dX8_part_183 fk_X8_7 rfl hK47 hb48 ?_
        refine e_sipush dX8_part_186 ?_
        refine e_iload_n dX8_part_189 rfl ?_
        refine e_iadd dX8_part_190 ?_
        obtain ⟨hK49, h⟩ := h
        obtain ⟨⟨h0, h1⟩, h⟩ := h
        refine e_iald dX8_part_191 hK49 h0 h1 ?_
        exact e_ret_i dX8_part_192 rfl (Nat.le_of_ble_eq_true rfl) (Nat.le_of_ble_eq_true rfl) h
    · intro hc
      have h := h.2.2.2.2.2.2.2.2.2.2 hc
      show am_E _ _ 193 _ _ _ _ _ _ _ _ _ _ _
      refine e_aload_n dX8_part_193 rfl trivial ?_
      refine e_iconst dX8_part_194 ?_
      obtain ⟨hK55, h⟩ := h
      refine e_callV (Mc := m_X8_refuse) (vs := [am_i 2]) (st := []) dX8_part_195 ok_X8_refuse rfl ⟨by decide, rfl⟩ mk_X8_44 im_X8_refuse sl_X8_refuse rfl rfl hK55 (by omega) (Nat.le_of_ble_eq_true rfl) (Nat.le_of_ble_eq_true rfl) (Nat.le_of_ble_eq_true rfl) am_xh_nx (am_C_mono h (fun v K50 N51 I52 P53 z54 h => ?_) (fun _ _ _ _ _ _ h => h))
      replace h := am_iv_or h
      obtain ⟨x56, rfl, h⟩ := h
      show am_E d m_X8_part 198 _ _ _ [am_i x56] K50 N51 I52 P53 z54 Q am_nx
      exact e_ret_i dX8_part_198 rfl (Nat.le_of_ble_eq_true rfl) (Nat.le_of_ble_eq_true rfl) h
  · replace h := h.2 hc
    refine e_aload_n dX8_part_13 rfl trivial ?_
    refine e_iconst dX8_part_14 ?_
    obtain ⟨hK62, h⟩ := h
    refine e_callV (Mc := m_X8_refuse) (vs := [am_i 1]) (st := []) dX8_part_15 ok_X8_refuse rfl ⟨by decide, rfl⟩ mk_X8_44 im_X8_refuse sl_X8_refuse rfl rfl hK62 (by omega) (Nat.le_of_ble_eq_true rfl) (Nat.le_of_ble_eq_true rfl) (Nat.le_of_ble_eq_true rfl) am_xh_nx (am_C_mono h (fun v K57 N58 I59 P60 z61 h => ?_) (fun _ _ _ _ _ _ h => h))
    replace h := am_iv_or h
    obtain ⟨x63, rfl, h⟩ := h
    show am_E d m_X8_part 18 _ _ _ [am_i x63] K57 N58 I59 P60 z61 Q am_nx
    exact e_ret_i dX8_part_18 rfl (Nat.le_of_ble_eq_true rfl) (Nat.le_of_ble_eq_true rfl) h
def L_X8_routesTo_4 (d : Nat) (l0 : Nat) (l1 : Int) (l2 : Int) (l3 : Int) (K N : Nat → Nat) (I : Nat → Nat → Int) (P : Nat → Nat → Option Nat) (z : Nat) (Q : am_V → am_T) : Prop := am_E d m_X8_routesTo 4 0 0 [some (am_r l0), some (am_i l1), some (am_i l2), some (am_i l3)] [] K N I P z Q am_nx
set_option maxRecDepth 100000 in
set_option maxHeartbeats 4000000 in
theorem wf_X8_routesTo {d : Nat} {s : Nat} {a1 : Int} {K N : Nat → Nat} {I : Nat → Nat → Int} {P : Nat → Nat → Option Nat} {z : Nat} {Q : am_V → am_T} (h :
  L_X8_routesTo_4 d s a1 0 0 K N I P z Q) :
  am_C d m_X8_routesTo [am_r s, am_i a1] K N I P z Q am_nx := by
  refine am_C_of ok_X8_routesTo (fun v hv => am_v1all _ rfl v hv) (Nat.le_of_ble_eq_true rfl) ?_
  show am_E d m_X8_routesTo 0 0 0 [some (am_r s), some (am_i a1), none, none] [] K N I P z Q am_nx
  refine e_iconst dX8_routesTo_0 ?_
  refine e_istore_n dX8_routesTo_1 ?_
  refine e_iconst dX8_routesTo_2 ?_
  refine e_istore_n dX8_routesTo_3 ?_
  exact e_forget (am_sub_k (am_sub_k (am_sub_k (am_sub_k am_sub_nil)))) h
set_option maxRecDepth 100000 in
set_option maxHeartbeats 4000000 in
theorem wf_X8_routesTo_4 {d : Nat} (hd : 1 ≤ d) {l0 : Nat} {l1 : Int} {l2 : Int} {l3 : Int} {K N : Nat → Nat} {I : Nat → Nat → Int} {P : Nat → Nat → Option Nat} {z : Nat} {Q : am_V → am_T} (h :
  K l0 = 8 ∧ ∃ b2, P l0 0 = some b2 ∧ K b2 = 10 ∧ (0 ≤ (8 : Int) ∧ (8 : Int) < N b2) ∧ ((I b2 8 ≤ l3 →
    Q (am_i l2) K N I P z) ∧
    (¬ (I b2 8 ≤ l3) →
    (0 ≤ am_wr (76 + l3) ∧ am_wr (76 + l3) < N b2) ∧ ((¬ I b2 (Int.toNat (am_wr (76 + l3))) = l1 →
      am_C (d - 1) m_X8_one [am_i 0] K N I P z (fun v K4 N5 I6 P7 z8 => am_iv v fun x9 =>
        L_X8_routesTo_4 d l0 l1 (am_wr (l2 + x9)) (am_wr (l3 + 1)) K4 N5 I6 P7 z8 Q) am_nx) ∧
      (I b2 (Int.toNat (am_wr (76 + l3))) = l1 →
      am_C (d - 1) m_X8_one [am_i 1] K N I P z (fun v K10 N11 I12 P13 z14 => am_iv v fun x15 =>
        L_X8_routesTo_4 d l0 l1 (am_wr (l2 + x15)) (am_wr (l3 + 1)) K10 N11 I12 P13 z14 Q) am_nx))))) :
  L_X8_routesTo_4 d l0 l1 l2 l3 K N I P z Q := by
  unfold L_X8_routesTo_4
  refine e_iload_n dX8_routesTo_4 rfl ?_
  refine e_aload_n dX8_routesTo_5 rfl trivial ?_
  obtain ⟨hK1, h⟩ := h
  obtain ⟨b2, hb2, h⟩ := h
  refine e_getr1 dX8_routesTo_6 fk_X8_7 rfl hK1 hb2 ?_
  refine e_bipush dX8_routesTo_9 ?_
  obtain ⟨hK3, h⟩ := h
  obtain ⟨⟨h0, h1⟩, h⟩ := h
  refine e_iald dX8_routesTo_11 hK3 h0 h1 ?_
  show am_E _ _ _ _ _ _ (am_i (I b2 8) :: _) _ _ _ _ _ _ _
  refine e_icmp_ge (tgt := 45) dX8_routesTo_12 (by decide) (fun hc => ?_) (fun hc => ?_)
  · replace h := h.1 hc
    refine e_iload_n dX8_routesTo_45 rfl ?_
    exact e_ret_i dX8_routesTo_46 rfl (Nat.le_of_ble_eq_true rfl) (Nat.le_of_ble_eq_true rfl) h
  · replace h := h.2 hc
    refine e_iload_n dX8_routesTo_15 rfl ?_
    refine e_aload_n dX8_routesTo_16 rfl trivial ?_
    refine e_getr1 dX8_routesTo_17 fk_X8_7 rfl hK1 hb2 ?_
    refine e_bipush dX8_routesTo_20 ?_
    refine e_iload_n dX8_routesTo_22 rfl ?_
    refine e_iadd dX8_routesTo_23 ?_
    obtain ⟨⟨h0, h1⟩, h⟩ := h
    refine e_iald dX8_routesTo_24 hK3 h0 h1 ?_
    refine e_iload_n dX8_routesTo_25 rfl ?_
    refine e_icmp_ne (tgt := 33) dX8_routesTo_26 (by decide) (fun hc => ?_) (fun hc => ?_)
    · replace h := h.1 hc
      refine e_iconst dX8_routesTo_33 ?_
      refine e_callS (Mc := m_X8_one) (vs := [am_i 0]) (st := [am_i l2]) dX8_routesTo_34 ok_X8_one rfl mk_X8_36 sm_X8_one rfl rfl (by omega) (Nat.le_of_ble_eq_true rfl) (Nat.le_of_ble_eq_true rfl) (Nat.le_of_ble_eq_true rfl) am_xh_nx (am_C_mono h (fun v K4 N5 I6 P7 z8 h => ?_) (fun _ _ _ _ _ _ h => h))
      replace h := am_iv_or h
      obtain ⟨x9, rfl, h⟩ := h
      show am_E d m_X8_routesTo 37 _ _ _ [am_i x9, am_i l2] K4 N5 I6 P7 z8 Q am_nx
      refine e_iadd dX8_routesTo_37 ?_
      refine e_istore_n dX8_routesTo_38 ?_
      refine e_iinc dX8_routesTo_39 rfl ?_
      refine e_goto (tgt := 4) dX8_routesTo_42 (by decide) ?_
      exact e_forget (am_sub_k (am_sub_k (am_sub_k (am_sub_k am_sub_nil)))) h
    · replace h := h.2 hc
      refine e_iconst dX8_routesTo_29 ?_
      refine e_goto (tgt := 34) dX8_routesTo_30 (by decide) ?_
      refine e_callS (Mc := m_X8_one) (vs := [am_i 1]) (st := [am_i l2]) dX8_routesTo_34 ok_X8_one rfl mk_X8_36 sm_X8_one rfl rfl (by omega) (Nat.le_of_ble_eq_true rfl) (Nat.le_of_ble_eq_true rfl) (Nat.le_of_ble_eq_true rfl) am_xh_nx (am_C_mono h (fun v K10 N11 I12 P13 z14 h => ?_) (fun _ _ _ _ _ _ h => h))
      replace h := am_iv_or h
      obtain ⟨x15, rfl, h⟩ := h
      show am_E d m_X8_routesTo 37 _ _ _ [am_i x15, am_i l2] K10 N11 I12 P13 z14 Q am_nx
      refine e_iadd dX8_routesTo_37 ?_
      refine e_istore_n dX8_routesTo_38 ?_
      refine e_iinc dX8_routesTo_39 rfl ?_
      refine e_goto (tgt := 4) dX8_routesTo_42 (by decide) ?_
      exact e_forget (am_sub_k (am_sub_k (am_sub_k (am_sub_k am_sub_nil)))) h
set_option maxRecDepth 100000 in
set_option maxHeartbeats 4000000 in
theorem wf_X8_lane {d : Nat} (hd : 1 ≤ d) {s : Nat} {a1 : Int} {a2 : Int} {K N : Nat → Nat} {I : Nat → Nat → Int} {P : Nat → Nat → Option Nat} {z : Nat} {Q : am_V → am_T} (h :
  K s = 8 ∧ ∀ I2, I2 = am_u2 I s 7 0 → am_C (d - 1) m_X8_isLane [am_r s, am_i a1] K N I2 P z (fun v K3 N4 I5 P6 z7 => am_iv v fun x8 =>
    ((¬ x8 = 0 →
    ((a2 = 0 →
      K3 s = 8 ∧ ∃ b10, P6 s 0 = some b10 ∧ K3 b10 = 10 ∧ (0 ≤ am_wr (16 + a1) ∧ am_wr (16 + a1) < N4 b10) ∧ Q (am_i (I5 b10 (Int.toNat (am_wr (16 + a1))))) K3 N4 I5 P6 z7) ∧
      (a2 = 1 →
      K3 s = 8 ∧ ∃ b13, P6 s 0 = some b13 ∧ K3 b13 = 10 ∧ (0 ≤ am_wr (22 + a1) ∧ am_wr (22 + a1) < N4 b13) ∧ Q (am_i (I5 b13 (Int.toNat (am_wr (22 + a1))))) K3 N4 I5 P6 z7) ∧
      (a2 = 2 →
      K3 s = 8 ∧ ∃ b16, P6 s 0 = some b16 ∧ K3 b16 = 10 ∧ (0 ≤ am_wr (28 + a1) ∧ am_wr (28 + a1) < N4 b16) ∧ Q (am_i (I5 b16 (Int.toNat (am_wr (28 + a1))))) K3 N4 I5 P6 z7) ∧
      (a2 = 3 →
      K3 s = 8 ∧ ∃ b19, P6 s 0 = some b19 ∧ K3 b19 = 10 ∧ (0 ≤ am_wr (34 + a1) ∧ am_wr (34 + a1) < N4 b19) ∧ Q (am_i (I5 b19 (Int.toNat (am_wr (34 + a1))))) K3 N4 I5 P6 z7) ∧
      (a2 = 4 →
      K3 s = 8 ∧ ∃ b22, P6 s 0 = some b22 ∧ K3 b22 = 10 ∧ (0 ≤ am_wr (40 + a1) ∧ am_wr (40 + a1) < N4 b22) ∧ Q (am_i (I5 b22 (Int.toNat (am_wr (40 + a1))))) K3 N4 I5 P6 z7) ∧
      (a2 = 5 →
      K3 s = 8 ∧ am_C (d - 1) m_X8_routesTo [am_r s, am_i a1] K3 N4 I5 P6 z7 (fun v K24 N25 I26 P27 z28 => am_iv v fun x30 =>
        Q (am_i x30) K24 N25 I26 P27 z28) am_nx) ∧
      ((a2 < 0 ∨ 5 < a2) →
      K3 s = 8 ∧ am_C (d - 1) m_X8_refuse [am_r s, am_i 2] K3 N4 I5 P6 z7 (fun v K31 N32 I33 P34 z35 => am_iv v fun x37 =>
        Q (am_i x37) K31 N32 I33 P34 z35) am_nx))) ∧
    (x8 = 0 →
    K3 s = 8 ∧ am_C (d - 1) m_X8_refuse [am_r s, am_i 1] K3 N4 I5 P6 z7 (fun v K38 N39 I40 P41 z42 => am_iv v fun x44 =>
      Q (am_i x44) K38 N39 I40 P41 z42) am_nx))) am_nx) :
  am_C d m_X8_lane [am_r s, am_i a1, am_i a2] K N I P z Q am_nx := by
  refine am_C_of ok_X8_lane (fun v hv => am_v1all _ rfl v hv) (Nat.le_of_ble_eq_true rfl) ?_
  show am_E d m_X8_lane 0 0 0 [some (am_r s), some (am_i a1), some (am_i a2)] [] K N I P z Q am_nx
  refine e_aload_n dX8_lane_0 rfl trivial ?_
  refine e_iconst dX8_lane_1 ?_
  obtain ⟨hK1, h⟩ := h
  refine e_puti dX8_lane_2 fk_X8_25 rfl (Or.inl rfl) hK1 ?_
  replace h := h _ rfl
  generalize am_u2 I s 7 0 = I2 at h ⊢
  refine e_aload_n dX8_lane_5 rfl trivial ?_
  refine e_iload_n dX8_lane_6 rfl ?_
  refine e_callV (Mc := m_X8_isLane) (vs := [am_i a1]) (st := []) dX8_lane_7 ok_X8_isLane rfl ⟨by decide, rfl⟩ mk_X8_61 im_X8_isLane sl_X8_isLane rfl rfl hK1 (by omega) (Nat.le_of_ble_eq_true rfl) (Nat.le_of_ble_eq_true rfl) (Nat.le_of_ble_eq_true rfl) am_xh_nx (am_C_mono h (fun v K3 N4 I5 P6 z7 h => ?_) (fun _ _ _ _ _ _ h => h))
  replace h := am_iv_or h
  obtain ⟨x8, rfl, h⟩ := h
  show am_E d m_X8_lane 10 _ _ _ [am_i x8] K3 N4 I5 P6 z7 Q am_nx
  refine e_if_ne (tgt := 19) dX8_lane_10 (by decide) (fun hc => ?_) (fun hc => ?_)
  · replace h := h.1 hc
    refine e_iload_n dX8_lane_19 rfl ?_
    refine e_tsw dX8_lane_20 (by decide) (by decide) (by decide) ?_ ?_
    · refine ⟨fun hc => ?_, ⟨fun hc => ?_, ⟨fun hc => ?_, ⟨fun hc => ?_, ⟨fun hc => ?_, ⟨fun hc => ?_, trivial⟩⟩⟩⟩⟩⟩
      · have h := h.1 (by omega)
        show am_E _ _ 60 _ _ _ _ _ _ _ _ _ _ _
        refine e_aload_n dX8_lane_60 rfl trivial ?_
        obtain ⟨hK9, h⟩ := h
        obtain ⟨b10, hb10, h⟩ := h
        refine e_getr1 dX8_lane_61 fk_X8_7 rfl hK9 hb10 ?_
        refine e_bipush dX8_lane_64 ?_
        refine e_iload_n dX8_lane_66 rfl ?_
        refine e_iadd dX8_lane_67 ?_
        obtain ⟨hK11, h⟩ := h
        obtain ⟨⟨h0, h1⟩, h⟩ := h
        refine e_iald dX8_lane_68 hK11 h0 h1 ?_
        exact e_ret_i dX8_lane_69 rfl (Nat.le_of_ble_eq_true rfl) (Nat.le_of_ble_eq_true rfl) h
      · have h := h.2.1 (by omega)
        show am_E _ _ 70 _ _ _ _ _ _ _ _ _ _ _
        refine e_aload_n dX8_lane_70 rfl trivial ?_
        obtain ⟨hK12, h⟩ := h
        obtain ⟨b13, hb13, h⟩ := h
        refine e_getr1 dX8_lane_71 fk_X8_7 rfl hK12 hb13 ?_
        refine e_bipush dX8_lane_74 ?_
        refine e_iload_n dX8_lane_76 rfl ?_
        refine e_iadd dX8_lane_77 ?_
        obtain ⟨hK14, h⟩ := h
        obtain ⟨⟨h0, h1⟩, h⟩ := h
        refine e_iald dX8_lane_78 hK14 h0 h1 ?_
        exact e_ret_i dX8_lane_79 rfl (Nat.le_of_ble_eq_true rfl) (Nat.le_of_ble_eq_true rfl) h
      · have h := h.2.2.1 (by omega)
        show am_E _ _ 80 _ _ _ _ _ _ _ _ _ _ _
        refine e_aload_n dX8_lane_80 rfl trivial ?_
        obtain ⟨hK15, h⟩ := h
        obtain ⟨b16, hb16, h⟩ := h
        refine e_getr1 dX8_lane_81 fk_X8_7 rfl hK15 hb16 ?_
        refine e_bipush dX8_lane_84 ?_
        refine e_iload_n dX8_lane_86 rfl ?_
        refine e_iadd dX8_lane_87 ?_
        obtain ⟨hK17, h⟩ := h
        obtain ⟨⟨h0, h1⟩, h⟩ := h
        refine e_iald dX8_lane_88 hK17 h0 h1 ?_
        exact e_ret_i dX8_lane_89 rfl (Nat.le_of_ble_eq_true rfl) (Nat.le_of_ble_eq_true rfl) h
      · have h := h.2.2.2.1 (by omega)
        show am_E _ _ 90 _ _ _ _ _ _ _ _ _ _ _
        refine e_aload_n dX8_lane_90 rfl trivial ?_
        obtain ⟨hK18, h⟩ := h
        obtain ⟨b19, hb19, h⟩ := h
        refine e_getr1 dX8_lane_91 fk_X8_7 rfl hK18 hb19 ?_
        refine e_bipush dX8_lane_94 ?_
        refine e_iload_n dX8_lane_96 rfl ?_
        refine e_iadd dX8_lane_97 ?_
        obtain ⟨hK20, h⟩ := h
        obtain ⟨⟨h0, h1⟩, h⟩ := h
        refine e_iald dX8_lane_98 hK20 h0 h1 ?_
        exact e_ret_i dX8_lane_99 rfl (Nat.le_of_ble_eq_true rfl) (Nat.le_of_ble_eq_true rfl) h
      · have h := h.2.2.2.2.1 (by omega)
        show am_E _ _ 100 _ _ _ _ _ _ _ _ _ _ _
        refine e_aload_n dX8_lane_100 rfl trivial ?_
        obtain ⟨hK21, h⟩ := h
        obtain ⟨b22, hb22, h⟩ := h
        refine e_getr1 dX8_lane_101 fk_X8_7 rfl hK21 hb22 ?_
        refine e_bipush dX8_lane_104 ?_
        refine e_iload_n dX8_lane_106 rfl ?_
        refine e_iadd dX8_lane_107 ?_
        obtain ⟨hK23, h⟩ := h
        obtain ⟨⟨h0, h1⟩, h⟩ := h
        refine e_iald dX8_lane_108 hK23 h0 h1 ?_
        exact e_ret_i dX8_lane_109 rfl (Nat.le_of_ble_eq_true rfl) (Nat.le_of_ble_eq_true rfl) h
      · have h := h.2.2.2.2.2.1 (by omega)
        show am_E _ _ 110 _ _ _ _ _ _ _ _ _ _ _
        refine e_aload_n dX8_lane_110 rfl trivial ?_
        refine e_iload_n dX8_lane_111 rfl ?_
        obtain ⟨hK29, h⟩ := h
        refine e_callV (Mc := m_X8_routesTo) (vs := [am_i a1]) (st := []) dX8_lane_112 ok_X8_routesTo rfl ⟨by decide, rfl⟩ mk_X8_134 im_X8_routesTo sl_X8_routesTo rfl rfl hK29 (by omega) (Nat.le_of_ble_eq_true rfl) (Nat.le_of_ble_eq_true rfl) (Nat.le_of_ble_eq_true rfl) am_xh_nx (am_C_mono h (fun v K24 N25 I26 P27 z28 h => ?_) (fun _ _ _ _ _ _ h => h))
        replace h := am_iv_or h
        obtain ⟨x30, rfl, h⟩ := h
        show am_E d m_X8_lane 115 _ _ _ [am_i x30] K24 N25 I26 P27 z28 Q am_nx
        exact e_ret_i dX8_lane_115 rfl (Nat.le_of_ble_eq_true rfl) (Nat.le_of_ble_eq_true rfl) h
    · intro hc
      have h := h.2.2.2.2.2.2 hc
      show am_E _ _ 116 _ _ _ _ _ _ _ _ _ _ _
      refine e_aload_n dX8_lane_116 rfl trivial ?_
      refine e_iconst dX8_lane_117 ?_
      obtain ⟨hK36, h⟩ := h
      refine e_callV (Mc := m_X8_refuse) (vs := [am_i 2]) (st := []) dX8_lane_118 ok_X8_refuse rfl ⟨by decide, rfl⟩ mk_X8_44 im_X8_refuse sl_X8_refuse rfl rfl hK36 (by omega) (Nat.le_of_ble_eq_true rfl) (Nat.le_of_ble_eq_true rfl) (Nat.le_of_ble_eq_true rfl) am_xh_nx (am_C_mono h (fun v K31 N32 I33 P34 z35 h => ?_) (fun _ _ _ _ _ _ h => h))
      replace h := am_iv_or h
      obtain ⟨x37, rfl, h⟩ := h
      show am_E d m_X8_lane 121 _ _ _ [am_i x37] K31 N32 I33 P34 z35 Q am_nx
      exact e_ret_i dX8_lane_121 rfl (Nat.le_of_ble_eq_true rfl) (Nat.le_of_ble_eq_true rfl) h
  · replace h := h.2 hc
    refine e_aload_n dX8_lane_13 rfl trivial ?_
    refine e_iconst dX8_lane_14 ?_
    obtain ⟨hK43, h⟩ := h
    refine e_callV (Mc := m_X8_refuse) (vs := [am_i 1]) (st := []) dX8_lane_15 ok_X8_refuse rfl ⟨by decide, rfl⟩ mk_X8_44 im_X8_refuse sl_X8_refuse rfl rfl hK43 (by omega) (Nat.le_of_ble_eq_true rfl) (Nat.le_of_ble_eq_true rfl) (Nat.le_of_ble_eq_true rfl) am_xh_nx (am_C_mono h (fun v K38 N39 I40 P41 z42 h => ?_) (fun _ _ _ _ _ _ h => h))
    replace h := am_iv_or h
    obtain ⟨x44, rfl, h⟩ := h
    show am_E d m_X8_lane 18 _ _ _ [am_i x44] K38 N39 I40 P41 z42 Q am_nx
    exact e_ret_i dX8_lane_18 rfl (Nat.le_of_ble_eq_true rfl) (Nat.le_of_ble_eq_true rfl) h
def L_X8_fates_5 (d : Nat) (l0 : Nat) (l1 : Int) (l2 : Int) (l3 : Int) (l4 : Int) (K N : Nat → Nat) (I : Nat → Nat → Int) (P : Nat → Nat → Option Nat) (z : Nat) (Q : am_V → am_T) : Prop := am_E d m_X8_fates 5 0 0 [some (am_r l0), some (am_i l1), some (am_i l2), some (am_i l3), some (am_i l4)] [] K N I P z Q am_nx
set_option maxRecDepth 100000 in
set_option maxHeartbeats 4000000 in
theorem wf_X8_fates {d : Nat} {s : Nat} {a1 : Int} {a2 : Int} {K N : Nat → Nat} {I : Nat → Nat → Int} {P : Nat → Nat → Option Nat} {z : Nat} {Q : am_V → am_T} (h :
  L_X8_fates_5 d s a1 a2 0 0 K N I P z Q) :
  am_C d m_X8_fates [am_r s, am_i a1, am_i a2] K N I P z Q am_nx := by
  refine am_C_of ok_X8_fates (fun v hv => am_v1all _ rfl v hv) (Nat.le_of_ble_eq_true rfl) ?_
  show am_E d m_X8_fates 0 0 0 [some (am_r s), some (am_i a1), some (am_i a2), none, none] [] K N I P z Q am_nx
  refine e_iconst dX8_fates_0 ?_
  refine e_istore_n dX8_fates_1 ?_
  refine e_iconst dX8_fates_2 ?_
  refine e_istore dX8_fates_3 ?_
  exact e_forget (am_sub_k (am_sub_k (am_sub_k (am_sub_k (am_sub_k am_sub_nil))))) h
set_option maxRecDepth 100000 in
set_option maxHeartbeats 4000000 in
theorem wf_X8_fates_5 {d : Nat} (hd : 1 ≤ d) {l0 : Nat} {l1 : Int} {l2 : Int} {l3 : Int} {l4 : Int} {K N : Nat → Nat} {I : Nat → Nat → Int} {P : Nat → Nat → Option Nat} {z : Nat} {Q : am_V → am_T} (h :
  K l0 = 8 ∧ ∃ b2, P l0 0 = some b2 ∧ K b2 = 10 ∧ (0 ≤ (9 : Int) ∧ (9 : Int) < N b2) ∧ ((I b2 9 ≤ l4 →
    Q (am_i l3) K N I P z) ∧
    (¬ (I b2 9 ≤ l4) →
    (0 ≤ am_wr (800 + l4) ∧ am_wr (800 + l4) < N b2) ∧ am_C (d - 1) m_X8_in [am_i (I b2 (Int.toNat (am_wr (800 + l4)))), am_i l1, am_i l2] K N I P z (fun v K4 N5 I6 P7 z8 => am_iv v fun x9 =>
      am_C (d - 1) m_X8_one [am_i x9] K4 N5 I6 P7 z8 (fun v K10 N11 I12 P13 z14 => am_iv v fun x15 =>
      L_X8_fates_5 d l0 l1 l2 (am_wr (l3 + x15)) (am_wr (l4 + 1)) K10 N11 I12 P13 z14 Q) am_nx) am_nx))) :
  L_X8_fates_5 d l0 l1 l2 l3 l4 K N I P z Q := by
  unfold L_X8_fates_5
  refine e_iload dX8_fates_5 rfl ?_
  refine e_aload_n dX8_fates_7 rfl trivial ?_
  obtain ⟨hK1, h⟩ := h
  obtain ⟨b2, hb2, h⟩ := h
  refine e_getr1 dX8_fates_8 fk_X8_7 rfl hK1 hb2 ?_
  refine e_bipush dX8_fates_11 ?_
  obtain ⟨hK3, h⟩ := h
  obtain ⟨⟨h0, h1⟩, h⟩ := h
  refine e_iald dX8_fates_13 hK3 h0 h1 ?_
  show am_E _ _ _ _ _ _ (am_i (I b2 9) :: _) _ _ _ _ _ _ _
  refine e_icmp_ge (tgt := 45) dX8_fates_14 (by decide) (fun hc => ?_) (fun hc => ?_)
  · replace h := h.1 hc
    refine e_iload_n dX8_fates_45 rfl ?_
    exact e_ret_i dX8_fates_46 rfl (Nat.le_of_ble_eq_true rfl) (Nat.le_of_ble_eq_true rfl) h
  · replace h := h.2 hc
    refine e_iload_n dX8_fates_17 rfl ?_
    refine e_aload_n dX8_fates_18 rfl trivial ?_
    refine e_getr1 dX8_fates_19 fk_X8_7 rfl hK1 hb2 ?_
    refine e_sipush dX8_fates_22 ?_
    refine e_iload dX8_fates_25 rfl ?_
    refine e_iadd dX8_fates_27 ?_
    obtain ⟨⟨h0, h1⟩, h⟩ := h
    refine e_iald dX8_fates_28 hK3 h0 h1 ?_
    refine e_iload_n dX8_fates_29 rfl ?_
    refine e_iload_n dX8_fates_30 rfl ?_
    refine e_callS (Mc := m_X8_in) (vs := [am_i (I b2 (Int.toNat (am_wr (800 + l4)))), am_i l1, am_i l2]) (st := [am_i l3]) dX8_fates_31 ok_X8_in rfl mk_X8_40 sm_X8_in rfl rfl (by omega) (Nat.le_of_ble_eq_true rfl) (Nat.le_of_ble_eq_true rfl) (Nat.le_of_ble_eq_true rfl) am_xh_nx (am_C_mono h (fun v K4 N5 I6 P7 z8 h => ?_) (fun _ _ _ _ _ _ h => h))
    replace h := am_iv_or h
    obtain ⟨x9, rfl, h⟩ := h
    show am_E d m_X8_fates 34 _ _ _ [am_i x9, am_i l3] K4 N5 I6 P7 z8 Q am_nx
    refine e_callS (Mc := m_X8_one) (vs := [am_i x9]) (st := [am_i l3]) dX8_fates_34 ok_X8_one rfl mk_X8_36 sm_X8_one rfl rfl (by omega) (Nat.le_of_ble_eq_true rfl) (Nat.le_of_ble_eq_true rfl) (Nat.le_of_ble_eq_true rfl) am_xh_nx (am_C_mono h (fun v K10 N11 I12 P13 z14 h => ?_) (fun _ _ _ _ _ _ h => h))
    replace h := am_iv_or h
    obtain ⟨x15, rfl, h⟩ := h
    show am_E d m_X8_fates 37 _ _ _ [am_i x15, am_i l3] K10 N11 I12 P13 z14 Q am_nx
    refine e_iadd dX8_fates_37 ?_
    refine e_istore_n dX8_fates_38 ?_
    refine e_iinc dX8_fates_39 rfl ?_
    refine e_goto (tgt := 5) dX8_fates_42 (by decide) ?_
    exact e_forget (am_sub_k (am_sub_k (am_sub_k (am_sub_k (am_sub_k am_sub_nil))))) h
def L_X8_sum_4 (d : Nat) (l0 : Nat) (l1 : Int) (l2 : Int) (l3 : Int) (K N : Nat → Nat) (I : Nat → Nat → Int) (P : Nat → Nat → Option Nat) (z : Nat) (Q : am_V → am_T) : Prop := am_E d m_X8_sum 4 0 0 [some (am_r l0), some (am_i l1), some (am_i l2), some (am_i l3)] [] K N I P z Q am_nx
set_option maxRecDepth 100000 in
set_option maxHeartbeats 4000000 in
theorem wf_X8_sum {d : Nat} {s : Nat} {a1 : Int} {K N : Nat → Nat} {I : Nat → Nat → Int} {P : Nat → Nat → Option Nat} {z : Nat} {Q : am_V → am_T} (h :
  L_X8_sum_4 d s a1 0 0 K N I P z Q) :
  am_C d m_X8_sum [am_r s, am_i a1] K N I P z Q am_nx := by
  refine am_C_of ok_X8_sum (fun v hv => am_v1all _ rfl v hv) (Nat.le_of_ble_eq_true rfl) ?_
  show am_E d m_X8_sum 0 0 0 [some (am_r s), some (am_i a1), none, none] [] K N I P z Q am_nx
  refine e_iconst dX8_sum_0 ?_
  refine e_istore_n dX8_sum_1 ?_
  refine e_iconst dX8_sum_2 ?_
  refine e_istore_n dX8_sum_3 ?_
  exact e_forget (am_sub_k (am_sub_k (am_sub_k (am_sub_k am_sub_nil)))) h
set_option maxRecDepth 100000 in
set_option maxHeartbeats 4000000 in
theorem wf_X8_sum_4 {d : Nat} {l0 : Nat} {l1 : Int} {l2 : Int} {l3 : Int} {K N : Nat → Nat} {I : Nat → Nat → Int} {P : Nat → Nat → Option Nat} {z : Nat} {Q : am_V → am_T} (h :
  K l0 = 8 ∧ ∃ b2, P l0 0 = some b2 ∧ K b2 = 10 ∧ (0 ≤ (9 : Int) ∧ (9 : Int) < N b2) ∧ ((I b2 9 ≤ l3 →
    Q (am_i l2) K N I P z) ∧
    (¬ (I b2 9 ≤ l3) →
    (0 ≤ am_wr (l1 + l3) ∧ am_wr (l1 + l3) < N b2) ∧ L_X8_sum_4 d l0 l1 (am_wr (l2 + (I b2 (Int.toNat (am_wr (l1 + l3)))))) (am_wr (l3 + 1)) K N I P z Q))) :
  L_X8_sum_4 d l0 l1 l2 l3 K N I P z Q := by
  unfold L_X8_sum_4
  refine e_iload_n dX8_sum_4 rfl ?_
  refine e_aload_n dX8_sum_5 rfl trivial ?_
  obtain ⟨hK1, h⟩ := h
  obtain ⟨b2, hb2, h⟩ := h
  refine e_getr1 dX8_sum_6 fk_X8_7 rfl hK1 hb2 ?_
  refine e_bipush dX8_sum_9 ?_
  obtain ⟨hK3, h⟩ := h
  obtain ⟨⟨h0, h1⟩, h⟩ := h
  refine e_iald dX8_sum_11 hK3 h0 h1 ?_
  show am_E _ _ _ _ _ _ (am_i (I b2 9) :: _) _ _ _ _ _ _ _
  refine e_icmp_ge (tgt := 32) dX8_sum_12 (by decide) (fun hc => ?_) (fun hc => ?_)
  · replace h := h.1 hc
    refine e_iload_n dX8_sum_32 rfl ?_
    exact e_ret_i dX8_sum_33 rfl (Nat.le_of_ble_eq_true rfl) (Nat.le_of_ble_eq_true rfl) h
  · replace h := h.2 hc
    refine e_iload_n dX8_sum_15 rfl ?_
    refine e_aload_n dX8_sum_16 rfl trivial ?_
    refine e_getr1 dX8_sum_17 fk_X8_7 rfl hK1 hb2 ?_
    refine e_iload_n dX8_sum_20 rfl ?_
    refine e_iload_n dX8_sum_21 rfl ?_
    refine e_iadd dX8_sum_22 ?_
    obtain ⟨⟨h0, h1⟩, h⟩ := h
    refine e_iald dX8_sum_23 hK3 h0 h1 ?_
    refine e_iadd dX8_sum_24 ?_
    refine e_istore_n dX8_sum_25 ?_
    refine e_iinc dX8_sum_26 rfl ?_
    refine e_goto (tgt := 4) dX8_sum_29 (by decide) ?_
    exact e_forget (am_sub_k (am_sub_k (am_sub_k (am_sub_k am_sub_nil)))) h
set_option maxRecDepth 100000 in
set_option maxHeartbeats 4000000 in
theorem wf_X8_total {d : Nat} (hd : 1 ≤ d) {s : Nat} {a1 : Int} {K N : Nat → Nat} {I : Nat → Nat → Int} {P : Nat → Nat → Option Nat} {z : Nat} {Q : am_V → am_T} (h :
  K s = 8 ∧ ∀ I2, I2 = am_u2 I s 7 0 → ((a1 = 0 →
    ∃ b3, P s 0 = some b3 ∧ K b3 = 10 ∧ (0 ≤ (0 : Int) ∧ (0 : Int) < N b3) ∧ Q (am_i (I2 b3 0)) K N I2 P z) ∧
    (a1 = 1 →
    ∃ b5, P s 0 = some b5 ∧ K b5 = 10 ∧ (0 ≤ (9 : Int) ∧ (9 : Int) < N b5) ∧ Q (am_i (I2 b5 9)) K N I2 P z) ∧
    (a1 = 2 →
    am_C (d - 1) m_X8_onBelt [am_r s] K N I2 P z (fun v K7 N8 I9 P10 z11 => am_iv v fun x12 =>
      Q (am_i x12) K7 N8 I9 P10 z11) am_nx) ∧
    (a1 = 3 →
    am_C (d - 1) m_X8_fates [am_r s, am_i 10, am_i 15] K N I2 P z (fun v K13 N14 I15 P16 z17 => am_iv v fun x18 =>
      Q (am_i x18) K13 N14 I15 P16 z17) am_nx) ∧
    (a1 = 4 →
    am_C (d - 1) m_X8_fates [am_r s, am_i 1, am_i 6] K N I2 P z (fun v K19 N20 I21 P22 z23 => am_iv v fun x24 =>
      Q (am_i x24) K19 N20 I21 P22 z23) am_nx) ∧
    (a1 = 5 →
    am_C (d - 1) m_X8_fates [am_r s, am_i 9, am_i 9] K N I2 P z (fun v K25 N26 I27 P28 z29 => am_iv v fun x30 =>
      Q (am_i x30) K25 N26 I27 P28 z29) am_nx) ∧
    (a1 = 6 →
    ∃ b31, P s 0 = some b31 ∧ K b31 = 10 ∧ (0 ≤ (7 : Int) ∧ (7 : Int) < N b31) ∧ Q (am_i (I2 b31 7)) K N I2 P z) ∧
    (a1 = 7 →
    ∃ b33, P s 0 = some b33 ∧ K b33 = 10 ∧ (0 ≤ (8 : Int) ∧ (8 : Int) < N b33) ∧ Q (am_i (I2 b33 8)) K N I2 P z) ∧
    (a1 = 8 →
    ∃ b35, P s 0 = some b35 ∧ K b35 = 10 ∧ (0 ≤ (10 : Int) ∧ (10 : Int) < N b35) ∧ Q (am_i (I2 b35 10)) K N I2 P z) ∧
    (a1 = 9 →
    am_C (d - 1) m_X8_sum [am_r s, am_i 2300] K N I2 P z (fun v K37 N38 I39 P40 z41 => am_iv v fun x42 =>
      Q (am_i x42) K37 N38 I39 P40 z41) am_nx) ∧
    (a1 = 10 →
    am_C (d - 1) m_X8_sum [am_r s, am_i 2000] K N I2 P z (fun v K43 N44 I45 P46 z47 => am_iv v fun x48 =>
      Q (am_i x48) K43 N44 I45 P46 z47) am_nx) ∧
    (a1 = 11 →
    am_C (d - 1) m_X8_sum [am_r s, am_i 1400] K N I2 P z (fun v K49 N50 I51 P52 z53 => am_iv v fun x54 =>
      Q (am_i x54) K49 N50 I51 P52 z53) am_nx) ∧
    (a1 = 12 →
    am_C (d - 1) m_X8_sum [am_r s, am_i 1700] K N I2 P z (fun v K55 N56 I57 P58 z59 => am_iv v fun x60 =>
      Q (am_i x60) K55 N56 I57 P58 z59) am_nx) ∧
    (a1 = 13 →
    Q (am_i (I2 s 5)) K N I2 P z) ∧
    (a1 = 14 →
    Q (am_i (I2 s 6)) K N I2 P z) ∧
    ((a1 < 0 ∨ 14 < a1) →
    am_C (d - 1) m_X8_refuse [am_r s, am_i 1] K N I2 P z (fun v K61 N62 I63 P64 z65 => am_iv v fun x66 =>
      Q (am_i x66) K61 N62 I63 P64 z65) am_nx))) :
  am_C d m_X8_total [am_r s, am_i a1] K N I P z Q am_nx := by
  refine am_C_of ok_X8_total (fun v hv => am_v1all _ rfl v hv) (Nat.le_of_ble_eq_true rfl) ?_
  show am_E d m_X8_total 0 0 0 [some (am_r s), some (am_i a1)] [] K N I P z Q am_nx
  refine e_aload_n dX8_total_0 rfl trivial ?_
  refine e_iconst dX8_total_1 ?_
  obtain ⟨hK1, h⟩ := h
  refine e_puti dX8_total_2 fk_X8_25 rfl (Or.inl rfl) hK1 ?_
  replace h := h _ rfl
  generalize am_u2 I s 7 0 = I2 at h ⊢
  refine e_iload_n dX8_total_5 rfl ?_
  refine e_tsw dX8_total_6 (by decide) (by decide) (by decide) ?_ ?_
  · refine ⟨fun hc => ?_, ⟨fun hc => ?_, ⟨fun hc => ?_, ⟨fun hc => ?_, ⟨fun hc => ?_, ⟨fun hc => ?_, ⟨fun hc => ?_, ⟨fun hc => ?_, ⟨fun hc => ?_, ⟨fun hc => ?_, ⟨fun hc => ?_, ⟨fun hc => ?_, ⟨fun hc => ?_, ⟨fun hc => ?_, ⟨fun hc => ?_, trivial⟩⟩⟩⟩⟩⟩⟩⟩⟩⟩⟩⟩⟩⟩⟩
    · have h := h.1 (by omega)
      show am_E _ _ 80 _ _ _ _ _ _ _ _ _ _ _
      refine e_aload_n dX8_total_80 rfl trivial ?_
      obtain ⟨b3, hb3, h⟩ := h
      refine e_getr1 dX8_total_81 fk_X8_7 rfl hK1 hb3 ?_
      refine e_iconst dX8_total_84 ?_
      obtain ⟨hK4, h⟩ := h
      obtain ⟨⟨h0, h1⟩, h⟩ := h
      refine e_iald dX8_total_85 hK4 h0 h1 ?_
      show am_E _ _ _ _ _ _ (am_i (I2 b3 0) :: _) _ _ _ _ _ _ _
      exact e_ret_i dX8_total_86 rfl (Nat.le_of_ble_eq_true rfl) (Nat.le_of_ble_eq_true rfl) h
    · have h := h.2.1 (by omega)
      show am_E _ _ 87 _ _ _ _ _ _ _ _ _ _ _
      refine e_aload_n dX8_total_87 rfl trivial ?_
      obtain ⟨b5, hb5, h⟩ := h
      refine e_getr1 dX8_total_88 fk_X8_7 rfl hK1 hb5 ?_
      refine e_bipush dX8_total_91 ?_
      obtain ⟨hK6, h⟩ := h
      obtain ⟨⟨h0, h1⟩, h⟩ := h
      refine e_iald dX8_total_93 hK6 h0 h1 ?_
      show am_E _ _ _ _ _ _ (am_i (I2 b5 9) :: _) _ _ _ _ _ _ _
      exact e_ret_i dX8_total_94 rfl (Nat.le_of_ble_eq_true rfl) (Nat.le_of_ble_eq_true rfl) h
    · have h := h.2.2.1 (by omega)
      show am_E _ _ 95 _ _ _ _ _ _ _ _ _ _ _
      refine e_aload_n dX8_total_95 rfl trivial ?_
      refine e_callV (Mc := m_X8_onBelt) (vs := []) (st := []) dX8_total_96 ok_X8_onBelt rfl ⟨by decide, rfl⟩ mk_X8_54 im_X8_onBelt sl_X8_onBelt rfl rfl hK1 (by omega) (Nat.le_of_ble_eq_true rfl) (Nat.le_of_ble_eq_true rfl) (Nat.le_of_ble_eq_true rfl) am_xh_nx (am_C_mono h (fun v K7 N8 I9 P10 z11 h => ?_) (fun _ _ _ _ _ _ h => h))
      replace h := am_iv_or h
      obtain ⟨x12, rfl, h⟩ := h
      show am_E d m_X8_total 99 _ _ _ [am_i x12] K7 N8 I9 P10 z11 Q am_nx
      exact e_ret_i dX8_total_99 rfl (Nat.le_of_ble_eq_true rfl) (Nat.le_of_ble_eq_true rfl) h
    · have h := h.2.2.2.1 (by omega)
      show am_E _ _ 100 _ _ _ _ _ _ _ _ _ _ _
      refine e_aload_n dX8_total_100 rfl trivial ?_
      refine e_bipush dX8_total_101 ?_
      refine e_bipush dX8_total_103 ?_
      refine e_callV (Mc := m_X8_fates) (vs := [am_i 10, am_i 15]) (st := []) dX8_total_105 ok_X8_fates rfl ⟨by decide, rfl⟩ mk_X8_137 im_X8_fates sl_X8_fates rfl rfl hK1 (by omega) (Nat.le_of_ble_eq_true rfl) (Nat.le_of_ble_eq_true rfl) (Nat.le_of_ble_eq_true rfl) am_xh_nx (am_C_mono h (fun v K13 N14 I15 P16 z17 h => ?_) (fun _ _ _ _ _ _ h => h))
      replace h := am_iv_or h
      obtain ⟨x18, rfl, h⟩ := h
      show am_E d m_X8_total 108 _ _ _ [am_i x18] K13 N14 I15 P16 z17 Q am_nx
      exact e_ret_i dX8_total_108 rfl (Nat.le_of_ble_eq_true rfl) (Nat.le_of_ble_eq_true rfl) h
    · have h := h.2.2.2.2.1 (by omega)
      show am_E _ _ 109 _ _ _ _ _ _ _ _ _ _ _
      refine e_aload_n dX8_total_109 rfl trivial ?_
      refine e_iconst dX8_total_110 ?_
      refine e_bipush dX8_total_111 ?_
      refine e_callV (Mc := m_X8_fates) (vs := [am_i 1, am_i 6]) (st := []) dX8_total_113 ok_X8_fates rfl ⟨by decide, rfl⟩ mk_X8_137 im_X8_fates sl_X8_fates rfl rfl hK1 (by omega) (Nat.le_of_ble_eq_true rfl) (Nat.le_of_ble_eq_true rfl) (Nat.le_of_ble_eq_true rfl) am_xh_nx (am_C_mono h (fun v K19 N20 I21 P22 z23 h => ?_) (fun _ _ _ _ _ _ h => h))
      replace h := am_iv_or h
      obtain ⟨x24, rfl, h⟩ := h
      show am_E d m_X8_total 116 _ _ _ [am_i x24] K19 N20 I21 P22 z23 Q am_nx
      exact e_ret_i dX8_total_116 rfl (Nat.le_of_ble_eq_true rfl) (Nat.le_of_ble_eq_true rfl) h
    · have h := h.2.2.2.2.2.1 (by omega)
      show am_E _ _ 117 _ _ _ _ _ _ _ _ _ _ _
      refine e_aload_n dX8_total_117 rfl trivial ?_
      refine e_bipush dX8_total_118 ?_
      refine e_bipush dX8_total_120 ?_
      refine e_callV (Mc := m_X8_fates) (vs := [am_i 9, am_i 9]) (st := []) dX8_total_122 ok_X8_fates rfl ⟨by decide, rfl⟩ mk_X8_137 im_X8_fates sl_X8_fates rfl rfl hK1 (by omega) (Nat.le_of_ble_eq_true rfl) (Nat.le_of_ble_eq_true rfl) (Nat.le_of_ble_eq_true rfl) am_xh_nx (am_C_mono h (fun v K25 N26 I27 P28 z29 h => ?_) (fun _ _ _ _ _ _ h => h))
      replace h := am_iv_or h
      obtain ⟨x30, rfl, h⟩ := h
      show am_E d m_X8_total 125 _ _ _ [am_i x30] K25 N26 I27 P28 z29 Q am_nx
      exact e_ret_i dX8_total_125 rfl (Nat.le_of_ble_eq_true rfl) (Nat.le_of_ble_eq_true rfl) h
    · have h := h.2.2.2.2.2.2.1 (by omega)
      show am_E _ _ 126 _ _ _ _ _ _ _ _ _ _ _
      refine e_aload_n dX8_total_126 rfl trivial ?_
      obtain ⟨b31, hb31, h⟩ := h
      refine e_getr1 dX8_total_127 fk_X8_7 rfl hK1 hb31 ?_
      refine e_bipush dX8_total_130 ?_
      obtain ⟨hK32, h⟩ := h
      obtain ⟨⟨h0, h1⟩, h⟩ := h
      refine e_iald dX8_total_132 hK32 h0 h1 ?_
      show am_E _ _ _ _ _ _ (am_i (I2 b31 7) :: _) _ _ _ _ _ _ _
      exact e_ret_i dX8_total_133 rfl (Nat.le_of_ble_eq_true rfl) (Nat.le_of_ble_eq_true rfl) h
    · have h := h.2.2.2.2.2.2.2.1 (by omega)
      show am_E _ _ 134 _ _ _ _ _ _ _ _ _ _ _
      refine e_aload_n dX8_total_134 rfl trivial ?_
      obtain ⟨b33, hb33, h⟩ := h
      refine e_getr1 dX8_total_135 fk_X8_7 rfl hK1 hb33 ?_
      refine e_bipush dX8_total_138 ?_
      obtain ⟨hK34, h⟩ := h
      obtain ⟨⟨h0, h1⟩, h⟩ := h
      refine e_iald dX8_total_140 hK34 h0 h1 ?_
      show am_E _ _ _ _ _ _ (am_i (I2 b33 8) :: _) _ _ _ _ _ _ _
      exact e_ret_i dX8_total_141 rfl (Nat.le_of_ble_eq_true rfl) (Nat.le_of_ble_eq_true rfl) h
    · have h := h.2.2.2.2.2.2.2.2.1 (by omega)
      show am_E _ _ 142 _ _ _ _ _ _ _ _ _ _ _
      refine e_aload_n dX8_total_142 rfl trivial ?_
      obtain ⟨b35, hb35, h⟩ := h
      refine e_getr1 dX8_total_143 fk_X8_7 rfl hK1 hb35 ?_
      refine e_bipush dX8_total_146 ?_
      obtain ⟨hK36, h⟩ := h
      obtain ⟨⟨h0, h1⟩, h⟩ := h
      refine e_iald dX8_total_148 hK36 h0 h1 ?_
      show am_E _ _ _ _ _ _ (am_i (I2 b35 10) :: _) _ _ _ _ _ _ _
      exact e_ret_i dX8_total_149 rfl (Nat.le_of_ble_eq_true rfl) (Nat.le_of_ble_eq_true rfl) h
    · have h := h.2.2.2.2.2.2.2.2.2.1 (by omega)
      show am_E _ _ 150 _ _ _ _ _ _ _ _ _ _ _
      refine e_aload_n dX8_total_150 rfl trivial ?_
      refine e_sipush dX8_total_151 ?_
      refine e_callV (Mc := m_X8_sum) (vs := [am_i 2300]) (st := []) dX8_total_154 ok_X8_sum rfl ⟨by decide, rfl⟩ mk_X8_140 im_X8_sum sl_X8_sum rfl rfl hK1 (by omega) (Nat.le_of_ble_eq_true rfl) (Nat.le_of_ble_eq_true rfl) (Nat.le_of_ble_eq_true rfl) am_xh_nx (am_C_mono h (fun v K37 N38 I39 P40 z41 h => ?_) (fun _ _ _ _ _ _ h => h))
      replace h := am_iv_or h
      obtain ⟨x42, rfl, h⟩ := h
      show am_E d m_X8_total 157 _ _ _ [am_i x42] K37 N38 I39 P40 z41 Q am_nx
      exact e_ret_i dX8_total_157 rfl (Nat.le_of_ble_eq_true rfl) (Nat.le_of_ble_eq_true rfl) h
    · have h := h.2.2.2.2.2.2.2.2.2.2.1 (by omega)
      show am_E _ _ 158 _ _ _ _ _ _ _ _ _ _ _
      refine e_aload_n dX8_total_158 rfl trivial ?_
      refine e_sipush dX8_total_159 ?_
      refine e_callV (Mc := m_X8_sum) (vs := [am_i 2000]) (st := []) dX8_total_162 ok_X8_sum rfl ⟨by decide, rfl⟩ mk_X8_140 im_X8_sum sl_X8_sum rfl rfl hK1 (by omega) (Nat.le_of_ble_eq_true rfl) (Nat.le_of_ble_eq_true rfl) (Nat.le_of_ble_eq_true rfl) am_xh_nx (am_C_mono h (fun v K43 N44 I45 P46 z47 h => ?_) (fun _ _ _ _ _ _ h => h))
      replace h := am_iv_or h
      obtain ⟨x48, rfl, h⟩ := h
      show am_E d m_X8_total 165 _ _ _ [am_i x48] K43 N44 I45 P46 z47 Q am_nx
      exact e_ret_i dX8_total_165 rfl (Nat.le_of_ble_eq_true rfl) (Nat.le_of_ble_eq_true rfl) h
    · have h := h.2.2.2.2.2.2.2.2.2.2.2.1 (by omega)
      show am_E _ _ 166 _ _ _ _ _ _ _ _ _ _ _
      refine e_aload_n dX8_total_166 rfl trivial ?_
      refine e_sipush dX8_total_167 ?_
      refine e_callV (Mc := m_X8_sum) (vs := [am_i 1400]) (st := []) dX8_total_170 ok_X8_sum rfl ⟨by decide, rfl⟩ mk_X8_140 im_X8_sum sl_X8_sum rfl rfl hK1 (by omega) (Nat.le_of_ble_eq_true rfl) (Nat.le_of_ble_eq_true rfl) (Nat.le_of_ble_eq_true rfl) am_xh_nx (am_C_mono h (fun v K49 N50 I51 P52 z53 h => ?_) (fun _ _ _ _ _ _ h => h))
      replace h := am_iv_or h
      obtain ⟨x54, rfl, h⟩ := h
      show am_E d m_X8_total 173 _ _ _ [am_i x54] K49 N50 I51 P52 z53 Q am_nx
      exact e_ret_i dX8_total_173 rfl (Nat.le_of_ble_eq_true rfl) (Nat.le_of_ble_eq_true rfl) h
    · have h := h.2.2.2.2.2.2.2.2.2.2.2.2.1 (by omega)
      show am_E _ _ 174 _ _ _ _ _ _ _ _ _ _ _
      refine e_aload_n dX8_total_174 rfl trivial ?_
      refine e_sipush dX8_total_175 ?_
      refine e_callV (Mc := m_X8_sum) (vs := [am_i 1700]) (st := []) dX8_total_178 ok_X8_sum rfl ⟨by decide, rfl⟩ mk_X8_140 im_X8_sum sl_X8_sum rfl rfl hK1 (by omega) (Nat.le_of_ble_eq_true rfl) (Nat.le_of_ble_eq_true rfl) (Nat.le_of_ble_eq_true rfl) am_xh_nx (am_C_mono h (fun v K55 N56 I57 P58 z59 h => ?_) (fun _ _ _ _ _ _ h => h))
      replace h := am_iv_or h
      obtain ⟨x60, rfl, h⟩ := h
      show am_E d m_X8_total 181 _ _ _ [am_i x60] K55 N56 I57 P58 z59 Q am_nx
      exact e_ret_i dX8_total_181 rfl (Nat.le_of_ble_eq_true rfl) (Nat.le_of_ble_eq_true rfl) h
    · have h := h.2.2.2.2.2.2.2.2.2.2.2.2.2.1 (by omega)
      show am_E _ _ 182 _ _ _ _ _ _ _ _ _ _ _
      refine e_aload_n dX8_total_182 rfl trivial ?_
      refine e_geti dX8_total_183 fk_X8_29 rfl hK1 ?_
      exact e_ret_i dX8_total_186 rfl (Nat.le_of_ble_eq_true rfl) (Nat.le_of_ble_eq_true rfl) h
    · have h := h.2.2.2.2.2.2.2.2.2.2.2.2.2.2.1 (by omega)
      show am_E _ _ 187 _ _ _ _ _ _ _ _ _ _ _
      refine e_aload_n dX8_total_187 rfl trivial ?_
      refine e_geti dX8_total_188 fk_X8_143 rfl hK1 ?_
      exact e_ret_i dX8_total_191 rfl (Nat.le_of_ble_eq_true rfl) (Nat.le_of_ble_eq_true rfl) h
  · intro hc
    have h := h.2.2.2.2.2.2.2.2.2.2.2.2.2.2.2 hc
    show am_E _ _ 192 _ _ _ _ _ _ _ _ _ _ _
    refine e_aload_n dX8_total_192 rfl trivial ?_
    refine e_iconst dX8_total_193 ?_
    refine e_callV (Mc := m_X8_refuse) (vs := [am_i 1]) (st := []) dX8_total_194 ok_X8_refuse rfl ⟨by decide, rfl⟩ mk_X8_44 im_X8_refuse sl_X8_refuse rfl rfl hK1 (by omega) (Nat.le_of_ble_eq_true rfl) (Nat.le_of_ble_eq_true rfl) (Nat.le_of_ble_eq_true rfl) am_xh_nx (am_C_mono h (fun v K61 N62 I63 P64 z65 h => ?_) (fun _ _ _ _ _ _ h => h))
    replace h := am_iv_or h
    obtain ⟨x66, rfl, h⟩ := h
    show am_E d m_X8_total 197 _ _ _ [am_i x66] K61 N62 I63 P64 z65 Q am_nx
    exact e_ret_i dX8_total_197 rfl (Nat.le_of_ble_eq_true rfl) (Nat.le_of_ble_eq_true rfl) h
set_option maxRecDepth 100000 in
set_option maxHeartbeats 4000000 in
theorem wf_X8_lost {d : Nat} (hd : 1 ≤ d) {s : Nat} {a1 : Int} {K N : Nat → Nat} {I : Nat → Nat → Int} {P : Nat → Nat → Option Nat} {z : Nat} {Q : am_V → am_T} (h :
  K s = 8 ∧ ∀ I2, I2 = am_u2 I s 7 0 → am_C (d - 1) m_X8_in [am_i a1, am_i 1, am_i 6] K N I2 P z (fun v K3 N4 I5 P6 z7 => am_iv v fun x8 =>
    ((x8 = 0 →
    K3 s = 8 ∧ am_C (d - 1) m_X8_refuse [am_r s, am_i 1] K3 N4 I5 P6 z7 (fun v K9 N10 I11 P12 z13 => am_iv v fun x15 =>
      Q (am_i x15) K9 N10 I11 P12 z13) am_nx) ∧
    (¬ (x8 = 0) →
    K3 s = 8 ∧ am_C (d - 1) m_X8_fates [am_r s, am_i a1, am_i a1] K3 N4 I5 P6 z7 (fun v K16 N17 I18 P19 z20 => am_iv v fun x22 =>
      Q (am_i x22) K16 N17 I18 P19 z20) am_nx))) am_nx) :
  am_C d m_X8_lost [am_r s, am_i a1] K N I P z Q am_nx := by
  refine am_C_of ok_X8_lost (fun v hv => am_v1all _ rfl v hv) (Nat.le_of_ble_eq_true rfl) ?_
  show am_E d m_X8_lost 0 0 0 [some (am_r s), some (am_i a1)] [] K N I P z Q am_nx
  refine e_aload_n dX8_lost_0 rfl trivial ?_
  refine e_iconst dX8_lost_1 ?_
  obtain ⟨hK1, h⟩ := h
  refine e_puti dX8_lost_2 fk_X8_25 rfl (Or.inl rfl) hK1 ?_
  replace h := h _ rfl
  generalize am_u2 I s 7 0 = I2 at h ⊢
  refine e_iload_n dX8_lost_5 rfl ?_
  refine e_iconst dX8_lost_6 ?_
  refine e_bipush dX8_lost_7 ?_
  refine e_callS (Mc := m_X8_in) (vs := [am_i a1, am_i 1, am_i 6]) (st := []) dX8_lost_9 ok_X8_in rfl mk_X8_40 sm_X8_in rfl rfl (by omega) (Nat.le_of_ble_eq_true rfl) (Nat.le_of_ble_eq_true rfl) (Nat.le_of_ble_eq_true rfl) am_xh_nx (am_C_mono h (fun v K3 N4 I5 P6 z7 h => ?_) (fun _ _ _ _ _ _ h => h))
  replace h := am_iv_or h
  obtain ⟨x8, rfl, h⟩ := h
  show am_E d m_X8_lost 12 _ _ _ [am_i x8] K3 N4 I5 P6 z7 Q am_nx
  refine e_if_eq (tgt := 24) dX8_lost_12 (by decide) (fun hc => ?_) (fun hc => ?_)
  · replace h := h.1 hc
    refine e_aload_n dX8_lost_24 rfl trivial ?_
    refine e_iconst dX8_lost_25 ?_
    obtain ⟨hK14, h⟩ := h
    refine e_callV (Mc := m_X8_refuse) (vs := [am_i 1]) (st := []) dX8_lost_26 ok_X8_refuse rfl ⟨by decide, rfl⟩ mk_X8_44 im_X8_refuse sl_X8_refuse rfl rfl hK14 (by omega) (Nat.le_of_ble_eq_true rfl) (Nat.le_of_ble_eq_true rfl) (Nat.le_of_ble_eq_true rfl) am_xh_nx (am_C_mono h (fun v K9 N10 I11 P12 z13 h => ?_) (fun _ _ _ _ _ _ h => h))
    replace h := am_iv_or h
    obtain ⟨x15, rfl, h⟩ := h
    show am_E d m_X8_lost 29 _ _ _ [am_i x15] K9 N10 I11 P12 z13 Q am_nx
    exact e_ret_i dX8_lost_29 rfl (Nat.le_of_ble_eq_true rfl) (Nat.le_of_ble_eq_true rfl) h
  · replace h := h.2 hc
    refine e_aload_n dX8_lost_15 rfl trivial ?_
    refine e_iload_n dX8_lost_16 rfl ?_
    refine e_iload_n dX8_lost_17 rfl ?_
    obtain ⟨hK21, h⟩ := h
    refine e_callV (Mc := m_X8_fates) (vs := [am_i a1, am_i a1]) (st := []) dX8_lost_18 ok_X8_fates rfl ⟨by decide, rfl⟩ mk_X8_137 im_X8_fates sl_X8_fates rfl rfl hK21 (by omega) (Nat.le_of_ble_eq_true rfl) (Nat.le_of_ble_eq_true rfl) (Nat.le_of_ble_eq_true rfl) am_xh_nx (am_C_mono h (fun v K16 N17 I18 P19 z20 h => ?_) (fun _ _ _ _ _ _ h => h))
    replace h := am_iv_or h
    obtain ⟨x22, rfl, h⟩ := h
    show am_E d m_X8_lost 21 _ _ _ [am_i x22] K16 N17 I18 P19 z20 Q am_nx
    refine e_goto (tgt := 29) dX8_lost_21 (by decide) ?_
    exact e_ret_i dX8_lost_29 rfl (Nat.le_of_ble_eq_true rfl) (Nat.le_of_ble_eq_true rfl) h
set_option maxRecDepth 100000 in
set_option maxHeartbeats 4000000 in
theorem wf_X8_setting {d : Nat} (hd : 1 ≤ d) {s : Nat} {a1 : Int} {K N : Nat → Nat} {I : Nat → Nat → Int} {P : Nat → Nat → Option Nat} {z : Nat} {Q : am_V → am_T} (h :
  K s = 8 ∧ ∀ I2, I2 = am_u2 I s 7 0 → am_C (d - 1) m_X8_in [am_i a1, am_i 0, am_i 5] K N I2 P z (fun v K3 N4 I5 P6 z7 => am_iv v fun x8 =>
    ((x8 = 0 →
    K3 s = 8 ∧ am_C (d - 1) m_X8_refuse [am_r s, am_i 1] K3 N4 I5 P6 z7 (fun v K9 N10 I11 P12 z13 => am_iv v fun x15 =>
      Q (am_i x15) K9 N10 I11 P12 z13) am_nx) ∧
    (¬ (x8 = 0) →
    K3 s = 8 ∧ ∃ b17, P6 s 0 = some b17 ∧ K3 b17 = 10 ∧ (0 ≤ am_wr (1 + a1) ∧ am_wr (1 + a1) < N4 b17) ∧ Q (am_i (I5 b17 (Int.toNat (am_wr (1 + a1))))) K3 N4 I5 P6 z7))) am_nx) :
  am_C d m_X8_setting [am_r s, am_i a1] K N I P z Q am_nx := by
  refine am_C_of ok_X8_setting (fun v hv => am_v1all _ rfl v hv) (Nat.le_of_ble_eq_true rfl) ?_
  show am_E d m_X8_setting 0 0 0 [some (am_r s), some (am_i a1)] [] K N I P z Q am_nx
  refine e_aload_n dX8_setting_0 rfl trivial ?_
  refine e_iconst dX8_setting_1 ?_
  obtain ⟨hK1, h⟩ := h
  refine e_puti dX8_setting_2 fk_X8_25 rfl (Or.inl rfl) hK1 ?_
  replace h := h _ rfl
  generalize am_u2 I s 7 0 = I2 at h ⊢
  refine e_iload_n dX8_setting_5 rfl ?_
  refine e_iconst dX8_setting_6 ?_
  refine e_iconst dX8_setting_7 ?_
  refine e_callS (Mc := m_X8_in) (vs := [am_i a1, am_i 0, am_i 5]) (st := []) dX8_setting_8 ok_X8_in rfl mk_X8_40 sm_X8_in rfl rfl (by omega) (Nat.le_of_ble_eq_true rfl) (Nat.le_of_ble_eq_true rfl) (Nat.le_of_ble_eq_true rfl) am_xh_nx (am_C_mono h (fun v K3 N4 I5 P6 z7 h => ?_) (fun _ _ _ _ _ _ h => h))
  replace h := am_iv_or h
  obtain ⟨x8, rfl, h⟩ := h
  show am_E d m_X8_setting 11 _ _ _ [am_i x8] K3 N4 I5 P6 z7 Q am_nx
  refine e_if_eq (tgt := 25) dX8_setting_11 (by decide) (fun hc => ?_) (fun hc => ?_)
  · replace h := h.1 hc
    refine e_aload_n dX8_setting_25 rfl trivial ?_
    refine e_iconst dX8_setting_26 ?_
    obtain ⟨hK14, h⟩ := h
    refine e_callV (Mc := m_X8_refuse) (vs := [am_i 1]) (st := []) dX8_setting_27 ok_X8_refuse rfl ⟨by decide, rfl⟩ mk_X8_44 im_X8_refuse sl_X8_refuse rfl rfl hK14 (by omega) (Nat.le_of_ble_eq_true rfl) (Nat.le_of_ble_eq_true rfl) (Nat.le_of_ble_eq_true rfl) am_xh_nx (am_C_mono h (fun v K9 N10 I11 P12 z13 h => ?_) (fun _ _ _ _ _ _ h => h))
    replace h := am_iv_or h
    obtain ⟨x15, rfl, h⟩ := h
    show am_E d m_X8_setting 30 _ _ _ [am_i x15] K9 N10 I11 P12 z13 Q am_nx
    exact e_ret_i dX8_setting_30 rfl (Nat.le_of_ble_eq_true rfl) (Nat.le_of_ble_eq_true rfl) h
  · replace h := h.2 hc
    refine e_aload_n dX8_setting_14 rfl trivial ?_
    obtain ⟨hK16, h⟩ := h
    obtain ⟨b17, hb17, h⟩ := h
    refine e_getr1 dX8_setting_15 fk_X8_7 rfl hK16 hb17 ?_
    refine e_iconst dX8_setting_18 ?_
    refine e_iload_n dX8_setting_19 rfl ?_
    refine e_iadd dX8_setting_20 ?_
    obtain ⟨hK18, h⟩ := h
    obtain ⟨⟨h0, h1⟩, h⟩ := h
    refine e_iald dX8_setting_21 hK18 h0 h1 ?_
    refine e_goto (tgt := 30) dX8_setting_22 (by decide) ?_
    exact e_ret_i dX8_setting_30 rfl (Nat.le_of_ble_eq_true rfl) (Nat.le_of_ble_eq_true rfl) h
set_option maxRecDepth 100000 in
set_option maxHeartbeats 4000000 in
theorem wf_X8_routeAt {d : Nat} (hd : 1 ≤ d) {s : Nat} {a1 : Int} {K N : Nat → Nat} {I : Nat → Nat → Int} {P : Nat → Nat → Option Nat} {z : Nat} {Q : am_V → am_T} (h :
  K s = 8 ∧ ∀ I2, I2 = am_u2 I s 7 0 → ((0 ≤ a1 →
    ∃ b3, P s 0 = some b3 ∧ K b3 = 10 ∧ (0 ≤ (8 : Int) ∧ (8 : Int) < N b3) ∧ ((I2 b3 8 ≤ a1 →
      Q (am_i (-1)) K N I2 P z) ∧
      (¬ (I2 b3 8 ≤ a1) →
      (0 ≤ am_wr (46 + a1) ∧ am_wr (46 + a1) < N b3) ∧ (0 ≤ am_wr (76 + a1) ∧ am_wr (76 + a1) < N b3) ∧ Q (am_i (am_wr ((am_wr (10 * (I2 b3 (Int.toNat (am_wr (46 + a1)))))) + (I2 b3 (Int.toNat (am_wr (76 + a1))))))) K N I2 P z))) ∧
    (¬ (0 ≤ a1) →
    am_C (d - 1) m_X8_refuse [am_r s, am_i 1] K N I2 P z (fun v K5 N6 I7 P8 z9 => am_iv v fun x10 =>
      Q (am_i x10) K5 N6 I7 P8 z9) am_nx))) :
  am_C d m_X8_routeAt [am_r s, am_i a1] K N I P z Q am_nx := by
  refine am_C_of ok_X8_routeAt (fun v hv => am_v1all _ rfl v hv) (Nat.le_of_ble_eq_true rfl) ?_
  show am_E d m_X8_routeAt 0 0 0 [some (am_r s), some (am_i a1)] [] K N I P z Q am_nx
  refine e_aload_n dX8_routeAt_0 rfl trivial ?_
  refine e_iconst dX8_routeAt_1 ?_
  obtain ⟨hK1, h⟩ := h
  refine e_puti dX8_routeAt_2 fk_X8_25 rfl (Or.inl rfl) hK1 ?_
  replace h := h _ rfl
  generalize am_u2 I s 7 0 = I2 at h ⊢
  refine e_iload_n dX8_routeAt_5 rfl ?_
  refine e_if_ge (tgt := 15) dX8_routeAt_6 (by decide) (fun hc => ?_) (fun hc => ?_)
  · replace h := h.1 hc
    refine e_iload_n dX8_routeAt_15 rfl ?_
    refine e_aload_n dX8_routeAt_16 rfl trivial ?_
    obtain ⟨b3, hb3, h⟩ := h
    refine e_getr1 dX8_routeAt_17 fk_X8_7 rfl hK1 hb3 ?_
    refine e_bipush dX8_routeAt_20 ?_
    obtain ⟨hK4, h⟩ := h
    obtain ⟨⟨h0, h1⟩, h⟩ := h
    refine e_iald dX8_routeAt_22 hK4 h0 h1 ?_
    show am_E _ _ _ _ _ _ (am_i (I2 b3 8) :: _) _ _ _ _ _ _ _
    refine e_icmp_ge (tgt := 51) dX8_routeAt_23 (by decide) (fun hc => ?_) (fun hc => ?_)
    · replace h := h.1 hc
      refine e_iconst dX8_routeAt_51 ?_
      exact e_ret_i dX8_routeAt_52 rfl (Nat.le_of_ble_eq_true rfl) (Nat.le_of_ble_eq_true rfl) h
    · replace h := h.2 hc
      refine e_bipush dX8_routeAt_26 ?_
      refine e_aload_n dX8_routeAt_28 rfl trivial ?_
      refine e_getr1 dX8_routeAt_29 fk_X8_7 rfl hK1 hb3 ?_
      refine e_bipush dX8_routeAt_32 ?_
      refine e_iload_n dX8_routeAt_34 rfl ?_
      refine e_iadd dX8_routeAt_35 ?_
      obtain ⟨⟨h0, h1⟩, h⟩ := h
      refine e_iald dX8_routeAt_36 hK4 h0 h1 ?_
      refine e_imul dX8_routeAt_37 ?_
      refine e_aload_n dX8_routeAt_38 rfl trivial ?_
      refine e_getr1 dX8_routeAt_39 fk_X8_7 rfl hK1 hb3 ?_
      refine e_bipush dX8_routeAt_42 ?_
      refine e_iload_n dX8_routeAt_44 rfl ?_
      refine e_iadd dX8_routeAt_45 ?_
      obtain ⟨⟨h0, h1⟩, h⟩ := h
      refine e_iald dX8_routeAt_46 hK4 h0 h1 ?_
      refine e_iadd dX8_routeAt_47 ?_
      refine e_goto (tgt := 52) dX8_routeAt_48 (by decide) ?_
      exact e_ret_i dX8_routeAt_52 rfl (Nat.le_of_ble_eq_true rfl) (Nat.le_of_ble_eq_true rfl) h
  · replace h := h.2 hc
    refine e_aload_n dX8_routeAt_9 rfl trivial ?_
    refine e_iconst dX8_routeAt_10 ?_
    refine e_callV (Mc := m_X8_refuse) (vs := [am_i 1]) (st := []) dX8_routeAt_11 ok_X8_refuse rfl ⟨by decide, rfl⟩ mk_X8_44 im_X8_refuse sl_X8_refuse rfl rfl hK1 (by omega) (Nat.le_of_ble_eq_true rfl) (Nat.le_of_ble_eq_true rfl) (Nat.le_of_ble_eq_true rfl) am_xh_nx (am_C_mono h (fun v K5 N6 I7 P8 z9 h => ?_) (fun _ _ _ _ _ _ h => h))
    replace h := am_iv_or h
    obtain ⟨x10, rfl, h⟩ := h
    show am_E d m_X8_routeAt 14 _ _ _ [am_i x10] K5 N6 I7 P8 z9 Q am_nx
    exact e_ret_i dX8_routeAt_14 rfl (Nat.le_of_ble_eq_true rfl) (Nat.le_of_ble_eq_true rfl) h
set_option maxRecDepth 100000 in
set_option maxHeartbeats 4000000 in
theorem wf_X8_gapAhead {d : Nat} (hd : 1 ≤ d) {s : Nat} {a1 : Int} {K N : Nat → Nat} {I : Nat → Nat → Int} {P : Nat → Nat → Option Nat} {z : Nat} {Q : am_V → am_T} (h :
  K s = 8 ∧ ∀ I2, I2 = am_u2 I s 7 0 → am_C (d - 1) m_X8_isPart [am_r s, am_i a1] K N I2 P z (fun v K3 N4 I5 P6 z7 => am_iv v fun x8 =>
    ((¬ x8 = 0 →
    K3 s = 8 ∧ am_C (d - 1) m_X8_isOn [am_r s, am_i a1] K3 N4 I5 P6 z7 (fun v K9 N10 I11 P12 z13 => am_iv v fun x15 =>
      ((¬ x15 = 0 →
      K9 s = 8 ∧ am_C (d - 1) m_X8_ahead [am_r s, am_i a1] K9 N10 I11 P12 z13 (fun v K16 N17 I18 P19 z20 => am_iv v fun x22 =>
        ((¬ x22 = (-1) →
        K16 s = 8 ∧ am_C (d - 1) m_X8_tail [am_r s, am_i x22] K16 N17 I18 P19 z20 (fun v K23 N24 I25 P26 z27 => am_iv v fun x29 =>
          K23 s = 8 ∧ ∃ b31, P26 s 0 = some b31 ∧ K23 b31 = 10 ∧ (0 ≤ am_wr (500 + a1) ∧ am_wr (500 + a1) < N24 b31) ∧ Q (am_i (am_wr (x29 - (I25 b31 (Int.toNat (am_wr (500 + a1))))))) K23 N24 I25 P26 z27) am_nx) ∧
        (x22 = (-1) →
        Q (am_i (-1)) K16 N17 I18 P19 z20))) am_nx) ∧
      (x15 = 0 →
      K9 s = 8 ∧ am_C (d - 1) m_X8_refuse [am_r s, am_i 2] K9 N10 I11 P12 z13 (fun v K33 N34 I35 P36 z37 => am_iv v fun x39 =>
        Q (am_i x39) K33 N34 I35 P36 z37) am_nx))) am_nx) ∧
    (x8 = 0 →
    K3 s = 8 ∧ am_C (d - 1) m_X8_refuse [am_r s, am_i 1] K3 N4 I5 P6 z7 (fun v K40 N41 I42 P43 z44 => am_iv v fun x46 =>
      Q (am_i x46) K40 N41 I42 P43 z44) am_nx))) am_nx) :
  am_C d m_X8_gapAhead [am_r s, am_i a1] K N I P z Q am_nx := by
  refine am_C_of ok_X8_gapAhead (fun v hv => am_v1all _ rfl v hv) (Nat.le_of_ble_eq_true rfl) ?_
  show am_E d m_X8_gapAhead 0 0 0 [some (am_r s), some (am_i a1), none] [] K N I P z Q am_nx
  refine e_aload_n dX8_gapAhead_0 rfl trivial ?_
  refine e_iconst dX8_gapAhead_1 ?_
  obtain ⟨hK1, h⟩ := h
  refine e_puti dX8_gapAhead_2 fk_X8_25 rfl (Or.inl rfl) hK1 ?_
  replace h := h _ rfl
  generalize am_u2 I s 7 0 = I2 at h ⊢
  refine e_aload_n dX8_gapAhead_5 rfl trivial ?_
  refine e_iload_n dX8_gapAhead_6 rfl ?_
  refine e_callV (Mc := m_X8_isPart) (vs := [am_i a1]) (st := []) dX8_gapAhead_7 ok_X8_isPart rfl ⟨by decide, rfl⟩ mk_X8_131 im_X8_isPart sl_X8_isPart rfl rfl hK1 (by omega) (Nat.le_of_ble_eq_true rfl) (Nat.le_of_ble_eq_true rfl) (Nat.le_of_ble_eq_true rfl) am_xh_nx (am_C_mono h (fun v K3 N4 I5 P6 z7 h => ?_) (fun _ _ _ _ _ _ h => h))
  replace h := am_iv_or h
  obtain ⟨x8, rfl, h⟩ := h
  show am_E d m_X8_gapAhead 10 _ _ _ [am_i x8] K3 N4 I5 P6 z7 Q am_nx
  refine e_if_ne (tgt := 19) dX8_gapAhead_10 (by decide) (fun hc => ?_) (fun hc => ?_)
  · replace h := h.1 hc
    refine e_aload_n dX8_gapAhead_19 rfl trivial ?_
    refine e_iload_n dX8_gapAhead_20 rfl ?_
    obtain ⟨hK14, h⟩ := h
    refine e_callV (Mc := m_X8_isOn) (vs := [am_i a1]) (st := []) dX8_gapAhead_21 ok_X8_isOn rfl ⟨by decide, rfl⟩ mk_X8_32 im_X8_isOn sl_X8_isOn rfl rfl hK14 (by omega) (Nat.le_of_ble_eq_true rfl) (Nat.le_of_ble_eq_true rfl) (Nat.le_of_ble_eq_true rfl) am_xh_nx (am_C_mono h (fun v K9 N10 I11 P12 z13 h => ?_) (fun _ _ _ _ _ _ h => h))
    replace h := am_iv_or h
    obtain ⟨x15, rfl, h⟩ := h
    show am_E d m_X8_gapAhead 24 _ _ _ [am_i x15] K9 N10 I11 P12 z13 Q am_nx
    refine e_if_ne (tgt := 33) dX8_gapAhead_24 (by decide) (fun hc => ?_) (fun hc => ?_)
    · replace h := h.1 hc
      refine e_aload_n dX8_gapAhead_33 rfl trivial ?_
      refine e_iload_n dX8_gapAhead_34 rfl ?_
      obtain ⟨hK21, h⟩ := h
      refine e_callV (Mc := m_X8_ahead) (vs := [am_i a1]) (st := []) dX8_gapAhead_35 ok_X8_ahead rfl ⟨by decide, rfl⟩ mk_X8_93 im_X8_ahead sl_X8_ahead rfl rfl hK21 (by omega) (Nat.le_of_ble_eq_true rfl) (Nat.le_of_ble_eq_true rfl) (Nat.le_of_ble_eq_true rfl) am_xh_nx (am_C_mono h (fun v K16 N17 I18 P19 z20 h => ?_) (fun _ _ _ _ _ _ h => h))
      replace h := am_iv_or h
      obtain ⟨x22, rfl, h⟩ := h
      show am_E d m_X8_gapAhead 38 _ _ _ [am_i x22] K16 N17 I18 P19 z20 Q am_nx
      refine e_istore_n dX8_gapAhead_38 ?_
      refine e_iload_n dX8_gapAhead_39 rfl ?_
      refine e_iconst dX8_gapAhead_40 ?_
      refine e_icmp_ne (tgt := 48) dX8_gapAhead_41 (by decide) (fun hc => ?_) (fun hc => ?_)
      · replace h := h.1 hc
        refine e_aload_n dX8_gapAhead_48 rfl trivial ?_
        refine e_iload_n dX8_gapAhead_49 rfl ?_
        obtain ⟨hK28, h⟩ := h
        refine e_callV (Mc := m_X8_tail) (vs := [am_i x22]) (st := []) dX8_gapAhead_50 ok_X8_tail rfl ⟨by decide, rfl⟩ mk_X8_99 im_X8_tail sl_X8_tail rfl rfl hK28 (by omega) (Nat.le_of_ble_eq_true rfl) (Nat.le_of_ble_eq_true rfl) (Nat.le_of_ble_eq_true rfl) am_xh_nx (am_C_mono h (fun v K23 N24 I25 P26 z27 h => ?_) (fun _ _ _ _ _ _ h => h))
        replace h := am_iv_or h
        obtain ⟨x29, rfl, h⟩ := h
        show am_E d m_X8_gapAhead 53 _ _ _ [am_i x29] K23 N24 I25 P26 z27 Q am_nx
        refine e_aload_n dX8_gapAhead_53 rfl trivial ?_
        obtain ⟨hK30, h⟩ := h
        obtain ⟨b31, hb31, h⟩ := h
        refine e_getr1 dX8_gapAhead_54 fk_X8_7 rfl hK30 hb31 ?_
        refine e_sipush dX8_gapAhead_57 ?_
        refine e_iload_n dX8_gapAhead_60 rfl ?_
        refine e_iadd dX8_gapAhead_61 ?_
        obtain ⟨hK32, h⟩ := h
        obtain ⟨⟨h0, h1⟩, h⟩ := h
        refine e_iald dX8_gapAhead_62 hK32 h0 h1 ?_
        refine e_isub dX8_gapAhead_63 ?_
        exact e_ret_i dX8_gapAhead_64 rfl (Nat.le_of_ble_eq_true rfl) (Nat.le_of_ble_eq_true rfl) h
      · replace h := h.2 hc
        refine e_iconst dX8_gapAhead_44 ?_
        refine e_goto (tgt := 64) dX8_gapAhead_45 (by decide) ?_
        exact e_ret_i dX8_gapAhead_64 rfl (Nat.le_of_ble_eq_true rfl) (Nat.le_of_ble_eq_true rfl) h
    · replace h := h.2 hc
      refine e_aload_n dX8_gapAhead_27 rfl trivial ?_
      refine e_iconst dX8_gapAhead_28 ?_
      obtain ⟨hK38, h⟩ := h
      refine e_callV (Mc := m_X8_refuse) (vs := [am_i 2]) (st := []) dX8_gapAhead_29 ok_X8_refuse rfl ⟨by decide, rfl⟩ mk_X8_44 im_X8_refuse sl_X8_refuse rfl rfl hK38 (by omega) (Nat.le_of_ble_eq_true rfl) (Nat.le_of_ble_eq_true rfl) (Nat.le_of_ble_eq_true rfl) am_xh_nx (am_C_mono h (fun v K33 N34 I35 P36 z37 h => ?_) (fun _ _ _ _ _ _ h => h))
      replace h := am_iv_or h
      obtain ⟨x39, rfl, h⟩ := h
      show am_E d m_X8_gapAhead 32 _ _ _ [am_i x39] K33 N34 I35 P36 z37 Q am_nx
      exact e_ret_i dX8_gapAhead_32 rfl (Nat.le_of_ble_eq_true rfl) (Nat.le_of_ble_eq_true rfl) h
  · replace h := h.2 hc
    refine e_aload_n dX8_gapAhead_13 rfl trivial ?_
    refine e_iconst dX8_gapAhead_14 ?_
    obtain ⟨hK45, h⟩ := h
    refine e_callV (Mc := m_X8_refuse) (vs := [am_i 1]) (st := []) dX8_gapAhead_15 ok_X8_refuse rfl ⟨by decide, rfl⟩ mk_X8_44 im_X8_refuse sl_X8_refuse rfl rfl hK45 (by omega) (Nat.le_of_ble_eq_true rfl) (Nat.le_of_ble_eq_true rfl) (Nat.le_of_ble_eq_true rfl) am_xh_nx (am_C_mono h (fun v K40 N41 I42 P43 z44 h => ?_) (fun _ _ _ _ _ _ h => h))
    replace h := am_iv_or h
    obtain ⟨x46, rfl, h⟩ := h
    show am_E d m_X8_gapAhead 18 _ _ _ [am_i x46] K40 N41 I42 P43 z44 Q am_nx
    exact e_ret_i dX8_gapAhead_18 rfl (Nat.le_of_ble_eq_true rfl) (Nat.le_of_ble_eq_true rfl) h
set_option maxRecDepth 100000 in
set_option maxHeartbeats 4000000 in
theorem wf_X8_isRankedBefore {d : Nat} (hd : 1 ≤ d) {s : Nat} {a1 : Int} {a2 : Int} {K N : Nat → Nat} {I : Nat → Nat → Int} {P : Nat → Nat → Option Nat} {z : Nat} {Q : am_V → am_T} (h :
  K s = 8 ∧ am_C (d - 1) m_X8_laneOf [am_r s, am_i a1] K N I P z (fun v K1 N2 I3 P4 z5 => am_iv v fun x7 =>
    K1 s = 8 ∧ am_C (d - 1) m_X8_laneOf [am_r s, am_i a2] K1 N2 I3 P4 z5 (fun v K8 N9 I10 P11 z12 => am_iv v fun x14 =>
    ((x7 = (-1) →
    ((¬ x7 = (-1) →
      Q (am_i 1) K8 N9 I10 P11 z12) ∧
      (x7 = (-1) →
      ((¬ x14 = (-1) →
        Q (am_i 0) K8 N9 I10 P11 z12) ∧
        (x14 = (-1) →
        ((a2 ≤ a1 →
          Q (am_i 0) K8 N9 I10 P11 z12) ∧
          (¬ (a2 ≤ a1) →
          Q (am_i 1) K8 N9 I10 P11 z12))))))) ∧
    (¬ (x7 = (-1)) →
    ((¬ x14 = (-1) →
      K8 s = 8 ∧ ∃ b16, P11 s 0 = some b16 ∧ K8 b16 = 10 ∧ (0 ≤ am_wr (16 + x7) ∧ am_wr (16 + x7) < N9 b16) ∧ am_C (d - 1) m_X8_middle [am_r s, am_i a1] K8 N9 I10 P11 z12 (fun v K18 N19 I20 P21 z22 => am_iv v fun x23 =>
        K18 s = 8 ∧ ∃ b25, P21 s 0 = some b25 ∧ K18 b25 = 10 ∧ (0 ≤ am_wr (16 + x14) ∧ am_wr (16 + x14) < N19 b25) ∧ am_C (d - 1) m_X8_middle [am_r s, am_i a2] K18 N19 I20 P21 z22 (fun v K27 N28 I29 P30 z31 => am_iv v fun x32 =>
        ((am_wr ((I10 b16 (Int.toNat (am_wr (16 + x7)))) - x23) < am_wr ((I20 b25 (Int.toNat (am_wr (16 + x14)))) - x32) →
        Q (am_i 1) K27 N28 I29 P30 z31) ∧
        (¬ (am_wr ((I10 b16 (Int.toNat (am_wr (16 + x7)))) - x23) < am_wr ((I20 b25 (Int.toNat (am_wr (16 + x14)))) - x32)) →
        ((¬ am_wr ((I10 b16 (Int.toNat (am_wr (16 + x7)))) - x23) = am_wr ((I20 b25 (Int.toNat (am_wr (16 + x14)))) - x32) →
          Q (am_i 0) K27 N28 I29 P30 z31) ∧
          (am_wr ((I10 b16 (Int.toNat (am_wr (16 + x7)))) - x23) = am_wr ((I20 b25 (Int.toNat (am_wr (16 + x14)))) - x32) →
          ((a2 ≤ a1 →
            Q (am_i 0) K27 N28 I29 P30 z31) ∧
            (¬ (a2 ≤ a1) →
            Q (am_i 1) K27 N28 I29 P30 z31))))))) am_nx) am_nx) ∧
      (x14 = (-1) →
      ((¬ x7 = (-1) →
        Q (am_i 1) K8 N9 I10 P11 z12) ∧
        (x7 = (-1) →
        ((¬ x14 = (-1) →
          Q (am_i 0) K8 N9 I10 P11 z12) ∧
          (x14 = (-1) →
          ((a2 ≤ a1 →
            Q (am_i 0) K8 N9 I10 P11 z12) ∧
            (¬ (a2 ≤ a1) →
            Q (am_i 1) K8 N9 I10 P11 z12))))))))))) am_nx) am_nx) :
  am_C d m_X8_isRankedBefore [am_r s, am_i a1, am_i a2] K N I P z Q am_nx := by
  refine am_C_of ok_X8_isRankedBefore (fun v hv => am_v1all _ rfl v hv) (Nat.le_of_ble_eq_true rfl) ?_
  show am_E d m_X8_isRankedBefore 0 0 0 [some (am_r s), some (am_i a1), some (am_i a2), none, none, none, none] [] K N I P z Q am_nx
  refine e_aload_n dX8_isRankedBefore_0 rfl trivial ?_
  refine e_iload_n dX8_isRankedBefore_1 rfl ?_
  obtain ⟨hK6, h⟩ := h
  refine e_callV (Mc := m_X8_laneOf) (vs := [am_i a1]) (st := []) dX8_isRankedBefore_2 ok_X8_laneOf rfl ⟨by decide, rfl⟩ mk_X8_115 im_X8_laneOf sl_X8_laneOf rfl rfl hK6 (by omega) (Nat.le_of_ble_eq_true rfl) (Nat.le_of_ble_eq_true rfl) (Nat.le_of_ble_eq_true rfl) am_xh_nx (am_C_mono h (fun v K1 N2 I3 P4 z5 h => ?_) (fun _ _ _ _ _ _ h => h))
  replace h := am_iv_or h
  obtain ⟨x7, rfl, h⟩ := h
  show am_E d m_X8_isRankedBefore 5 _ _ _ [am_i x7] K1 N2 I3 P4 z5 Q am_nx
  refine e_istore_n dX8_isRankedBefore_5 ?_
  refine e_aload_n dX8_isRankedBefore_6 rfl trivial ?_
  refine e_iload_n dX8_isRankedBefore_7 rfl ?_
  obtain ⟨hK13, h⟩ := h
  refine e_callV (Mc := m_X8_laneOf) (vs := [am_i a2]) (st := []) dX8_isRankedBefore_8 ok_X8_laneOf rfl ⟨by decide, rfl⟩ mk_X8_115 im_X8_laneOf sl_X8_laneOf rfl rfl hK13 (by omega) (Nat.le_of_ble_eq_true rfl) (Nat.le_of_ble_eq_true rfl) (Nat.le_of_ble_eq_true rfl) am_xh_nx (am_C_mono h (fun v K8 N9 I10 P11 z12 h => ?_) (fun _ _ _ _ _ _ h => h))
  replace h := am_iv_or h
  obtain ⟨x14, rfl, h⟩ := h
  show am_E d m_X8_isRankedBefore 11 _ _ _ [am_i x14] K8 N9 I10 P11 z12 Q am_nx
  refine e_istore dX8_isRankedBefore_11 ?_
  refine e_iload_n dX8_isRankedBefore_13 rfl ?_
  refine e_iconst dX8_isRankedBefore_14 ?_
  refine e_icmp_eq (tgt := 24) dX8_isRankedBefore_15 (by decide) (fun hc => ?_) (fun hc => ?_)
  · replace h := h.1 hc
    refine e_iload_n dX8_isRankedBefore_24 rfl ?_
    refine e_iconst dX8_isRankedBefore_25 ?_
    refine e_icmp_ne (tgt := 40) dX8_isRankedBefore_26 (by decide) (fun hc => ?_) (fun hc => ?_)
    · replace h := h.1 hc
      refine e_iconst dX8_isRankedBefore_40 ?_
      refine e_goto (tgt := 45) dX8_isRankedBefore_41 (by decide) ?_
      exact e_ret_z dX8_isRankedBefore_45 rfl (by decide) (Nat.le_of_ble_eq_true rfl) (Nat.le_of_ble_eq_true rfl) h
    · replace h := h.2 hc
      refine e_iload dX8_isRankedBefore_29 rfl ?_
      refine e_iconst dX8_isRankedBefore_31 ?_
      refine e_icmp_ne (tgt := 44) dX8_isRankedBefore_32 (by decide) (fun hc => ?_) (fun hc => ?_)
      · replace h := h.1 hc
        refine e_iconst dX8_isRankedBefore_44 ?_
        exact e_ret_z dX8_isRankedBefore_45 rfl (by decide) (Nat.le_of_ble_eq_true rfl) (Nat.le_of_ble_eq_true rfl) h
      · replace h := h.2 hc
        refine e_iload_n dX8_isRankedBefore_35 rfl ?_
        refine e_iload_n dX8_isRankedBefore_36 rfl ?_
        refine e_icmp_ge (tgt := 44) dX8_isRankedBefore_37 (by decide) (fun hc => ?_) (fun hc => ?_)
        · replace h := h.1 hc
          refine e_iconst dX8_isRankedBefore_44 ?_
          exact e_ret_z dX8_isRankedBefore_45 rfl (by decide) (Nat.le_of_ble_eq_true rfl) (Nat.le_of_ble_eq_true rfl) h
        · replace h := h.2 hc
          refine e_iconst dX8_isRankedBefore_40 ?_
          refine e_goto (tgt := 45) dX8_isRankedBefore_41 (by decide) ?_
          exact e_ret_z dX8_isRankedBefore_45 rfl (by decide) (Nat.le_of_ble_eq_true rfl) (Nat.le_of_ble_eq_true rfl) h
  · replace h := h.2 hc
    refine e_iload dX8_isRankedBefore_18 rfl ?_
    refine e_iconst dX8_isRankedBefore_20 ?_
    refine e_icmp_ne (tgt := 46) dX8_isRankedBefore_21 (by decide) (fun hc => ?_) (fun hc => ?_)
    · replace h := h.1 hc
      refine e_aload_n dX8_isRankedBefore_46 rfl trivial ?_
      obtain ⟨hK15, h⟩ := h
      obtain ⟨b16, hb16, h⟩ := h
      refine e_getr1 dX8_isRankedBefore_47 fk_X8_7 rfl hK15 hb16 ?_
      refine e_bipush dX8_isRankedBefore_50 ?_
      refine e_iload_n dX8_isRankedBefore_52 rfl ?_
      refine e_iadd dX8_isRankedBefore_53 ?_
      obtain ⟨hK17, h⟩ := h
      obtain ⟨⟨h0, h1⟩, h⟩ := h
      refine e_iald dX8_isRankedBefore_54 hK17 h0 h1 ?_
      refine e_aload_n dX8_isRankedBefore_55 rfl trivial ?_
      refine e_iload_n dX8_isRankedBefore_56 rfl ?_
      refine e_callV (Mc := m_X8_middle) (vs := [am_i a1]) (st := [am_i (I10 b16 (Int.toNat (am_wr (16 + x7))))]) dX8_isRankedBefore_57 ok_X8_middle rfl ⟨by decide, rfl⟩ mk_X8_118 im_X8_middle sl_X8_middle rfl rfl hK15 (by omega) (Nat.le_of_ble_eq_true rfl) (Nat.le_of_ble_eq_true rfl) (Nat.le_of_ble_eq_true rfl) am_xh_nx (am_C_mono h (fun v K18 N19 I20 P21 z22 h => ?_) (fun _ _ _ _ _ _ h => h))
      replace h := am_iv_or h
      obtain ⟨x23, rfl, h⟩ := h
      show am_E d m_X8_isRankedBefore 60 _ _ _ [am_i x23, am_i (I10 b16 (Int.toNat (am_wr (16 + x7))))] K18 N19 I20 P21 z22 Q am_nx
      refine e_isub dX8_isRankedBefore_60 ?_
      refine e_istore dX8_isRankedBefore_61 ?_
      refine e_aload_n dX8_isRankedBefore_63 rfl trivial ?_
      obtain ⟨hK24, h⟩ := h
      obtain ⟨b25, hb25, h⟩ := h
      refine e_getr1 dX8_isRankedBefore_64 fk_X8_7 rfl hK24 hb25 ?_
      refine e_bipush dX8_isRankedBefore_67 ?_
      refine e_iload dX8_isRankedBefore_69 rfl ?_
      refine e_iadd dX8_isRankedBefore_71 ?_
      obtain ⟨hK26, h⟩ := h
      obtain ⟨⟨h0, h1⟩, h⟩ := h
      refine e_iald dX8_isRankedBefore_72 hK26 h0 h1 ?_
      refine e_aload_n dX8_isRankedBefore_73 rfl trivial ?_
      refine e_iload_n dX8_isRankedBefore_74 rfl ?_
      refine e_callV (Mc := m_X8_middle) (vs := [am_i a2]) (st := [am_i (I20 b25 (Int.toNat (am_wr (16 + x14))))]) dX8_isRankedBefore_75 ok_X8_middle rfl ⟨by decide, rfl⟩ mk_X8_118 im_X8_middle sl_X8_middle rfl rfl hK24 (by omega) (Nat.le_of_ble_eq_true rfl) (Nat.le_of_ble_eq_true rfl) (Nat.le_of_ble_eq_true rfl) am_xh_nx (am_C_mono h (fun v K27 N28 I29 P30 z31 h => ?_) (fun _ _ _ _ _ _ h => h))
      replace h := am_iv_or h
      obtain ⟨x32, rfl, h⟩ := h
      show am_E d m_X8_isRankedBefore 78 _ _ _ [am_i x32, am_i (I20 b25 (Int.toNat (am_wr (16 + x14))))] K27 N28 I29 P30 z31 Q am_nx
      refine e_isub dX8_isRankedBefore_78 ?_
      refine e_istore dX8_isRankedBefore_79 ?_
      refine e_iload dX8_isRankedBefore_81 rfl ?_
      refine e_iload dX8_isRankedBefore_83 rfl ?_
      refine e_icmp_lt (tgt := 100) dX8_isRankedBefore_85 (by decide) (fun hc => ?_) (fun hc => ?_)
      · replace h := h.1 hc
        refine e_iconst dX8_isRankedBefore_100 ?_
        refine e_goto (tgt := 105) dX8_isRankedBefore_101 (by decide) ?_
        exact e_ret_z dX8_isRankedBefore_105 rfl (by decide) (Nat.le_of_ble_eq_true rfl) (Nat.le_of_ble_eq_true rfl) h
      · replace h := h.2 hc
        refine e_iload dX8_isRankedBefore_88 rfl ?_
        refine e_iload dX8_isRankedBefore_90 rfl ?_
        refine e_icmp_ne (tgt := 104) dX8_isRankedBefore_92 (by decide) (fun hc => ?_) (fun hc => ?_)
        · replace h := h.1 hc
          refine e_iconst dX8_isRankedBefore_104 ?_
          exact e_ret_z dX8_isRankedBefore_105 rfl (by decide) (Nat.le_of_ble_eq_true rfl) (Nat.le_of_ble_eq_true rfl) h
        · replace h := h.2 hc
          refine e_iload_n dX8_isRankedBefore_95 rfl ?_
          refine e_iload_n dX8_isRankedBefore_96 rfl ?_
          refine e_icmp_ge (tgt := 104) dX8_isRankedBefore_97 (by decide) (fun hc => ?_) (fun hc => ?_)
          · replace h := h.1 hc
            refine e_iconst dX8_isRankedBefore_104 ?_
            exact e_ret_z dX8_isRankedBefore_105 rfl (by decide) (Nat.le_of_ble_eq_true rfl) (Nat.le_of_ble_eq_true rfl) h
          · replace h := h.2 hc
            refine e_iconst dX8_isRankedBefore_100 ?_
            refine e_goto (tgt := 105) dX8_isRankedBefore_101 (by decide) ?_
            exact e_ret_z dX8_isRankedBefore_105 rfl (by decide) (Nat.le_of_ble_eq_true rfl) (Nat.le_of_ble_eq_true rfl) h
    · replace h := h.2 hc
      refine e_iload_n dX8_isRankedBefore_24 rfl ?_
      refine e_iconst dX8_isRankedBefore_25 ?_
      refine e_icmp_ne (tgt := 40) dX8_isRankedBefore_26 (by decide) (fun hc => ?_) (fun hc => ?_)
      · replace h := h.1 hc
        refine e_iconst dX8_isRankedBefore_40 ?_
        refine e_goto (tgt := 45) dX8_isRankedBefore_41 (by decide) ?_
        exact e_ret_z dX8_isRankedBefore_45 rfl (by decide) (Nat.le_of_ble_eq_true rfl) (Nat.le_of_ble_eq_true rfl) h
      · replace h := h.2 hc
        refine e_iload dX8_isRankedBefore_29 rfl ?_
        refine e_iconst dX8_isRankedBefore_31 ?_
        refine e_icmp_ne (tgt := 44) dX8_isRankedBefore_32 (by decide) (fun hc => ?_) (fun hc => ?_)
        · replace h := h.1 hc
          refine e_iconst dX8_isRankedBefore_44 ?_
          exact e_ret_z dX8_isRankedBefore_45 rfl (by decide) (Nat.le_of_ble_eq_true rfl) (Nat.le_of_ble_eq_true rfl) h
        · replace h := h.2 hc
          refine e_iload_n dX8_isRankedBefore_35 rfl ?_
          refine e_iload_n dX8_isRankedBefore_36 rfl ?_
          refine e_icmp_ge (tgt := 44) dX8_isRankedBefore_37 (by decide) (fun hc => ?_) (fun hc => ?_)
          · replace h := h.1 hc
            refine e_iconst dX8_isRankedBefore_44 ?_
            exact e_ret_z dX8_isRankedBefore_45 rfl (by decide) (Nat.le_of_ble_eq_true rfl) (Nat.le_of_ble_eq_true rfl) h
          · replace h := h.2 hc
            refine e_iconst dX8_isRankedBefore_40 ?_
            refine e_goto (tgt := 45) dX8_isRankedBefore_41 (by decide) ?_
            exact e_ret_z dX8_isRankedBefore_45 rfl (by decide) (Nat.le_of_ble_eq_true rfl) (Nat.le_of_ble_eq_true rfl) h
def L_X8_ranked_17 (d : Nat) (l0 : Nat) (l1 : Int) (l2 : Int) (K N : Nat → Nat) (I : Nat → Nat → Int) (P : Nat → Nat → Option Nat) (z : Nat) (Q : am_V → am_T) : Prop := am_E d m_X8_ranked 17 0 0 [some (am_r l0), some (am_i l1), some (am_i l2), none, none] [] K N I P z Q am_nx
def L_X8_ranked_33 (d : Nat) (l0 : Nat) (l1 : Int) (l2 : Int) (l3 : Int) (l4 : Int) (K N : Nat → Nat) (I : Nat → Nat → Int) (P : Nat → Nat → Option Nat) (z : Nat) (Q : am_V → am_T) : Prop := am_E d m_X8_ranked 33 0 0 [some (am_r l0), some (am_i l1), some (am_i l2), some (am_i l3), some (am_i l4)] [] K N I P z Q am_nx
set_option maxRecDepth 100000 in
set_option maxHeartbeats 4000000 in
theorem wf_X8_ranked {d : Nat} (hd : 1 ≤ d) {s : Nat} {a1 : Int} {K N : Nat → Nat} {I : Nat → Nat → Int} {P : Nat → Nat → Option Nat} {z : Nat} {Q : am_V → am_T} (h :
  K s = 8 ∧ ∀ I2, I2 = am_u2 I s 7 0 → ((0 ≤ a1 →
    L_X8_ranked_17 d s a1 0 K N I2 P z Q) ∧
    (¬ (0 ≤ a1) →
    am_C (d - 1) m_X8_refuse [am_r s, am_i 1] K N I2 P z (fun v K3 N4 I5 P6 z7 => am_iv v fun x8 =>
      Q (am_i x8) K3 N4 I5 P6 z7) am_nx))) :
  am_C d m_X8_ranked [am_r s, am_i a1] K N I P z Q am_nx := by
  refine am_C_of ok_X8_ranked (fun v hv => am_v1all _ rfl v hv) (Nat.le_of_ble_eq_true rfl) ?_
  show am_E d m_X8_ranked 0 0 0 [some (am_r s), some (am_i a1), none, none, none] [] K N I P z Q am_nx
  refine e_aload_n dX8_ranked_0 rfl trivial ?_
  refine e_iconst dX8_ranked_1 ?_
  obtain ⟨hK1, h⟩ := h
  refine e_puti dX8_ranked_2 fk_X8_25 rfl (Or.inl rfl) hK1 ?_
  replace h := h _ rfl
  generalize am_u2 I s 7 0 = I2 at h ⊢
  refine e_iload_n dX8_ranked_5 rfl ?_
  refine e_if_ge (tgt := 15) dX8_ranked_6 (by decide) (fun hc => ?_) (fun hc => ?_)
  · replace h := h.1 hc
    refine e_iconst dX8_ranked_15 ?_
    refine e_istore_n dX8_ranked_16 ?_
    exact e_forget (am_sub_k (am_sub_k (am_sub_k (am_sub_d (am_sub_d am_sub_nil))))) h
  · replace h := h.2 hc
    refine e_aload_n dX8_ranked_9 rfl trivial ?_
    refine e_iconst dX8_ranked_10 ?_
    refine e_callV (Mc := m_X8_refuse) (vs := [am_i 1]) (st := []) dX8_ranked_11 ok_X8_refuse rfl ⟨by decide, rfl⟩ mk_X8_44 im_X8_refuse sl_X8_refuse rfl rfl hK1 (by omega) (Nat.le_of_ble_eq_true rfl) (Nat.le_of_ble_eq_true rfl) (Nat.le_of_ble_eq_true rfl) am_xh_nx (am_C_mono h (fun v K3 N4 I5 P6 z7 h => ?_) (fun _ _ _ _ _ _ h => h))
    replace h := am_iv_or h
    obtain ⟨x8, rfl, h⟩ := h
    show am_E d m_X8_ranked 14 _ _ _ [am_i x8] K3 N4 I5 P6 z7 Q am_nx
    exact e_ret_i dX8_ranked_14 rfl (Nat.le_of_ble_eq_true rfl) (Nat.le_of_ble_eq_true rfl) h
set_option maxRecDepth 100000 in
set_option maxHeartbeats 4000000 in
theorem wf_X8_ranked_17 {d : Nat} {l0 : Nat} {l1 : Int} {l2 : Int} {K N : Nat → Nat} {I : Nat → Nat → Int} {P : Nat → Nat → Option Nat} {z : Nat} {Q : am_V → am_T} (h :
  K l0 = 8 ∧ ∃ b2, P l0 0 = some b2 ∧ K b2 = 10 ∧ (0 ≤ (9 : Int) ∧ (9 : Int) < N b2) ∧ ((I b2 9 ≤ l2 →
    Q (am_i (-1)) K N I P z) ∧
    (¬ (I b2 9 ≤ l2) →
    L_X8_ranked_33 d l0 l1 l2 0 0 K N I P z Q))) :
  L_X8_ranked_17 d l0 l1 l2 K N I P z Q := by
  unfold L_X8_ranked_17
  refine e_iload_n dX8_ranked_17 rfl ?_
  refine e_aload_n dX8_ranked_18 rfl trivial ?_
  obtain ⟨hK1, h⟩ := h
  obtain ⟨b2, hb2, h⟩ := h
  refine e_getr1 dX8_ranked_19 fk_X8_7 rfl hK1 hb2 ?_
  refine e_bipush dX8_ranked_22 ?_
  obtain ⟨hK3, h⟩ := h
  obtain ⟨⟨h0, h1⟩, h⟩ := h
  refine e_iald dX8_ranked_24 hK3 h0 h1 ?_
  show am_E _ _ _ _ _ _ (am_i (I b2 9) :: _) _ _ _ _ _ _ _
  refine e_icmp_ge (tgt := 116) dX8_ranked_25 (by decide) (fun hc => ?_) (fun hc => ?_)
  · replace h := h.1 hc
    refine e_iconst dX8_ranked_116 ?_
    exact e_ret_i dX8_ranked_117 rfl (Nat.le_of_ble_eq_true rfl) (Nat.le_of_ble_eq_true rfl) h
  · replace h := h.2 hc
    refine e_iconst dX8_ranked_28 ?_
    refine e_istore_n dX8_ranked_29 ?_
    refine e_iconst dX8_ranked_30 ?_
    refine e_istore dX8_ranked_31 ?_
    exact e_forget (am_sub_k (am_sub_k (am_sub_k (am_sub_k (am_sub_k am_sub_nil))))) h
set_option maxRecDepth 100000 in
set_option maxHeartbeats 4000000 in
theorem wf_X8_ranked_33 {d : Nat} (hd : 1 ≤ d) {l0 : Nat} {l1 : Int} {l2 : Int} {l3 : Int} {l4 : Int} {K N : Nat → Nat} {I : Nat → Nat → Int} {P : Nat → Nat → Option Nat} {z : Nat} {Q : am_V → am_T} (h :
  K l0 = 8 ∧ ∃ b2, P l0 0 = some b2 ∧ K b2 = 10 ∧ (0 ≤ (9 : Int) ∧ (9 : Int) < N b2) ∧ ((I b2 9 ≤ l4 →
    am_C (d - 1) m_X8_isOn [am_r l0, am_i l2] K N I P z (fun v K4 N5 I6 P7 z8 => am_iv v fun x9 =>
      ((x9 = 0 →
      L_X8_ranked_17 d l0 l1 (am_wr (l2 + 1)) K4 N5 I6 P7 z8 Q) ∧
      (¬ (x9 = 0) →
      ((¬ l3 = l1 →
        L_X8_ranked_17 d l0 l1 (am_wr (l2 + 1)) K4 N5 I6 P7 z8 Q) ∧
        (l3 = l1 →
        Q (am_i l2) K4 N5 I6 P7 z8))))) am_nx) ∧
    (¬ (I b2 9 ≤ l4) →
    am_C (d - 1) m_X8_isOn [am_r l0, am_i l2] K N I P z (fun v K10 N11 I12 P13 z14 => am_iv v fun x15 =>
      ((x15 = 0 →
      K10 l0 = 8 ∧ am_C (d - 1) m_X8_isOn [am_r l0, am_i l2] K10 N11 I12 P13 z14 (fun v K16 N17 I18 P19 z20 => am_iv v fun x22 =>
        ((x22 = 0 →
        L_X8_ranked_17 d l0 l1 (am_wr (l2 + 1)) K16 N17 I18 P19 z20 Q) ∧
        (¬ (x22 = 0) →
        ((¬ l3 = l1 →
          L_X8_ranked_17 d l0 l1 (am_wr (l2 + 1)) K16 N17 I18 P19 z20 Q) ∧
          (l3 = l1 →
          Q (am_i l2) K16 N17 I18 P19 z20))))) am_nx) ∧
      (¬ (x15 = 0) →
      K10 l0 = 8 ∧ am_C (d - 1) m_X8_isOn [am_r l0, am_i l4] K10 N11 I12 P13 z14 (fun v K23 N24 I25 P26 z27 => am_iv v fun x29 =>
        ((x29 = 0 →
        am_C (d - 1) m_X8_one [am_i 0] K23 N24 I25 P26 z27 (fun v K30 N31 I32 P33 z34 => am_iv v fun x35 =>
          L_X8_ranked_33 d l0 l1 l2 (am_wr (l3 + x35)) (am_wr (l4 + 1)) K30 N31 I32 P33 z34 Q) am_nx) ∧
        (¬ (x29 = 0) →
        ((l4 = l2 →
          am_C (d - 1) m_X8_one [am_i 0] K23 N24 I25 P26 z27 (fun v K36 N37 I38 P39 z40 => am_iv v fun x41 =>
            L_X8_ranked_33 d l0 l1 l2 (am_wr (l3 + x41)) (am_wr (l4 + 1)) K36 N37 I38 P39 z40 Q) am_nx) ∧
          (¬ (l4 = l2) →
          K23 l0 = 8 ∧ am_C (d - 1) m_X8_isRankedBefore [am_r l0, am_i l4, am_i l2] K23 N24 I25 P26 z27 (fun v K42 N43 I44 P45 z46 => am_iv v fun x48 =>
            ((x48 = 0 →
            am_C (d - 1) m_X8_one [am_i 0] K42 N43 I44 P45 z46 (fun v K49 N50 I51 P52 z53 => am_iv v fun x54 =>
              L_X8_ranked_33 d l0 l1 l2 (am_wr (l3 + x54)) (am_wr (l4 + 1)) K49 N50 I51 P52 z53 Q) am_nx) ∧
            (¬ (x48 = 0) →
            am_C (d - 1) m_X8_one [am_i 1] K42 N43 I44 P45 z46 (fun v K55 N56 I57 P58 z59 => am_iv v fun x60 =>
              L_X8_ranked_33 d l0 l1 l2 (am_wr (l3 + x60)) (am_wr (l4 + 1)) K55 N56 I57 P58 z59 Q) am_nx))) am_nx))))) am_nx))) am_nx))) :
  L_X8_ranked_33 d l0 l1 l2 l3 l4 K N I P z Q := by
  unfold L_X8_ranked_33
  refine e_iload dX8_ranked_33 rfl ?_
  refine e_aload_n dX8_ranked_35 rfl trivial ?_
  obtain ⟨hK1, h⟩ := h
  obtain ⟨b2, hb2, h⟩ := h
  refine e_getr1 dX8_ranked_36 fk_X8_7 rfl hK1 hb2 ?_
  refine e_bipush dX8_ranked_39 ?_
  obtain ⟨hK3, h⟩ := h
  obtain ⟨⟨h0, h1⟩, h⟩ := h
  refine e_iald dX8_ranked_41 hK3 h0 h1 ?_
  show am_E _ _ _ _ _ _ (am_i (I b2 9) :: _) _ _ _ _ _ _ _
  refine e_icmp_ge (tgt := 95) dX8_ranked_42 (by decide) (fun hc => ?_) (fun hc => ?_)
  · replace h := h.1 hc
    refine e_aload_n dX8_ranked_95 rfl trivial ?_
    refine e_iload_n dX8_ranked_96 rfl ?_
    refine e_callV (Mc := m_X8_isOn) (vs := [am_i l2]) (st := []) dX8_ranked_97 ok_X8_isOn rfl ⟨by decide, rfl⟩ mk_X8_32 im_X8_isOn sl_X8_isOn rfl rfl hK1 (by omega) (Nat.le_of_ble_eq_true rfl) (Nat.le_of_ble_eq_true rfl) (Nat.le_of_ble_eq_true rfl) am_xh_nx (am_C_mono h (fun v K4 N5 I6 P7 z8 h => ?_) (fun _ _ _ _ _ _ h => h))
    replace h := am_iv_or h
    obtain ⟨x9, rfl, h⟩ := h
    show am_E d m_X8_ranked 100 _ _ _ [am_i x9] K4 N5 I6 P7 z8 Q am_nx
    refine e_if_eq (tgt := 110) dX8_ranked_100 (by decide) (fun hc => ?_) (fun hc => ?_)
    · replace h := h.1 hc
      refine e_iinc dX8_ranked_110 rfl ?_
      refine e_goto (tgt := 17) dX8_ranked_113 (by decide) ?_
      exact e_forget (am_sub_k (am_sub_k (am_sub_k (am_sub_d (am_sub_d am_sub_nil))))) h
    · replace h := h.2 hc
      refine e_iload_n dX8_ranked_103 rfl ?_
      refine e_iload_n dX8_ranked_104 rfl ?_
      refine e_icmp_ne (tgt := 110) dX8_ranked_105 (by decide) (fun hc => ?_) (fun hc => ?_)
      · replace h := h.1 hc
        refine e_iinc dX8_ranked_110 rfl ?_
        refine e_goto (tgt := 17) dX8_ranked_113 (by decide) ?_
        exact e_forget (am_sub_k (am_sub_k (am_sub_k (am_sub_d (am_sub_d am_sub_nil))))) h
      · replace h := h.2 hc
        refine e_iload_n dX8_ranked_108 rfl ?_
        exact e_ret_i dX8_ranked_109 rfl (Nat.le_of_ble_eq_true rfl) (Nat.le_of_ble_eq_true rfl) h
  · replace h := h.2 hc
    refine e_aload_n dX8_ranked_45 rfl trivial ?_
    refine e_iload_n dX8_ranked_46 rfl ?_
    refine e_callV (Mc := m_X8_isOn) (vs := [am_i l2]) (st := []) dX8_ranked_47 ok_X8_isOn rfl ⟨by decide, rfl⟩ mk_X8_32 im_X8_isOn sl_X8_isOn rfl rfl hK1 (by omega) (Nat.le_of_ble_eq_true rfl) (Nat.le_of_ble_eq_true rfl) (Nat.le_of_ble_eq_true rfl) am_xh_nx (am_C_mono h (fun v K10 N11 I12 P13 z14 h => ?_) (fun _ _ _ _ _ _ h => h))
    replace h := am_iv_or h
    obtain ⟨x15, rfl, h⟩ := h
    show am_E d m_X8_ranked 50 _ _ _ [am_i x15] K10 N11 I12 P13 z14 Q am_nx
    refine e_if_eq (tgt := 95) dX8_ranked_50 (by decide) (fun hc => ?_) (fun hc => ?_)
    · replace h := h.1 hc
      refine e_aload_n dX8_ranked_95 rfl trivial ?_
      refine e_iload_n dX8_ranked_96 rfl ?_
      obtain ⟨hK21, h⟩ := h
      refine e_callV (Mc := m_X8_isOn) (vs := [am_i l2]) (st := []) dX8_ranked_97 ok_X8_isOn rfl ⟨by decide, rfl⟩ mk_X8_32 im_X8_isOn sl_X8_isOn rfl rfl hK21 (by omega) (Nat.le_of_ble_eq_true rfl) (Nat.le_of_ble_eq_true rfl) (Nat.le_of_ble_eq_true rfl) am_xh_nx (am_C_mono h (fun v K16 N17 I18 P19 z20 h => ?_) (fun _ _ _ _ _ _ h => h))
      replace h := am_iv_or h
      obtain ⟨x22, rfl, h⟩ := h
      show am_E d m_X8_ranked 100 _ _ _ [am_i x22] K16 N17 I18 P19 z20 Q am_nx
      refine e_if_eq (tgt := 110) dX8_ranked_100 (by decide) (fun hc => ?_) (fun hc => ?_)
      · replace h := h.1 hc
        refine e_iinc dX8_ranked_110 rfl ?_
        refine e_goto (tgt := 17) dX8_ranked_113 (by decide) ?_
        exact e_forget (am_sub_k (am_sub_k (am_sub_k (am_sub_d (am_sub_d am_sub_nil))))) h
      · replace h := h.2 hc
        refine e_iload_n dX8_ranked_103 rfl ?_
        refine e_iload_n dX8_ranked_104 rfl ?_
        refine e_icmp_ne (tgt := 110) dX8_ranked_105 (by decide) (fun hc => ?_) (fun hc => ?_)
        · replace h := h.1 hc
          refine e_iinc dX8_ranked_110 rfl ?_
          refine e_goto (tgt := 17) dX8_ranked_113 (by decide) ?_
          exact e_forget (am_sub_k (am_sub_k (am_sub_k (am_sub_d (am_sub_d am_sub_nil))))) h
        · replace h := h.2 hc
          refine e_iload_n dX8_ranked_108 rfl ?_
          exact e_ret_i dX8_ranked_109 rfl (Nat.le_of_ble_eq_true rfl) (Nat.le_of_ble_eq_true rfl) h
    · replace h := h.2 hc
      refine e_iload_n dX8_ranked_53 rfl ?_
      refine e_aload_n dX8_ranked_54 rfl trivial ?_
      refine e_iload dX8_ranked_55 rfl ?_
      obtain ⟨hK28, h⟩ := h
      refine e_callV (Mc := m_X8_isOn) (vs := [am_i l4]) (st := [am_i l3]) dX8_ranked_57 ok_X8_isOn rfl ⟨by decide, rfl⟩ mk_X8_32 im_X8_isOn sl_X8_isOn rfl rfl hK28 (by omega) (Nat.le_of_ble_eq_true rfl) (Nat.le_of_ble_eq_true rfl) (Nat.le_of_ble_eq_true rfl) am_xh_nx (am_C_mono h (fun v K23 N24 I25 P26 z27 h => ?_) (fun _ _ _ _ _ _ h => h))
      replace h := am_iv_or h
      obtain ⟨x29, rfl, h⟩ := h
      show am_E d m_X8_ranked 60 _ _ _ [am_i x29, am_i l3] K23 N24 I25 P26 z27 Q am_nx
      refine e_if_eq (tgt := 83) dX8_ranked_60 (by decide) (fun hc => ?_) (fun hc => ?_)
      · replace h := h.1 hc
        refine e_iconst dX8_ranked_83 ?_
        refine e_callS (Mc := m_X8_one) (vs := [am_i 0]) (st := [am_i l3]) dX8_ranked_84 ok_X8_one rfl mk_X8_36 sm_X8_one rfl rfl (by omega) (Nat.le_of_ble_eq_true rfl) (Nat.le_of_ble_eq_true rfl) (Nat.le_of_ble_eq_true rfl) am_xh_nx (am_C_mono h (fun v K30 N31 I32 P33 z34 h => ?_) (fun _ _ _ _ _ _ h => h))
        replace h := am_iv_or h
        obtain ⟨x35, rfl, h⟩ := h
        show am_E d m_X8_ranked 87 _ _ _ [am_i x35, am_i l3] K30 N31 I32 P33 z34 Q am_nx
        refine e_iadd dX8_ranked_87 ?_
        refine e_istore_n dX8_ranked_88 ?_
        refine e_iinc dX8_ranked_89 rfl ?_
        refine e_goto (tgt := 33) dX8_ranked_92 (by decide) ?_
        exact e_forget (am_sub_k (am_sub_k (am_sub_k (am_sub_k (am_sub_k am_sub_nil))))) h
      · replace h := h.2 hc
        refine e_iload dX8_ranked_63 rfl ?_
        refine e_iload_n dX8_ranked_65 rfl ?_
        refine e_icmp_eq (tgt := 83) dX8_ranked_66 (by decide) (fun hc => ?_) (fun hc => ?_)
        · replace h := h.1 hc
          refine e_iconst dX8_ranked_83 ?_
          refine e_callS (Mc := m_X8_one) (vs := [am_i 0]) (st := [am_i l3]) dX8_ranked_84 ok_X8_one rfl mk_X8_36 sm_X8_one rfl rfl (by omega) (Nat.le_of_ble_eq_true rfl) (Nat.le_of_ble_eq_true rfl) (Nat.le_of_ble_eq_true rfl) am_xh_nx (am_C_mono h (fun v K36 N37 I38 P39 z40 h => ?_) (fun _ _ _ _ _ _ h => h))
          replace h := am_iv_or h
          obtain ⟨x41, rfl, h⟩ := h
          show am_E d m_X8_ranked 87 _ _ _ [am_i x41, am_i l3] K36 N37 I38 P39 z40 Q am_nx
          refine e_iadd dX8_ranked_87 ?_
          refine e_istore_n dX8_ranked_88 ?_
          refine e_iinc dX8_ranked_89 rfl ?_
          refine e_goto (tgt := 33) dX8_ranked_92 (by decide) ?_
          exact e_forget (am_sub_k (am_sub_k (am_sub_k (am_sub_k (am_sub_k am_sub_nil))))) h
        · replace h := h.2 hc
          refine e_aload_n dX8_ranked_69 rfl trivial ?_
          refine e_iload dX8_ranked_70 rfl ?_
          refine e_iload_n dX8_ranked_72 rfl ?_
          obtain ⟨hK47, h⟩ := h
          refine e_callV (Mc := m_X8_isRankedBefore) (vs := [am_i l4, am_i l2]) (st := [am_i l3]) dX8_ranked_73 ok_X8_isRankedBefore rfl ⟨by decide, rfl⟩ mk_X8_146 im_X8_isRankedBefore sl_X8_isRankedBefore rfl rfl hK47 (by omega) (Nat.le_of_ble_eq_true rfl) (Nat.le_of_ble_eq_true rfl) (Nat.le_of_ble_eq_true rfl) am_xh_nx (am_C_mono h (fun v K42 N43 I44 P45 z46 h => ?_) (fun _ _ _ _ _ _ h => h))
          replace h := am_iv_or h
          obtain ⟨x48, rfl, h⟩ := h
          show am_E d m_X8_ranked 76 _ _ _ [am_i x48, am_i l3] K42 N43 I44 P45 z46 Q am_nx
          refine e_if_eq (tgt := 83) dX8_ranked_76 (by decide) (fun hc => ?_) (fun hc => ?_)
          · replace h := h.1 hc
            refine e_iconst dX8_ranked_83 ?_
            refine e_callS (Mc := m_X8_one) (vs := [am_i 0]) (st := [am_i l3]) dX8_ranked_84 ok_X8_one rfl mk_X8_36 sm_X8_one rfl rfl (by omega) (Nat.le_of_ble_eq_true rfl) (Nat.le_of_ble_eq_true rfl) (Nat.le_of_ble_eq_true rfl) am_xh_nx (am_C_mono h (fun v K49 N50 I51 P52 z53 h => ?_) (fun _ _ _ _ _ _ h => h))
            replace h := am_iv_or h
            obtain ⟨x54, rfl, h⟩ := h
            show am_E d m_X8_ranked 87 _ _ _ [am_i x54, am_i l3] K49 N50 I51 P52 z53 Q am_nx
            refine e_iadd dX8_ranked_87 ?_
            refine e_istore_n dX8_ranked_88 ?_
            refine e_iinc dX8_ranked_89 rfl ?_
            refine e_goto (tgt := 33) dX8_ranked_92 (by decide) ?_
            exact e_forget (am_sub_k (am_sub_k (am_sub_k (am_sub_k (am_sub_k am_sub_nil))))) h
          · replace h := h.2 hc
            refine e_iconst dX8_ranked_79 ?_
            refine e_goto (tgt := 84) dX8_ranked_80 (by decide) ?_
            refine e_callS (Mc := m_X8_one) (vs := [am_i 1]) (st := [am_i l3]) dX8_ranked_84 ok_X8_one rfl mk_X8_36 sm_X8_one rfl rfl (by omega) (Nat.le_of_ble_eq_true rfl) (Nat.le_of_ble_eq_true rfl) (Nat.le_of_ble_eq_true rfl) am_xh_nx (am_C_mono h (fun v K55 N56 I57 P58 z59 h => ?_) (fun _ _ _ _ _ _ h => h))
            replace h := am_iv_or h
            obtain ⟨x60, rfl, h⟩ := h
            show am_E d m_X8_ranked 87 _ _ _ [am_i x60, am_i l3] K55 N56 I57 P58 z59 Q am_nx
            refine e_iadd dX8_ranked_87 ?_
            refine e_istore_n dX8_ranked_88 ?_
            refine e_iinc dX8_ranked_89 rfl ?_
            refine e_goto (tgt := 33) dX8_ranked_92 (by decide) ?_
            exact e_forget (am_sub_k (am_sub_k (am_sub_k (am_sub_k (am_sub_k am_sub_nil))))) h
set_option maxRecDepth 100000 in
set_option maxHeartbeats 4000000 in
theorem wf_X8_share {d : Nat} (hd : 1 ≤ d) {s : Nat} {K N : Nat → Nat} {I : Nat → Nat → Int} {P : Nat → Nat → Option Nat} {z : Nat} {Q : am_V → am_T} (h :
  K s = 8 ∧ ∀ I2, I2 = am_u2 I s 7 0 → ∃ b3, P s 0 = some b3 ∧ K b3 = 10 ∧ (0 ≤ (9 : Int) ∧ (9 : Int) < N b3) ∧ am_C (d - 1) m_X8_onBelt [am_r s] K N I2 P z (fun v K5 N6 I7 P8 z9 => am_iv v fun x10 =>
    ((¬ am_wr (I2 b3 9 - x10) = 0 →
    K5 s = 8 ∧ am_C (d - 1) m_X8_fates [am_r s, am_i 10, am_i 15] K5 N6 I7 P8 z9 (fun v K11 N12 I13 P14 z15 => am_iv v fun x17 =>
      vf_n64 (FP.ddiv (FP.i2d (Int32.ofInt x17)) (FP.i2d (Int32.ofInt (am_wr (I2 b3 9 - x10))))) ∧ Q (am_d (FP.ddiv (FP.i2d (Int32.ofInt x17)) (FP.i2d (Int32.ofInt (am_wr (I2 b3 9 - x10)))))) K11 N12 I13 P14 z15) am_nx) ∧
    (am_wr (I2 b3 9 - x10) = 0 →
    Q (am_d FP.dconst1) K5 N6 I7 P8 z9))) am_nx) :
  am_C d m_X8_share [am_r s] K N I P z Q am_nx := by
  refine am_C_of ok_X8_share (fun v hv => am_v1all _ rfl v hv) (Nat.le_of_ble_eq_true rfl) ?_
  show am_E d m_X8_share 0 0 0 [some (am_r s), none] [] K N I P z Q am_nx
  refine e_aload_n dX8_share_0 rfl trivial ?_
  refine e_iconst dX8_share_1 ?_
  obtain ⟨hK1, h⟩ := h
  refine e_puti dX8_share_2 fk_X8_25 rfl (Or.inl rfl) hK1 ?_
  replace h := h _ rfl
  generalize am_u2 I s 7 0 = I2 at h ⊢
  refine e_aload_n dX8_share_5 rfl trivial ?_
  obtain ⟨b3, hb3, h⟩ := h
  refine e_getr1 dX8_share_6 fk_X8_7 rfl hK1 hb3 ?_
  refine e_bipush dX8_share_9 ?_
  obtain ⟨hK4, h⟩ := h
  obtain ⟨⟨h0, h1⟩, h⟩ := h
  refine e_iald dX8_share_11 hK4 h0 h1 ?_
  show am_E _ _ _ _ _ _ (am_i (I2 b3 9) :: _) _ _ _ _ _ _ _
  refine e_aload_n dX8_share_12 rfl trivial ?_
  refine e_callV (Mc := m_X8_onBelt) (vs := []) (st := [am_i (I2 b3 9)]) dX8_share_13 ok_X8_onBelt rfl ⟨by decide, rfl⟩ mk_X8_54 im_X8_onBelt sl_X8_onBelt rfl rfl hK1 (by omega) (Nat.le_of_ble_eq_true rfl) (Nat.le_of_ble_eq_true rfl) (Nat.le_of_ble_eq_true rfl) am_xh_nx (am_C_mono h (fun v K5 N6 I7 P8 z9 h => ?_) (fun _ _ _ _ _ _ h => h))
  replace h := am_iv_or h
  obtain ⟨x10, rfl, h⟩ := h
  show am_E d m_X8_share 16 _ _ _ [am_i x10, am_i (I2 b3 9)] K5 N6 I7 P8 z9 Q am_nx
  refine e_isub dX8_share_16 ?_
  refine e_istore_n dX8_share_17 ?_
  refine e_iload_n dX8_share_18 rfl ?_
  refine e_if_ne (tgt := 26) dX8_share_19 (by decide) (fun hc => ?_) (fun hc => ?_)
  · replace h := h.1 hc
    refine e_aload_n dX8_share_26 rfl trivial ?_
    refine e_bipush dX8_share_27 ?_
    refine e_bipush dX8_share_29 ?_
    obtain ⟨hK16, h⟩ := h
    refine e_callV (Mc := m_X8_fates) (vs := [am_i 10, am_i 15]) (st := []) dX8_share_31 ok_X8_fates rfl ⟨by decide, rfl⟩ mk_X8_137 im_X8_fates sl_X8_fates rfl rfl hK16 (by omega) (Nat.le_of_ble_eq_true rfl) (Nat.le_of_ble_eq_true rfl) (Nat.le_of_ble_eq_true rfl) am_xh_nx (am_C_mono h (fun v K11 N12 I13 P14 z15 h => ?_) (fun _ _ _ _ _ _ h => h))
    replace h := am_iv_or h
    obtain ⟨x17, rfl, h⟩ := h
    show am_E d m_X8_share 34 _ _ _ [am_i x17] K11 N12 I13 P14 z15 Q am_nx
    refine e_i2d dX8_share_34 ?_
    refine e_iload_n dX8_share_35 rfl ?_
    refine e_i2d dX8_share_36 ?_
    obtain ⟨hvf, h⟩ := h
    refine e_ddiv dX8_share_37 hvf ?_
    exact e_ret_d dX8_share_38 rfl (Nat.le_of_ble_eq_true rfl) (Nat.le_of_ble_eq_true rfl) h
  · replace h := h.2 hc
    refine e_dconst1 dX8_share_22 ?_
    refine e_goto (tgt := 38) dX8_share_23 (by decide) ?_
    exact e_ret_d dX8_share_38 rfl (Nat.le_of_ble_eq_true rfl) (Nat.le_of_ble_eq_true rfl) h
def L_X8_beginTrial_2 (d : Nat) (l0 : Nat) (l1 : Int) (K N : Nat → Nat) (I : Nat → Nat → Int) (P : Nat → Nat → Option Nat) (z : Nat) (Q : am_V → am_T) : Prop := am_E d m_X8_beginTrial 2 0 0 [some (am_r l0), some (am_i l1)] [] K N I P z Q am_nx
set_option maxRecDepth 100000 in
set_option maxHeartbeats 4000000 in
theorem wf_X8_beginTrial {d : Nat} {s : Nat} {K N : Nat → Nat} {I : Nat → Nat → Int} {P : Nat → Nat → Option Nat} {z : Nat} {Q : am_V → am_T} (h :
  L_X8_beginTrial_2 d s 0 K N I P z Q) :
  am_C d m_X8_beginTrial [am_r s] K N I P z Q am_nx := by
  refine am_C_of ok_X8_beginTrial (fun v hv => am_v1all _ rfl v hv) (Nat.le_of_ble_eq_true rfl) ?_
  show am_E d m_X8_beginTrial 0 0 0 [some (am_r s), none] [] K N I P z Q am_nx
  refine e_iconst dX8_beginTrial_0 ?_
  refine e_istore_n dX8_beginTrial_1 ?_
  exact e_forget (am_sub_k (am_sub_k am_sub_nil)) h
set_option maxRecDepth 100000 in
set_option maxHeartbeats 4000000 in
theorem wf_X8_beginTrial_2 {d : Nat} {l0 : Nat} {l1 : Int} {K N : Nat → Nat} {I : Nat → Nat → Int} {P : Nat → Nat → Option Nat} {z : Nat} {Q : am_V → am_T} (h :
  ((3200 ≤ l1 →
    Q am_nl K N I P z) ∧
    (¬ (3200 ≤ l1) →
    K l0 = 8 ∧ ∃ b2, P l0 2 = some b2 ∧ ∃ b3, P l0 0 = some b3 ∧ K b3 = 10 ∧ (0 ≤ l1 ∧ l1 < N b3) ∧ K b2 = 10 ∧ (0 ≤ l1 ∧ l1 < N b2) ∧ ∀ I6, I6 = am_u2 I b2 (Int.toNat l1) (I b3 (Int.toNat l1)) → L_X8_beginTrial_2 d l0 (am_wr (l1 + 1)) K N I6 P z Q))) :
  L_X8_beginTrial_2 d l0 l1 K N I P z Q := by
  unfold L_X8_beginTrial_2
  refine e_iload_n dX8_beginTrial_2 rfl ?_
  refine e_sipush dX8_beginTrial_3 ?_
  refine e_icmp_ge (tgt := 27) dX8_beginTrial_6 (by decide) (fun hc => ?_) (fun hc => ?_)
  · replace h := h.1 hc
    exact e_ret_v dX8_beginTrial_27 rfl (Nat.le_of_ble_eq_true rfl) (Nat.le_of_ble_eq_true rfl) h
  · replace h := h.2 hc
    refine e_aload_n dX8_beginTrial_9 rfl trivial ?_
    obtain ⟨hK1, h⟩ := h
    obtain ⟨b2, hb2, h⟩ := h
    refine e_getr1 dX8_beginTrial_10 fk_X8_16 rfl hK1 hb2 ?_
    refine e_iload_n dX8_beginTrial_13 rfl ?_
    refine e_aload_n dX8_beginTrial_14 rfl trivial ?_
    obtain ⟨b3, hb3, h⟩ := h
    refine e_getr1 dX8_beginTrial_15 fk_X8_7 rfl hK1 hb3 ?_
    refine e_iload_n dX8_beginTrial_18 rfl ?_
    obtain ⟨hK4, h⟩ := h
    obtain ⟨⟨h0, h1⟩, h⟩ := h
    refine e_iald dX8_beginTrial_19 hK4 h0 h1 ?_
    obtain ⟨hK5, h⟩ := h
    obtain ⟨⟨h0, h1⟩, h⟩ := h
    refine e_iast dX8_beginTrial_20 hK5 h0 h1 ?_
    replace h := h _ rfl
    generalize am_u2 I b2 (Int.toNat l1) (I b3 (Int.toNat l1)) = I6 at h ⊢
    refine e_iinc dX8_beginTrial_21 rfl ?_
    refine e_goto (tgt := 2) dX8_beginTrial_24 (by decide) ?_
    exact e_forget (am_sub_k (am_sub_k am_sub_nil)) h
def L_X8_endTrial_2 (d : Nat) (l0 : Nat) (l1 : Int) (K N : Nat → Nat) (I : Nat → Nat → Int) (P : Nat → Nat → Option Nat) (z : Nat) (Q : am_V → am_T) : Prop := am_E d m_X8_endTrial 2 0 0 [some (am_r l0), some (am_i l1)] [] K N I P z Q am_nx
set_option maxRecDepth 100000 in
set_option maxHeartbeats 4000000 in
theorem wf_X8_endTrial {d : Nat} {s : Nat} {K N : Nat → Nat} {I : Nat → Nat → Int} {P : Nat → Nat → Option Nat} {z : Nat} {Q : am_V → am_T} (h :
  L_X8_endTrial_2 d s 0 K N I P z Q) :
  am_C d m_X8_endTrial [am_r s] K N I P z Q am_nx := by
  refine am_C_of ok_X8_endTrial (fun v hv => am_v1all _ rfl v hv) (Nat.le_of_ble_eq_true rfl) ?_
  show am_E d m_X8_endTrial 0 0 0 [some (am_r s), none] [] K N I P z Q am_nx
  refine e_iconst dX8_endTrial_0 ?_
  refine e_istore_n dX8_endTrial_1 ?_
  exact e_forget (am_sub_k (am_sub_k am_sub_nil)) h
set_option maxRecDepth 100000 in
set_option maxHeartbeats 4000000 in
theorem wf_X8_endTrial_2 {d : Nat} {l0 : Nat} {l1 : Int} {K N : Nat → Nat} {I : Nat → Nat → Int} {P : Nat → Nat → Option Nat} {z : Nat} {Q : am_V → am_T} (h :
  ((3200 ≤ l1 →
    Q am_nl K N I P z) ∧
    (¬ (3200 ≤ l1) →
    K l0 = 8 ∧ ∃ b2, P l0 0 = some b2 ∧ ∃ b3, P l0 2 = some b3 ∧ K b3 = 10 ∧ (0 ≤ l1 ∧ l1 < N b3) ∧ K b2 = 10 ∧ (0 ≤ l1 ∧ l1 < N b2) ∧ ∀ I6, I6 = am_u2 I b2 (Int.toNat l1) (I b3 (Int.toNat l1)) → L_X8_endTrial_2 d l0 (am_wr (l1 + 1)) K N I6 P z Q))) :
  L_X8_endTrial_2 d l0 l1 K N I P z Q := by
  unfold L_X8_endTrial_2
  refine e_iload_n dX8_endTrial_2 rfl ?_
  refine e_sipush dX8_endTrial_3 ?_
  refine e_icmp_ge (tgt := 27) dX8_endTrial_6 (by decide) (fun hc => ?_) (fun hc => ?_)
  · replace h := h.1 hc
    exact e_ret_v dX8_endTrial_27 rfl (Nat.le_of_ble_eq_true rfl) (Nat.le_of_ble_eq_true rfl) h
  · replace h := h.2 hc
    refine e_aload_n dX8_endTrial_9 rfl trivial ?_
    obtain ⟨hK1, h⟩ := h
    obtain ⟨b2, hb2, h⟩ := h
    refine e_getr1 dX8_endTrial_10 fk_X8_7 rfl hK1 hb2 ?_
    refine e_iload_n dX8_endTrial_13 rfl ?_
    refine e_aload_n dX8_endTrial_14 rfl trivial ?_
    obtain ⟨b3, hb3, h⟩ := h
    refine e_getr1 dX8_endTrial_15 fk_X8_16 rfl hK1 hb3 ?_
    refine e_iload_n dX8_endTrial_18 rfl ?_
    obtain ⟨hK4, h⟩ := h
    obtain ⟨⟨h0, h1⟩, h⟩ := h
    refine e_iald dX8_endTrial_19 hK4 h0 h1 ?_
    obtain ⟨hK5, h⟩ := h
    obtain ⟨⟨h0, h1⟩, h⟩ := h
    refine e_iast dX8_endTrial_20 hK5 h0 h1 ?_
    replace h := h _ rfl
    generalize am_u2 I b2 (Int.toNat l1) (I b3 (Int.toNat l1)) = I6 at h ⊢
    refine e_iinc dX8_endTrial_21 rfl ?_
    refine e_goto (tgt := 2) dX8_endTrial_24 (by decide) ?_
    exact e_forget (am_sub_k (am_sub_k am_sub_nil)) h
def L_X8_fateOf_23 (d : Nat) (l0 : Nat) (l1 : Int) (K N : Nat → Nat) (I : Nat → Nat → Int) (P : Nat → Nat → Option Nat) (z : Nat) (Q : am_V → am_T) : Prop := am_E d m_X8_fateOf 23 0 0 [some (am_r l0), some (am_i l1), none] [] K N I P z Q am_nx
set_option maxRecDepth 100000 in
set_option maxHeartbeats 4000000 in
theorem wf_X8_fateOf {d : Nat} (hd : 1 ≤ d) {s : Nat} {a1 : Int} {K N : Nat → Nat} {I : Nat → Nat → Int} {P : Nat → Nat → Option Nat} {z : Nat} {Q : am_V → am_T} (h :
  K s = 8 ∧ ∀ I2, I2 = am_u2 I s 7 0 → am_C (d - 1) m_X8_isPart [am_r s, am_i a1] K N I2 P z (fun v K3 N4 I5 P6 z7 => am_iv v fun x8 =>
    ((¬ x8 = 0 →
    K3 s = 8 ∧ am_C (d - 1) m_X8_beginTrial [am_r s] K3 N4 I5 P6 z7 (fun _ K9 N10 I11 P12 z13 =>
      L_X8_fateOf_23 d s a1 K9 N10 I11 P12 z13 Q) am_nx) ∧
    (x8 = 0 →
    K3 s = 8 ∧ am_C (d - 1) m_X8_refuse [am_r s, am_i 1] K3 N4 I5 P6 z7 (fun v K15 N16 I17 P18 z19 => am_iv v fun x21 =>
      Q (am_i x21) K15 N16 I17 P18 z19) am_nx))) am_nx) :
  am_C d m_X8_fateOf [am_r s, am_i a1] K N I P z Q am_nx := by
  refine am_C_of ok_X8_fateOf (fun v hv => am_v1all _ rfl v hv) (Nat.le_of_ble_eq_true rfl) ?_
  show am_E d m_X8_fateOf 0 0 0 [some (am_r s), some (am_i a1), none] [] K N I P z Q am_nx
  refine e_aload_n dX8_fateOf_0 rfl trivial ?_
  refine e_iconst dX8_fateOf_1 ?_
  obtain ⟨hK1, h⟩ := h
  refine e_puti dX8_fateOf_2 fk_X8_25 rfl (Or.inl rfl) hK1 ?_
  replace h := h _ rfl
  generalize am_u2 I s 7 0 = I2 at h ⊢
  refine e_aload_n dX8_fateOf_5 rfl trivial ?_
  refine e_iload_n dX8_fateOf_6 rfl ?_
  refine e_callV (Mc := m_X8_isPart) (vs := [am_i a1]) (st := []) dX8_fateOf_7 ok_X8_isPart rfl ⟨by decide, rfl⟩ mk_X8_131 im_X8_isPart sl_X8_isPart rfl rfl hK1 (by omega) (Nat.le_of_ble_eq_true rfl) (Nat.le_of_ble_eq_true rfl) (Nat.le_of_ble_eq_true rfl) am_xh_nx (am_C_mono h (fun v K3 N4 I5 P6 z7 h => ?_) (fun _ _ _ _ _ _ h => h))
  replace h := am_iv_or h
  obtain ⟨x8, rfl, h⟩ := h
  show am_E d m_X8_fateOf 10 _ _ _ [am_i x8] K3 N4 I5 P6 z7 Q am_nx
  refine e_if_ne (tgt := 19) dX8_fateOf_10 (by decide) (fun hc => ?_) (fun hc => ?_)
  · replace h := h.1 hc
    refine e_aload_n dX8_fateOf_19 rfl trivial ?_
    obtain ⟨hK14, h⟩ := h
    refine e_callV (Mc := m_X8_beginTrial) (vs := []) (st := []) dX8_fateOf_20 ok_X8_beginTrial rfl ⟨by decide, rfl⟩ mk_X8_149 im_X8_beginTrial sl_X8_beginTrial rfl rfl hK14 (by omega) (Nat.le_of_ble_eq_true rfl) (Nat.le_of_ble_eq_true rfl) (Nat.le_of_ble_eq_true rfl) am_xh_nx (am_C_mono h (fun v K9 N10 I11 P12 z13 h => ?_) (fun _ _ _ _ _ _ h => h))
    show am_E d m_X8_fateOf 23 _ _ _ [] K9 N10 I11 P12 z13 Q am_nx
    exact e_forget (am_sub_k (am_sub_k (am_sub_d am_sub_nil))) h
  · replace h := h.2 hc
    refine e_aload_n dX8_fateOf_13 rfl trivial ?_
    refine e_iconst dX8_fateOf_14 ?_
    obtain ⟨hK20, h⟩ := h
    refine e_callV (Mc := m_X8_refuse) (vs := [am_i 1]) (st := []) dX8_fateOf_15 ok_X8_refuse rfl ⟨by decide, rfl⟩ mk_X8_44 im_X8_refuse sl_X8_refuse rfl rfl hK20 (by omega) (Nat.le_of_ble_eq_true rfl) (Nat.le_of_ble_eq_true rfl) (Nat.le_of_ble_eq_true rfl) am_xh_nx (am_C_mono h (fun v K15 N16 I17 P18 z19 h => ?_) (fun _ _ _ _ _ _ h => h))
    replace h := am_iv_or h
    obtain ⟨x21, rfl, h⟩ := h
    show am_E d m_X8_fateOf 18 _ _ _ [am_i x21] K15 N16 I17 P18 z19 Q am_nx
    exact e_ret_i dX8_fateOf_18 rfl (Nat.le_of_ble_eq_true rfl) (Nat.le_of_ble_eq_true rfl) h
set_option maxRecDepth 100000 in
set_option maxHeartbeats 4000000 in
theorem wf_X8_fateOf_23 {d : Nat} (hd : 1 ≤ d) {l0 : Nat} {l1 : Int} {K N : Nat → Nat} {I : Nat → Nat → Int} {P : Nat → Nat → Option Nat} {z : Nat} {Q : am_V → am_T} (h :
  K l0 = 8 ∧ am_C (d - 1) m_X8_isOn [am_r l0, am_i l1] K N I P z (fun v K1 N2 I3 P4 z5 => am_iv v fun x7 =>
    ((x7 = 0 →
    K1 l0 = 8 ∧ ∃ b9, P4 l0 0 = some b9 ∧ K1 b9 = 10 ∧ (0 ≤ am_wr (800 + l1) ∧ am_wr (800 + l1) < N2 b9) ∧ am_C (d - 1) m_X8_endTrial [am_r l0] K1 N2 I3 P4 z5 (fun _ K11 N12 I13 P14 z15 =>
      Q (am_i (I3 b9 (Int.toNat (am_wr (800 + l1))))) K11 N12 I13 P14 z15) am_nx) ∧
    (¬ (x7 = 0) →
    K1 l0 = 8 ∧ am_C (d - 1) m_X8_go [am_r l0] K1 N2 I3 P4 z5 (fun _ K16 N17 I18 P19 z20 =>
      L_X8_fateOf_23 d l0 l1 K16 N17 I18 P19 z20 Q) am_nx))) am_nx) :
  L_X8_fateOf_23 d l0 l1 K N I P z Q := by
  unfold L_X8_fateOf_23
  refine e_aload_n dX8_fateOf_23 rfl trivial ?_
  refine e_iload_n dX8_fateOf_24 rfl ?_
  obtain ⟨hK6, h⟩ := h
  refine e_callV (Mc := m_X8_isOn) (vs := [am_i l1]) (st := []) dX8_fateOf_25 ok_X8_isOn rfl ⟨by decide, rfl⟩ mk_X8_32 im_X8_isOn sl_X8_isOn rfl rfl hK6 (by omega) (Nat.le_of_ble_eq_true rfl) (Nat.le_of_ble_eq_true rfl) (Nat.le_of_ble_eq_true rfl) am_xh_nx (am_C_mono h (fun v K1 N2 I3 P4 z5 h => ?_) (fun _ _ _ _ _ _ h => h))
  replace h := am_iv_or h
  obtain ⟨x7, rfl, h⟩ := h
  show am_E d m_X8_fateOf 28 _ _ _ [am_i x7] K1 N2 I3 P4 z5 Q am_nx
  refine e_if_eq (tgt := 38) dX8_fateOf_28 (by decide) (fun hc => ?_) (fun hc => ?_)
  · replace h := h.1 hc
    refine e_aload_n dX8_fateOf_38 rfl trivial ?_
    obtain ⟨hK8, h⟩ := h
    obtain ⟨b9, hb9, h⟩ := h
    refine e_getr1 dX8_fateOf_39 fk_X8_7 rfl hK8 hb9 ?_
    refine e_sipush dX8_fateOf_42 ?_
    refine e_iload_n dX8_fateOf_45 rfl ?_
    refine e_iadd dX8_fateOf_46 ?_
    obtain ⟨hK10, h⟩ := h
    obtain ⟨⟨h0, h1⟩, h⟩ := h
    refine e_iald dX8_fateOf_47 hK10 h0 h1 ?_
    refine e_istore_n dX8_fateOf_48 ?_
    refine e_aload_n dX8_fateOf_49 rfl trivial ?_
    refine e_callV (Mc := m_X8_endTrial) (vs := []) (st := []) dX8_fateOf_50 ok_X8_endTrial rfl ⟨by decide, rfl⟩ mk_X8_152 im_X8_endTrial sl_X8_endTrial rfl rfl hK8 (by omega) (Nat.le_of_ble_eq_true rfl) (Nat.le_of_ble_eq_true rfl) (Nat.le_of_ble_eq_true rfl) am_xh_nx (am_C_mono h (fun v K11 N12 I13 P14 z15 h => ?_) (fun _ _ _ _ _ _ h => h))
    show am_E d m_X8_fateOf 53 _ _ _ [] K11 N12 I13 P14 z15 Q am_nx
    refine e_iload_n dX8_fateOf_53 rfl ?_
    exact e_ret_i dX8_fateOf_54 rfl (Nat.le_of_ble_eq_true rfl) (Nat.le_of_ble_eq_true rfl) h
  · replace h := h.2 hc
    refine e_aload_n dX8_fateOf_31 rfl trivial ?_
    obtain ⟨hK21, h⟩ := h
    refine e_callV (Mc := m_X8_go) (vs := []) (st := []) dX8_fateOf_32 ok_X8_go rfl ⟨by decide, rfl⟩ mk_X8_128 im_X8_go sl_X8_go rfl rfl hK21 (by omega) (Nat.le_of_ble_eq_true rfl) (Nat.le_of_ble_eq_true rfl) (Nat.le_of_ble_eq_true rfl) am_xh_nx (am_C_mono h (fun v K16 N17 I18 P19 z20 h => ?_) (fun _ _ _ _ _ _ h => h))
    show am_E d m_X8_fateOf 35 _ _ _ [] K16 N17 I18 P19 z20 Q am_nx
    refine e_goto (tgt := 23) dX8_fateOf_35 (by decide) ?_
    exact e_forget (am_sub_k (am_sub_k (am_sub_d am_sub_nil))) h
set_option maxRecDepth 100000 in
set_option maxHeartbeats 4000000 in
theorem wf_X8_canEnter {d : Nat} (hd : 1 ≤ d) {s : Nat} {K N : Nat → Nat} {I : Nat → Nat → Int} {P : Nat → Nat → Option Nat} {z : Nat} {Q : am_V → am_T} (h :
  K s = 8 ∧ am_C (d - 1) m_X8_latest [am_r s] K N I P z (fun v K1 N2 I3 P4 z5 => am_iv v fun x7 =>
    ((x7 = (-1) →
    Q (am_i 1) K1 N2 I3 P4 z5) ∧
    (¬ (x7 = (-1)) →
    K1 s = 8 ∧ am_C (d - 1) m_X8_tail [am_r s, am_i x7] K1 N2 I3 P4 z5 (fun v K8 N9 I10 P11 z12 => am_iv v fun x14 =>
      ((x14 < 0 →
      Q (am_i 0) K8 N9 I10 P11 z12) ∧
      (¬ (x14 < 0) →
      K8 s = 8 ∧ am_C (d - 1) m_X8_tail [am_r s, am_i x7] K8 N9 I10 P11 z12 (fun v K15 N16 I17 P18 z19 => am_iv v fun x21 =>
        K15 s = 8 ∧ ∃ b23, P18 s 0 = some b23 ∧ K15 b23 = 10 ∧ (0 ≤ (6 : Int) ∧ (6 : Int) < N16 b23) ∧ ((x21 < I17 b23 6 →
        Q (am_i 0) K15 N16 I17 P18 z19) ∧
        (¬ (x21 < I17 b23 6) →
        Q (am_i 1) K15 N16 I17 P18 z19))) am_nx))) am_nx))) am_nx) :
  am_C d m_X8_canEnter [am_r s] K N I P z Q am_nx := by
  refine am_C_of ok_X8_canEnter (fun v hv => am_v1all _ rfl v hv) (Nat.le_of_ble_eq_true rfl) ?_
  show am_E d m_X8_canEnter 0 0 0 [some (am_r s), none] [] K N I P z Q am_nx
  refine e_aload_n dX8_canEnter_0 rfl trivial ?_
  obtain ⟨hK6, h⟩ := h
  refine e_callV (Mc := m_X8_latest) (vs := []) (st := []) dX8_canEnter_1 ok_X8_latest rfl ⟨by decide, rfl⟩ mk_X8_96 im_X8_latest sl_X8_latest rfl rfl hK6 (by omega) (Nat.le_of_ble_eq_true rfl) (Nat.le_of_ble_eq_true rfl) (Nat.le_of_ble_eq_true rfl) am_xh_nx (am_C_mono h (fun v K1 N2 I3 P4 z5 h => ?_) (fun _ _ _ _ _ _ h => h))
  replace h := am_iv_or h
  obtain ⟨x7, rfl, h⟩ := h
  show am_E d m_X8_canEnter 4 _ _ _ [am_i x7] K1 N2 I3 P4 z5 Q am_nx
  refine e_istore_n dX8_canEnter_4 ?_
  refine e_iload_n dX8_canEnter_5 rfl ?_
  refine e_iconst dX8_canEnter_6 ?_
  refine e_icmp_eq (tgt := 33) dX8_canEnter_7 (by decide) (fun hc => ?_) (fun hc => ?_)
  · replace h := h.1 hc
    refine e_iconst dX8_canEnter_33 ?_
    refine e_goto (tgt := 38) dX8_canEnter_34 (by decide) ?_
    exact e_ret_z dX8_canEnter_38 rfl (by decide) (Nat.le_of_ble_eq_true rfl) (Nat.le_of_ble_eq_true rfl) h
  · replace h := h.2 hc
    refine e_aload_n dX8_canEnter_10 rfl trivial ?_
    refine e_iload_n dX8_canEnter_11 rfl ?_
    obtain ⟨hK13, h⟩ := h
    refine e_callV (Mc := m_X8_tail) (vs := [am_i x7]) (st := []) dX8_canEnter_12 ok_X8_tail rfl ⟨by decide, rfl⟩ mk_X8_99 im_X8_tail sl_X8_tail rfl rfl hK13 (by omega) (Nat.le_of_ble_eq_true rfl) (Nat.le_of_ble_eq_true rfl) (Nat.le_of_ble_eq_true rfl) am_xh_nx (am_C_mono h (fun v K8 N9 I10 P11 z12 h => ?_) (fun _ _ _ _ _ _ h => h))
    replace h := am_iv_or h
    obtain ⟨x14, rfl, h⟩ := h
    show am_E d m_X8_canEnter 15 _ _ _ [am_i x14] K8 N9 I10 P11 z12 Q am_nx
    refine e_if_lt (tgt := 37) dX8_canEnter_15 (by decide) (fun hc => ?_) (fun hc => ?_)
    · replace h := h.1 hc
      refine e_iconst dX8_canEnter_37 ?_
      exact e_ret_z dX8_canEnter_38 rfl (by decide) (Nat.le_of_ble_eq_true rfl) (Nat.le_of_ble_eq_true rfl) h
    · replace h := h.2 hc
      refine e_aload_n dX8_canEnter_18 rfl trivial ?_
      refine e_iload_n dX8_canEnter_19 rfl ?_
      obtain ⟨hK20, h⟩ := h
      refine e_callV (Mc := m_X8_tail) (vs := [am_i x7]) (st := []) dX8_canEnter_20 ok_X8_tail rfl ⟨by decide, rfl⟩ mk_X8_99 im_X8_tail sl_X8_tail rfl rfl hK20 (by omega) (Nat.le_of_ble_eq_true rfl) (Nat.le_of_ble_eq_true rfl) (Nat.le_of_ble_eq_true rfl) am_xh_nx (am_C_mono h (fun v K15 N16 I17 P18 z19 h => ?_) (fun _ _ _ _ _ _ h => h))
      replace h := am_iv_or h
      obtain ⟨x21, rfl, h⟩ := h
      show am_E d m_X8_canEnter 23 _ _ _ [am_i x21] K15 N16 I17 P18 z19 Q am_nx
      refine e_aload_n dX8_canEnter_23 rfl trivial ?_
      obtain ⟨hK22, h⟩ := h
      obtain ⟨b23, hb23, h⟩ := h
      refine e_getr1 dX8_canEnter_24 fk_X8_7 rfl hK22 hb23 ?_
      refine e_bipush dX8_canEnter_27 ?_
      obtain ⟨hK24, h⟩ := h
      obtain ⟨⟨h0, h1⟩, h⟩ := h
      refine e_iald dX8_canEnter_29 hK24 h0 h1 ?_
      show am_E _ _ _ _ _ _ (am_i (I17 b23 6) :: _) _ _ _ _ _ _ _
      refine e_icmp_lt (tgt := 37) dX8_canEnter_30 (by decide) (fun hc => ?_) (fun hc => ?_)
      · replace h := h.1 hc
        refine e_iconst dX8_canEnter_37 ?_
        exact e_ret_z dX8_canEnter_38 rfl (by decide) (Nat.le_of_ble_eq_true rfl) (Nat.le_of_ble_eq_true rfl) h
      · replace h := h.2 hc
        refine e_iconst dX8_canEnter_33 ?_
        refine e_goto (tgt := 38) dX8_canEnter_34 (by decide) ?_
        exact e_ret_z dX8_canEnter_38 rfl (by decide) (Nat.le_of_ble_eq_true rfl) (Nat.le_of_ble_eq_true rfl) h
def L_X8_entryIn_11 (d : Nat) (l0 : Nat) (l1 : Int) (K N : Nat → Nat) (I : Nat → Nat → Int) (P : Nat → Nat → Option Nat) (z : Nat) (Q : am_V → am_T) : Prop := am_E d m_X8_entryIn 11 0 0 [some (am_r l0), some (am_i l1)] [] K N I P z Q am_nx
set_option maxRecDepth 100000 in
set_option maxHeartbeats 4000000 in
theorem wf_X8_entryIn {d : Nat} (hd : 1 ≤ d) {s : Nat} {K N : Nat → Nat} {I : Nat → Nat → Int} {P : Nat → Nat → Option Nat} {z : Nat} {Q : am_V → am_T} (h :
  K s = 8 ∧ ∀ I2, I2 = am_u2 I s 7 0 → am_C (d - 1) m_X8_beginTrial [am_r s] K N I2 P z (fun _ K3 N4 I5 P6 z7 =>
    L_X8_entryIn_11 d s 0 K3 N4 I5 P6 z7 Q) am_nx) :
  am_C d m_X8_entryIn [am_r s] K N I P z Q am_nx := by
  refine am_C_of ok_X8_entryIn (fun v hv => am_v1all _ rfl v hv) (Nat.le_of_ble_eq_true rfl) ?_
  show am_E d m_X8_entryIn 0 0 0 [some (am_r s), none] [] K N I P z Q am_nx
  refine e_aload_n dX8_entryIn_0 rfl trivial ?_
  refine e_iconst dX8_entryIn_1 ?_
  obtain ⟨hK1, h⟩ := h
  refine e_puti dX8_entryIn_2 fk_X8_25 rfl (Or.inl rfl) hK1 ?_
  replace h := h _ rfl
  generalize am_u2 I s 7 0 = I2 at h ⊢
  refine e_aload_n dX8_entryIn_5 rfl trivial ?_
  refine e_callV (Mc := m_X8_beginTrial) (vs := []) (st := []) dX8_entryIn_6 ok_X8_beginTrial rfl ⟨by decide, rfl⟩ mk_X8_149 im_X8_beginTrial sl_X8_beginTrial rfl rfl hK1 (by omega) (Nat.le_of_ble_eq_true rfl) (Nat.le_of_ble_eq_true rfl) (Nat.le_of_ble_eq_true rfl) am_xh_nx (am_C_mono h (fun v K3 N4 I5 P6 z7 h => ?_) (fun _ _ _ _ _ _ h => h))
  show am_E d m_X8_entryIn 9 _ _ _ [] K3 N4 I5 P6 z7 Q am_nx
  refine e_iconst dX8_entryIn_9 ?_
  refine e_istore_n dX8_entryIn_10 ?_
  exact e_forget (am_sub_k (am_sub_k am_sub_nil)) h
set_option maxRecDepth 100000 in
set_option maxHeartbeats 4000000 in
theorem wf_X8_entryIn_11 {d : Nat} (hd : 1 ≤ d) {l0 : Nat} {l1 : Int} {K N : Nat → Nat} {I : Nat → Nat → Int} {P : Nat → Nat → Option Nat} {z : Nat} {Q : am_V → am_T} (h :
  K l0 = 8 ∧ am_C (d - 1) m_X8_canEnter [am_r l0] K N I P z (fun v K1 N2 I3 P4 z5 => am_iv v fun x7 =>
    ((¬ x7 = 0 →
    K1 l0 = 8 ∧ am_C (d - 1) m_X8_endTrial [am_r l0] K1 N2 I3 P4 z5 (fun _ K8 N9 I10 P11 z12 =>
      Q (am_i l1) K8 N9 I10 P11 z12) am_nx) ∧
    (x7 = 0 →
    K1 l0 = 8 ∧ am_C (d - 1) m_X8_go [am_r l0] K1 N2 I3 P4 z5 (fun _ K14 N15 I16 P17 z18 =>
      L_X8_entryIn_11 d l0 (am_wr (l1 + 1)) K14 N15 I16 P17 z18 Q) am_nx))) am_nx) :
  L_X8_entryIn_11 d l0 l1 K N I P z Q := by
  unfold L_X8_entryIn_11
  refine e_aload_n dX8_entryIn_11 rfl trivial ?_
  obtain ⟨hK6, h⟩ := h
  refine e_callV (Mc := m_X8_canEnter) (vs := []) (st := []) dX8_entryIn_12 ok_X8_canEnter rfl ⟨by decide, rfl⟩ mk_X8_155 im_X8_canEnter sl_X8_canEnter rfl rfl hK6 (by omega) (Nat.le_of_ble_eq_true rfl) (Nat.le_of_ble_eq_true rfl) (Nat.le_of_ble_eq_true rfl) am_xh_nx (am_C_mono h (fun v K1 N2 I3 P4 z5 h => ?_) (fun _ _ _ _ _ _ h => h))
  replace h := am_iv_or h
  obtain ⟨x7, rfl, h⟩ := h
  show am_E d m_X8_entryIn 15 _ _ _ [am_i x7] K1 N2 I3 P4 z5 Q am_nx
  refine e_if_ne (tgt := 28) dX8_entryIn_15 (by decide) (fun hc => ?_) (fun hc => ?_)
  · replace h := h.1 hc
    refine e_aload_n dX8_entryIn_28 rfl trivial ?_
    obtain ⟨hK13, h⟩ := h
    refine e_callV (Mc := m_X8_endTrial) (vs := []) (st := []) dX8_entryIn_29 ok_X8_endTrial rfl ⟨by decide, rfl⟩ mk_X8_152 im_X8_endTrial sl_X8_endTrial rfl rfl hK13 (by omega) (Nat.le_of_ble_eq_true rfl) (Nat.le_of_ble_eq_true rfl) (Nat.le_of_ble_eq_true rfl) am_xh_nx (am_C_mono h (fun v K8 N9 I10 P11 z12 h => ?_) (fun _ _ _ _ _ _ h => h))
    show am_E d m_X8_entryIn 32 _ _ _ [] K8 N9 I10 P11 z12 Q am_nx
    refine e_iload_n dX8_entryIn_32 rfl ?_
    exact e_ret_i dX8_entryIn_33 rfl (Nat.le_of_ble_eq_true rfl) (Nat.le_of_ble_eq_true rfl) h
  · replace h := h.2 hc
    refine e_aload_n dX8_entryIn_18 rfl trivial ?_
    obtain ⟨hK19, h⟩ := h
    refine e_callV (Mc := m_X8_go) (vs := []) (st := []) dX8_entryIn_19 ok_X8_go rfl ⟨by decide, rfl⟩ mk_X8_128 im_X8_go sl_X8_go rfl rfl hK19 (by omega) (Nat.le_of_ble_eq_true rfl) (Nat.le_of_ble_eq_true rfl) (Nat.le_of_ble_eq_true rfl) am_xh_nx (am_C_mono h (fun v K14 N15 I16 P17 z18 h => ?_) (fun _ _ _ _ _ _ h => h))
    show am_E d m_X8_entryIn 22 _ _ _ [] K14 N15 I16 P17 z18 Q am_nx
    refine e_iinc dX8_entryIn_22 rfl ?_
    refine e_goto (tgt := 11) dX8_entryIn_25 (by decide) ?_
    exact e_forget (am_sub_k (am_sub_k am_sub_nil)) h
def L_X8_nextLeaving_22 (d : Nat) (l0 : Nat) (l1 : Int) (l2 : Int) (K N : Nat → Nat) (I : Nat → Nat → Int) (P : Nat → Nat → Option Nat) (z : Nat) (Q : am_V → am_T) : Prop := am_E d m_X8_nextLeaving 22 0 0 [some (am_r l0), some (am_i l1), some (am_i l2)] [] K N I P z Q am_nx
set_option maxRecDepth 100000 in
set_option maxHeartbeats 4000000 in
theorem wf_X8_nextLeaving {d : Nat} (hd : 1 ≤ d) {s : Nat} {K N : Nat → Nat} {I : Nat → Nat → Int} {P : Nat → Nat → Option Nat} {z : Nat} {Q : am_V → am_T} (h :
  K s = 8 ∧ ∀ I2, I2 = am_u2 I s 7 0 → am_C (d - 1) m_X8_onBelt [am_r s] K N I2 P z (fun v K3 N4 I5 P6 z7 => am_iv v fun x8 =>
    ((¬ x8 = 0 →
    K3 s = 8 ∧ am_C (d - 1) m_X8_beginTrial [am_r s] K3 N4 I5 P6 z7 (fun _ K9 N10 I11 P12 z13 =>
      L_X8_nextLeaving_22 d s x8 0 K9 N10 I11 P12 z13 Q) am_nx) ∧
    (x8 = 0 →
    Q (am_i (-1)) K3 N4 I5 P6 z7))) am_nx) :
  am_C d m_X8_nextLeaving [am_r s] K N I P z Q am_nx := by
  refine am_C_of ok_X8_nextLeaving (fun v hv => am_v1all _ rfl v hv) (Nat.le_of_ble_eq_true rfl) ?_
  show am_E d m_X8_nextLeaving 0 0 0 [some (am_r s), none, none] [] K N I P z Q am_nx
  refine e_aload_n dX8_nextLeaving_0 rfl trivial ?_
  refine e_iconst dX8_nextLeaving_1 ?_
  obtain ⟨hK1, h⟩ := h
  refine e_puti dX8_nextLeaving_2 fk_X8_25 rfl (Or.inl rfl) hK1 ?_
  replace h := h _ rfl
  generalize am_u2 I s 7 0 = I2 at h ⊢
  refine e_aload_n dX8_nextLeaving_5 rfl trivial ?_
  refine e_callV (Mc := m_X8_onBelt) (vs := []) (st := []) dX8_nextLeaving_6 ok_X8_onBelt rfl ⟨by decide, rfl⟩ mk_X8_54 im_X8_onBelt sl_X8_onBelt rfl rfl hK1 (by omega) (Nat.le_of_ble_eq_true rfl) (Nat.le_of_ble_eq_true rfl) (Nat.le_of_ble_eq_true rfl) am_xh_nx (am_C_mono h (fun v K3 N4 I5 P6 z7 h => ?_) (fun _ _ _ _ _ _ h => h))
  replace h := am_iv_or h
  obtain ⟨x8, rfl, h⟩ := h
  show am_E d m_X8_nextLeaving 9 _ _ _ [am_i x8] K3 N4 I5 P6 z7 Q am_nx
  refine e_istore_n dX8_nextLeaving_9 ?_
  refine e_iload_n dX8_nextLeaving_10 rfl ?_
  refine e_if_ne (tgt := 16) dX8_nextLeaving_11 (by decide) (fun hc => ?_) (fun hc => ?_)
  · replace h := h.1 hc
    refine e_aload_n dX8_nextLeaving_16 rfl trivial ?_
    obtain ⟨hK14, h⟩ := h
    refine e_callV (Mc := m_X8_beginTrial) (vs := []) (st := []) dX8_nextLeaving_17 ok_X8_beginTrial rfl ⟨by decide, rfl⟩ mk_X8_149 im_X8_beginTrial sl_X8_beginTrial rfl rfl hK14 (by omega) (Nat.le_of_ble_eq_true rfl) (Nat.le_of_ble_eq_true rfl) (Nat.le_of_ble_eq_true rfl) am_xh_nx (am_C_mono h (fun v K9 N10 I11 P12 z13 h => ?_) (fun _ _ _ _ _ _ h => h))
    show am_E d m_X8_nextLeaving 20 _ _ _ [] K9 N10 I11 P12 z13 Q am_nx
    refine e_iconst dX8_nextLeaving_20 ?_
    refine e_istore_n dX8_nextLeaving_21 ?_
    exact e_forget (am_sub_k (am_sub_k (am_sub_k am_sub_nil))) h
  · replace h := h.2 hc
    refine e_iconst dX8_nextLeaving_14 ?_
    exact e_ret_i dX8_nextLeaving_15 rfl (Nat.le_of_ble_eq_true rfl) (Nat.le_of_ble_eq_true rfl) h
set_option maxRecDepth 100000 in
set_option maxHeartbeats 4000000 in
theorem wf_X8_nextLeaving_22 {d : Nat} (hd : 1 ≤ d) {l0 : Nat} {l1 : Int} {l2 : Int} {K N : Nat → Nat} {I : Nat → Nat → Int} {P : Nat → Nat → Option Nat} {z : Nat} {Q : am_V → am_T} (h :
  K l0 = 8 ∧ am_C (d - 1) m_X8_onBelt [am_r l0] K N I P z (fun v K1 N2 I3 P4 z5 => am_iv v fun x7 =>
    ((¬ x7 = l1 →
    K1 l0 = 8 ∧ am_C (d - 1) m_X8_endTrial [am_r l0] K1 N2 I3 P4 z5 (fun _ K8 N9 I10 P11 z12 =>
      Q (am_i l2) K8 N9 I10 P11 z12) am_nx) ∧
    (x7 = l1 →
    K1 l0 = 8 ∧ am_C (d - 1) m_X8_go [am_r l0] K1 N2 I3 P4 z5 (fun _ K14 N15 I16 P17 z18 =>
      L_X8_nextLeaving_22 d l0 l1 (am_wr (l2 + 1)) K14 N15 I16 P17 z18 Q) am_nx))) am_nx) :
  L_X8_nextLeaving_22 d l0 l1 l2 K N I P z Q := by
  unfold L_X8_nextLeaving_22
  refine e_aload_n dX8_nextLeaving_22 rfl trivial ?_
  obtain ⟨hK6, h⟩ := h
  refine e_callV (Mc := m_X8_onBelt) (vs := []) (st := []) dX8_nextLeaving_23 ok_X8_onBelt rfl ⟨by decide, rfl⟩ mk_X8_54 im_X8_onBelt sl_X8_onBelt rfl rfl hK6 (by omega) (Nat.le_of_ble_eq_true rfl) (Nat.le_of_ble_eq_true rfl) (Nat.le_of_ble_eq_true rfl) am_xh_nx (am_C_mono h (fun v K1 N2 I3 P4 z5 h => ?_) (fun _ _ _ _ _ _ h => h))
  replace h := am_iv_or h
  obtain ⟨x7, rfl, h⟩ := h
  show am_E d m_X8_nextLeaving 26 _ _ _ [am_i x7] K1 N2 I3 P4 z5 Q am_nx
  refine e_iload_n dX8_nextLeaving_26 rfl ?_
  refine e_icmp_ne (tgt := 40) dX8_nextLeaving_27 (by decide) (fun hc => ?_) (fun hc => ?_)
  · replace h := h.1 hc
    refine e_aload_n dX8_nextLeaving_40 rfl trivial ?_
    obtain ⟨hK13, h⟩ := h
    refine e_callV (Mc := m_X8_endTrial) (vs := []) (st := []) dX8_nextLeaving_41 ok_X8_endTrial rfl ⟨by decide, rfl⟩ mk_X8_152 im_X8_endTrial sl_X8_endTrial rfl rfl hK13 (by omega) (Nat.le_of_ble_eq_true rfl) (Nat.le_of_ble_eq_true rfl) (Nat.le_of_ble_eq_true rfl) am_xh_nx (am_C_mono h (fun v K8 N9 I10 P11 z12 h => ?_) (fun _ _ _ _ _ _ h => h))
    show am_E d m_X8_nextLeaving 44 _ _ _ [] K8 N9 I10 P11 z12 Q am_nx
    refine e_iload_n dX8_nextLeaving_44 rfl ?_
    exact e_ret_i dX8_nextLeaving_45 rfl (Nat.le_of_ble_eq_true rfl) (Nat.le_of_ble_eq_true rfl) h
  · replace h := h.2 hc
    refine e_aload_n dX8_nextLeaving_30 rfl trivial ?_
    obtain ⟨hK19, h⟩ := h
    refine e_callV (Mc := m_X8_go) (vs := []) (st := []) dX8_nextLeaving_31 ok_X8_go rfl ⟨by decide, rfl⟩ mk_X8_128 im_X8_go sl_X8_go rfl rfl hK19 (by omega) (Nat.le_of_ble_eq_true rfl) (Nat.le_of_ble_eq_true rfl) (Nat.le_of_ble_eq_true rfl) am_xh_nx (am_C_mono h (fun v K14 N15 I16 P17 z18 h => ?_) (fun _ _ _ _ _ _ h => h))
    show am_E d m_X8_nextLeaving 34 _ _ _ [] K14 N15 I16 P17 z18 Q am_nx
    refine e_iinc dX8_nextLeaving_34 rfl ?_
    refine e_goto (tgt := 22) dX8_nextLeaving_37 (by decide) ?_
    exact e_forget (am_sub_k (am_sub_k (am_sub_k am_sub_nil))) h
set_option maxRecDepth 100000 in
set_option maxHeartbeats 4000000 in
theorem wf_X8_laneFor {d : Nat} (hd : 1 ≤ d) {s : Nat} {a1 : Int} {a2 : Int} {K N : Nat → Nat} {I : Nat → Nat → Int} {P : Nat → Nat → Option Nat} {z : Nat} {Q : am_V → am_T} (h :
  K s = 8 ∧ ∀ I2, I2 = am_u2 I s 7 0 → am_C (d - 1) m_X8_isCode [am_i a1] K N I2 P z (fun v K3 N4 I5 P6 z7 => am_iv v fun x8 =>
    ((x8 = 0 →
    K3 s = 8 ∧ am_C (d - 1) m_X8_refuse [am_r s, am_i 1] K3 N4 I5 P6 z7 (fun v K9 N10 I11 P12 z13 => am_iv v fun x15 =>
      Q (am_i x15) K9 N10 I11 P12 z13) am_nx) ∧
    (¬ (x8 = 0) →
    am_C (d - 1) m_X8_in [am_i a2, am_i 10, am_i 400] K3 N4 I5 P6 z7 (fun v K16 N17 I18 P19 z20 => am_iv v fun x21 =>
      ((x21 = 0 →
      K16 s = 8 ∧ am_C (d - 1) m_X8_refuse [am_r s, am_i 1] K16 N17 I18 P19 z20 (fun v K22 N23 I24 P25 z26 => am_iv v fun x28 =>
        Q (am_i x28) K22 N23 I24 P25 z26) am_nx) ∧
      (¬ (x21 = 0) →
      K16 s = 8 ∧ am_C (d - 1) m_X8_laneBy [am_r s, am_i a1, am_i a2] K16 N17 I18 P19 z20 (fun v K29 N30 I31 P32 z33 => am_iv v fun x35 =>
        Q (am_i x35) K29 N30 I31 P32 z33) am_nx))) am_nx))) am_nx) :
  am_C d m_X8_laneFor [am_r s, am_i a1, am_i a2] K N I P z Q am_nx := by
  refine am_C_of ok_X8_laneFor (fun v hv => am_v1all _ rfl v hv) (Nat.le_of_ble_eq_true rfl) ?_
  show am_E d m_X8_laneFor 0 0 0 [some (am_r s), some (am_i a1), some (am_i a2)] [] K N I P z Q am_nx
  refine e_aload_n dX8_laneFor_0 rfl trivial ?_
  refine e_iconst dX8_laneFor_1 ?_
  obtain ⟨hK1, h⟩ := h
  refine e_puti dX8_laneFor_2 fk_X8_25 rfl (Or.inl rfl) hK1 ?_
  replace h := h _ rfl
  generalize am_u2 I s 7 0 = I2 at h ⊢
  refine e_iload_n dX8_laneFor_5 rfl ?_
  refine e_callS (Mc := m_X8_isCode) (vs := [am_i a1]) (st := []) dX8_laneFor_6 ok_X8_isCode rfl mk_X8_67 sm_X8_isCode rfl rfl (by omega) (Nat.le_of_ble_eq_true rfl) (Nat.le_of_ble_eq_true rfl) (Nat.le_of_ble_eq_true rfl) am_xh_nx (am_C_mono h (fun v K3 N4 I5 P6 z7 h => ?_) (fun _ _ _ _ _ _ h => h))
  replace h := am_iv_or h
  obtain ⟨x8, rfl, h⟩ := h
  show am_E d m_X8_laneFor 9 _ _ _ [am_i x8] K3 N4 I5 P6 z7 Q am_nx
  refine e_if_eq (tgt := 33) dX8_laneFor_9 (by decide) (fun hc => ?_) (fun hc => ?_)
  · replace h := h.1 hc
    refine e_aload_n dX8_laneFor_33 rfl trivial ?_
    refine e_iconst dX8_laneFor_34 ?_
    obtain ⟨hK14, h⟩ := h
    refine e_callV (Mc := m_X8_refuse) (vs := [am_i 1]) (st := []) dX8_laneFor_35 ok_X8_refuse rfl ⟨by decide, rfl⟩ mk_X8_44 im_X8_refuse sl_X8_refuse rfl rfl hK14 (by omega) (Nat.le_of_ble_eq_true rfl) (Nat.le_of_ble_eq_true rfl) (Nat.le_of_ble_eq_true rfl) am_xh_nx (am_C_mono h (fun v K9 N10 I11 P12 z13 h => ?_) (fun _ _ _ _ _ _ h => h))
    replace h := am_iv_or h
    obtain ⟨x15, rfl, h⟩ := h
    show am_E d m_X8_laneFor 38 _ _ _ [am_i x15] K9 N10 I11 P12 z13 Q am_nx
    exact e_ret_i dX8_laneFor_38 rfl (Nat.le_of_ble_eq_true rfl) (Nat.le_of_ble_eq_true rfl) h
  · replace h := h.2 hc
    refine e_iload_n dX8_laneFor_12 rfl ?_
    refine e_bipush dX8_laneFor_13 ?_
    refine e_sipush dX8_laneFor_15 ?_
    refine e_callS (Mc := m_X8_in) (vs := [am_i a2, am_i 10, am_i 400]) (st := []) dX8_laneFor_18 ok_X8_in rfl mk_X8_40 sm_X8_in rfl rfl (by omega) (Nat.le_of_ble_eq_true rfl) (Nat.le_of_ble_eq_true rfl) (Nat.le_of_ble_eq_true rfl) am_xh_nx (am_C_mono h (fun v K16 N17 I18 P19 z20 h => ?_) (fun _ _ _ _ _ _ h => h))
    replace h := am_iv_or h
    obtain ⟨x21, rfl, h⟩ := h
    show am_E d m_X8_laneFor 21 _ _ _ [am_i x21] K16 N17 I18 P19 z20 Q am_nx
    refine e_if_eq (tgt := 33) dX8_laneFor_21 (by decide) (fun hc => ?_) (fun hc => ?_)
    · replace h := h.1 hc
      refine e_aload_n dX8_laneFor_33 rfl trivial ?_
      refine e_iconst dX8_laneFor_34 ?_
      obtain ⟨hK27, h⟩ := h
      refine e_callV (Mc := m_X8_refuse) (vs := [am_i 1]) (st := []) dX8_laneFor_35 ok_X8_refuse rfl ⟨by decide, rfl⟩ mk_X8_44 im_X8_refuse sl_X8_refuse rfl rfl hK27 (by omega) (Nat.le_of_ble_eq_true rfl) (Nat.le_of_ble_eq_true rfl) (Nat.le_of_ble_eq_true rfl) am_xh_nx (am_C_mono h (fun v K22 N23 I24 P25 z26 h => ?_) (fun _ _ _ _ _ _ h => h))
      replace h := am_iv_or h
      obtain ⟨x28, rfl, h⟩ := h
      show am_E d m_X8_laneFor 38 _ _ _ [am_i x28] K22 N23 I24 P25 z26 Q am_nx
      exact e_ret_i dX8_laneFor_38 rfl (Nat.le_of_ble_eq_true rfl) (Nat.le_of_ble_eq_true rfl) h
    · replace h := h.2 hc
      refine e_aload_n dX8_laneFor_24 rfl trivial ?_
      refine e_iload_n dX8_laneFor_25 rfl ?_
      refine e_iload_n dX8_laneFor_26 rfl ?_
      obtain ⟨hK34, h⟩ := h
      refine e_callV (Mc := m_X8_laneBy) (vs := [am_i a1, am_i a2]) (st := []) dX8_laneFor_27 ok_X8_laneBy rfl ⟨by decide, rfl⟩ mk_X8_90 im_X8_laneBy sl_X8_laneBy rfl rfl hK34 (by omega) (Nat.le_of_ble_eq_true rfl) (Nat.le_of_ble_eq_true rfl) (Nat.le_of_ble_eq_true rfl) am_xh_nx (am_C_mono h (fun v K29 N30 I31 P32 z33 h => ?_) (fun _ _ _ _ _ _ h => h))
      replace h := am_iv_or h
      obtain ⟨x35, rfl, h⟩ := h
      show am_E d m_X8_laneFor 30 _ _ _ [am_i x35] K29 N30 I31 P32 z33 Q am_nx
      refine e_goto (tgt := 38) dX8_laneFor_30 (by decide) ?_
      exact e_ret_i dX8_laneFor_38 rfl (Nat.le_of_ble_eq_true rfl) (Nat.le_of_ble_eq_true rfl) h
set_option maxRecDepth 100000 in
set_option maxHeartbeats 4000000 in
theorem wf_X8_append {d : Nat} (hd : 1 ≤ d) {s : Nat} {a1 : Int} {K N : Nat → Nat} {I : Nat → Nat → Int} {P : Nat → Nat → Option Nat} {z : Nat} {Q : am_V → am_T} (h :
  K s = 8 ∧ ∀ I2, I2 = am_u2 I s 7 0 → am_C (d - 1) m_X8_in [am_i a1, am_i 32, am_i 126] K N I2 P z (fun v K3 N4 I5 P6 z7 => am_iv v fun x8 =>
    ((¬ x8 = 0 →
    K3 s = 8 ∧ ((¬ I5 s 6 = 80 →
      ∃ b10, P6 s 3 = some b10 ∧ K3 b10 = 10 ∧ (0 ≤ I5 s 6 ∧ I5 s 6 < N4 b10) ∧ ∀ I12, I12 = am_u2 I5 b10 (Int.toNat (I5 s 6)) a1 → ∀ I13, I13 = am_u2 I12 s 6 (am_wr (I12 s 6 + 1)) → Q (am_i (I13 s 6)) K3 N4 I13 P6 z7) ∧
      (I5 s 6 = 80 →
      am_C (d - 1) m_X8_refuse [am_r s, am_i 2] K3 N4 I5 P6 z7 (fun v K14 N15 I16 P17 z18 => am_iv v fun x19 =>
        Q (am_i x19) K14 N15 I16 P17 z18) am_nx))) ∧
    (x8 = 0 →
    K3 s = 8 ∧ am_C (d - 1) m_X8_refuse [am_r s, am_i 1] K3 N4 I5 P6 z7 (fun v K20 N21 I22 P23 z24 => am_iv v fun x26 =>
      Q (am_i x26) K20 N21 I22 P23 z24) am_nx))) am_nx) :
  am_C d m_X8_append [am_r s, am_i a1] K N I P z Q am_nx := by
  refine am_C_of ok_X8_append (fun v hv => am_v1all _ rfl v hv) (Nat.le_of_ble_eq_true rfl) ?_
  show am_E d m_X8_append 0 0 0 [some (am_r s), some (am_i a1)] [] K N I P z Q am_nx
  refine e_aload_n dX8_append_0 rfl trivial ?_
  refine e_iconst dX8_append_1 ?_
  obtain ⟨hK1, h⟩ := h
  refine e_puti dX8_append_2 fk_X8_25 rfl (Or.inl rfl) hK1 ?_
  replace h := h _ rfl
  generalize am_u2 I s 7 0 = I2 at h ⊢
  refine e_iload_n dX8_append_5 rfl ?_
  refine e_bipush dX8_append_6 ?_
  refine e_bipush dX8_append_8 ?_
  refine e_callS (Mc := m_X8_in) (vs := [am_i a1, am_i 32, am_i 126]) (st := []) dX8_append_10 ok_X8_in rfl mk_X8_40 sm_X8_in rfl rfl (by omega) (Nat.le_of_ble_eq_true rfl) (Nat.le_of_ble_eq_true rfl) (Nat.le_of_ble_eq_true rfl) am_xh_nx (am_C_mono h (fun v K3 N4 I5 P6 z7 h => ?_) (fun _ _ _ _ _ _ h => h))
  replace h := am_iv_or h
  obtain ⟨x8, rfl, h⟩ := h
  show am_E d m_X8_append 13 _ _ _ [am_i x8] K3 N4 I5 P6 z7 Q am_nx
  refine e_if_ne (tgt := 22) dX8_append_13 (by decide) (fun hc => ?_) (fun hc => ?_)
  · replace h := h.1 hc
    refine e_aload_n dX8_append_22 rfl trivial ?_
    obtain ⟨hK9, h⟩ := h
    refine e_geti dX8_append_23 fk_X8_143 rfl hK9 ?_
    refine e_bipush dX8_append_26 ?_
    refine e_icmp_ne (tgt := 37) dX8_append_28 (by decide) (fun hc => ?_) (fun hc => ?_)
    · replace h := h.1 hc
      refine e_aload_n dX8_append_37 rfl trivial ?_
      obtain ⟨b10, hb10, h⟩ := h
      refine e_getr1 dX8_append_38 fk_X8_19 rfl hK9 hb10 ?_
      refine e_aload_n dX8_append_41 rfl trivial ?_
      refine e_geti dX8_append_42 fk_X8_143 rfl hK9 ?_
      refine e_iload_n dX8_append_45 rfl ?_
      obtain ⟨hK11, h⟩ := h
      obtain ⟨⟨h0, h1⟩, h⟩ := h
      refine e_iast dX8_append_46 hK11 h0 h1 ?_
      replace h := h _ rfl
      generalize am_u2 I5 b10 (Int.toNat (I5 s 6)) a1 = I12 at h ⊢
      refine e_aload_n dX8_append_47 rfl trivial ?_
      refine e_dup dX8_append_48 rfl ?_
      refine e_geti dX8_append_49 fk_X8_143 rfl hK9 ?_
      refine e_iconst dX8_append_52 ?_
      refine e_iadd dX8_append_53 ?_
      refine e_puti dX8_append_54 fk_X8_143 rfl (Or.inl rfl) hK9 ?_
      replace h := h _ rfl
      generalize am_u2 I12 s 6 (am_wr (I12 s 6 + 1)) = I13 at h ⊢
      refine e_aload_n dX8_append_57 rfl trivial ?_
      refine e_geti dX8_append_58 fk_X8_143 rfl hK9 ?_
      exact e_ret_i dX8_append_61 rfl (Nat.le_of_ble_eq_true rfl) (Nat.le_of_ble_eq_true rfl) h
    · replace h := h.2 hc
      refine e_aload_n dX8_append_31 rfl trivial ?_
      refine e_iconst dX8_append_32 ?_
      refine e_callV (Mc := m_X8_refuse) (vs := [am_i 2]) (st := []) dX8_append_33 ok_X8_refuse rfl ⟨by decide, rfl⟩ mk_X8_44 im_X8_refuse sl_X8_refuse rfl rfl hK9 (by omega) (Nat.le_of_ble_eq_true rfl) (Nat.le_of_ble_eq_true rfl) (Nat.le_of_ble_eq_true rfl) am_xh_nx (am_C_mono h (fun v K14 N15 I16 P17 z18 h => ?_) (fun _ _ _ _ _ _ h => h))
      replace h := am_iv_or h
      obtain ⟨x19, rfl, h⟩ := h
      show am_E d m_X8_append 36 _ _ _ [am_i x19] K14 N15 I16 P17 z18 Q am_nx
      exact e_ret_i dX8_append_36 rfl (Nat.le_of_ble_eq_true rfl) (Nat.le_of_ble_eq_true rfl) h
  · replace h := h.2 hc
    refine e_aload_n dX8_append_16 rfl trivial ?_
    refine e_iconst dX8_append_17 ?_
    obtain ⟨hK25, h⟩ := h
    refine e_callV (Mc := m_X8_refuse) (vs := [am_i 1]) (st := []) dX8_append_18 ok_X8_refuse rfl ⟨by decide, rfl⟩ mk_X8_44 im_X8_refuse sl_X8_refuse rfl rfl hK25 (by omega) (Nat.le_of_ble_eq_true rfl) (Nat.le_of_ble_eq_true rfl) (Nat.le_of_ble_eq_true rfl) am_xh_nx (am_C_mono h (fun v K20 N21 I22 P23 z24 h => ?_) (fun _ _ _ _ _ _ h => h))
    replace h := am_iv_or h
    obtain ⟨x26, rfl, h⟩ := h
    show am_E d m_X8_append 21 _ _ _ [am_i x26] K20 N21 I22 P23 z24 Q am_nx
    exact e_ret_i dX8_append_21 rfl (Nat.le_of_ble_eq_true rfl) (Nat.le_of_ble_eq_true rfl) h
set_option maxRecDepth 100000 in
set_option maxHeartbeats 4000000 in
theorem wf_X8_clear {d : Nat} {s : Nat} {K N : Nat → Nat} {I : Nat → Nat → Int} {P : Nat → Nat → Option Nat} {z : Nat} {Q : am_V → am_T} (h :
  K s = 8 ∧ ∀ I2, I2 = am_u2 I s 7 0 → ∀ I3, I3 = am_u2 I2 s 6 0 → Q (am_i (I2 s 6)) K N I3 P z) :
  am_C d m_X8_clear [am_r s] K N I P z Q am_nx := by
  refine am_C_of ok_X8_clear (fun v hv => am_v1all _ rfl v hv) (Nat.le_of_ble_eq_true rfl) ?_
  show am_E d m_X8_clear 0 0 0 [some (am_r s), none] [] K N I P z Q am_nx
  refine e_aload_n dX8_clear_0 rfl trivial ?_
  refine e_iconst dX8_clear_1 ?_
  obtain ⟨hK1, h⟩ := h
  refine e_puti dX8_clear_2 fk_X8_25 rfl (Or.inl rfl) hK1 ?_
  replace h := h _ rfl
  generalize am_u2 I s 7 0 = I2 at h ⊢
  refine e_aload_n dX8_clear_5 rfl trivial ?_
  refine e_geti dX8_clear_6 fk_X8_143 rfl hK1 ?_
  refine e_istore_n dX8_clear_9 ?_
  refine e_aload_n dX8_clear_10 rfl trivial ?_
  refine e_iconst dX8_clear_11 ?_
  refine e_puti dX8_clear_12 fk_X8_143 rfl (Or.inl rfl) hK1 ?_
  replace h := h _ rfl
  generalize am_u2 I2 s 6 0 = I3 at h ⊢
  refine e_iload_n dX8_clear_15 rfl ?_
  exact e_ret_i dX8_clear_16 rfl (Nat.le_of_ble_eq_true rfl) (Nat.le_of_ble_eq_true rfl) h
def L_X8_endRule_2 (d : Nat) (l0 : Nat) (l1 : Int) (K N : Nat → Nat) (I : Nat → Nat → Int) (P : Nat → Nat → Option Nat) (z : Nat) (Q : am_V → am_T) : Prop := am_E d m_X8_endRule 2 0 0 [some (am_r l0), some (am_i l1)] [] K N I P z Q am_nx
set_option maxRecDepth 100000 in
set_option maxHeartbeats 4000000 in
theorem wf_X8_endRule {d : Nat} {s : Nat} {K N : Nat → Nat} {I : Nat → Nat → Int} {P : Nat → Nat → Option Nat} {z : Nat} {Q : am_V → am_T} (h :
  L_X8_endRule_2 d s 1 K N I P z Q) :
  am_C d m_X8_endRule [am_r s] K N I P z Q am_nx := by
  refine am_C_of ok_X8_endRule (fun v hv => am_v1all _ rfl v hv) (Nat.le_of_ble_eq_true rfl) ?_
  show am_E d m_X8_endRule 0 0 0 [some (am_r s), none] [] K N I P z Q am_nx
  refine e_iconst dX8_endRule_0 ?_
  refine e_istore_n dX8_endRule_1 ?_
  exact e_forget (am_sub_k (am_sub_k am_sub_nil)) h
set_option maxRecDepth 100000 in
set_option maxHeartbeats 4000000 in
theorem wf_X8_endRule_2 {d : Nat} (hd : 1 ≤ d) {l0 : Nat} {l1 : Int} {K N : Nat → Nat} {I : Nat → Nat → Int} {P : Nat → Nat → Option Nat} {z : Nat} {Q : am_V → am_T} (h :
  ((l1 = 0 →
    K l0 = 8 ∧ ((¬ I l0 10 = 0 →
      ∀ I2, I2 = am_u2 I l0 9 0 → Q am_nl K N I2 P z) ∧
      (I l0 10 = 0 →
      ((l1 = 0 →
        ∀ I3, I3 = am_u2 I l0 9 0 → Q am_nl K N I3 P z) ∧
        (¬ (l1 = 0) →
        ∀ I4, I4 = am_u2 I l0 9 5 → Q am_nl K N I4 P z))))) ∧
    (¬ (l1 = 0) →
    K l0 = 8 ∧ ((I l0 10 ≤ 0 →
      ((¬ I l0 10 = 0 →
        ∀ I6, I6 = am_u2 I l0 9 0 → Q am_nl K N I6 P z) ∧
        (I l0 10 = 0 →
        ((l1 = 0 →
          ∀ I7, I7 = am_u2 I l0 9 0 → Q am_nl K N I7 P z) ∧
          (¬ (l1 = 0) →
          ∀ I8, I8 = am_u2 I l0 9 5 → Q am_nl K N I8 P z))))) ∧
      (¬ (I l0 10 ≤ 0) →
      ∃ b9, P l0 4 = some b9 ∧ K b9 = 10 ∧ (0 ≤ am_wr (I l0 10 - 1) ∧ am_wr (I l0 10 - 1) < N b9) ∧ (0 ≤ am_wr (I l0 10 - 1) ∧ am_wr (I l0 10 - 1) < N b9) ∧ ∀ I11, I11 = am_u2 I b9 (Int.toNat (am_wr (I l0 10 - 1))) (am_wr ((I b9 (Int.toNat (am_wr (I l0 10 - 1)))) + 1)) → (0 ≤ am_wr (I11 l0 10 - 1) ∧ am_wr (I11 l0 10 - 1) < N b9) ∧ ((¬ I11 b9 (Int.toNat (am_wr (I11 l0 10 - 1))) = 2 →
        am_C (d - 1) m_X8_one [am_i 0] K N I11 P z (fun v K12 N13 I14 P15 z16 => am_iv v fun x17 =>
          K12 l0 = 8 ∧ ∀ I19, I19 = am_u2 I14 l0 10 (am_wr (I11 l0 10 - x17)) → L_X8_endRule_2 d l0 0 K12 N13 I19 P15 z16 Q) am_nx) ∧
        (I11 b9 (Int.toNat (am_wr (I11 l0 10 - 1))) = 2 →
        am_C (d - 1) m_X8_one [am_i 1] K N I11 P z (fun v K20 N21 I22 P23 z24 => am_iv v fun x25 =>
          K20 l0 = 8 ∧ ∀ I27, I27 = am_u2 I22 l0 10 (am_wr (I11 l0 10 - x25)) → L_X8_endRule_2 d l0 1 K20 N21 I27 P23 z24 Q) am_nx))))))) :
  L_X8_endRule_2 d l0 l1 K N I P z Q := by
  unfold L_X8_endRule_2
  refine e_iload_n dX8_endRule_2 rfl ?_
  refine e_if_eq (tgt := 65) dX8_endRule_3 (by decide) (fun hc => ?_) (fun hc => ?_)
  · replace h := h.1 hc
    refine e_aload_n dX8_endRule_65 rfl trivial ?_
    refine e_aload_n dX8_endRule_66 rfl trivial ?_
    obtain ⟨hK1, h⟩ := h
    refine e_geti dX8_endRule_67 fk_X8_159 rfl hK1 ?_
    refine e_if_ne (tgt := 81) dX8_endRule_70 (by decide) (fun hc => ?_) (fun hc => ?_)
    · replace h := h.1 hc
      refine e_iconst dX8_endRule_81 ?_
      refine e_puti dX8_endRule_82 fk_X8_162 rfl (Or.inl rfl) hK1 ?_
      replace h := h _ rfl
      generalize am_u2 I l0 9 0 = I2 at h ⊢
      exact e_ret_v dX8_endRule_85 rfl (Nat.le_of_ble_eq_true rfl) (Nat.le_of_ble_eq_true rfl) h
    · replace h := h.2 hc
      refine e_iload_n dX8_endRule_73 rfl ?_
      refine e_if_eq (tgt := 81) dX8_endRule_74 (by decide) (fun hc => ?_) (fun hc => ?_)
      · replace h := h.1 hc
        refine e_iconst dX8_endRule_81 ?_
        refine e_puti dX8_endRule_82 fk_X8_162 rfl (Or.inl rfl) hK1 ?_
        replace h := h _ rfl
        generalize am_u2 I l0 9 0 = I3 at h ⊢
        exact e_ret_v dX8_endRule_85 rfl (Nat.le_of_ble_eq_true rfl) (Nat.le_of_ble_eq_true rfl) h
      · replace h := h.2 hc
        refine e_iconst dX8_endRule_77 ?_
        refine e_goto (tgt := 82) dX8_endRule_78 (by decide) ?_
        refine e_puti dX8_endRule_82 fk_X8_162 rfl (Or.inl rfl) hK1 ?_
        replace h := h _ rfl
        generalize am_u2 I l0 9 5 = I4 at h ⊢
        exact e_ret_v dX8_endRule_85 rfl (Nat.le_of_ble_eq_true rfl) (Nat.le_of_ble_eq_true rfl) h
  · replace h := h.2 hc
    refine e_aload_n dX8_endRule_6 rfl trivial ?_
    obtain ⟨hK5, h⟩ := h
    refine e_geti dX8_endRule_7 fk_X8_159 rfl hK5 ?_
    refine e_if_le (tgt := 65) dX8_endRule_10 (by decide) (fun hc => ?_) (fun hc => ?_)
    · replace h := h.1 hc
      refine e_aload_n dX8_endRule_65 rfl trivial ?_
      refine e_aload_n dX8_endRule_66 rfl trivial ?_
      refine e_geti dX8_endRule_67 fk_X8_159 rfl hK5 ?_
      refine e_if_ne (tgt := 81) dX8_endRule_70 (by decide) (fun hc => ?_) (fun hc => ?_)
      · replace h := h.1 hc
        refine e_iconst dX8_endRule_81 ?_
        refine e_puti dX8_endRule_82 fk_X8_162 rfl (Or.inl rfl) hK5 ?_
        replace h := h _ rfl
        generalize am_u2 I l0 9 0 = I6 at h ⊢
        exact e_ret_v dX8_endRule_85 rfl (Nat.le_of_ble_eq_true rfl) (Nat.le_of_ble_eq_true rfl) h
      · replace h := h.2 hc
        refine e_iload_n dX8_endRule_73 rfl ?_
        refine e_if_eq (tgt := 81) dX8_endRule_74 (by decide) (fun hc => ?_) (fun hc => ?_)
        · replace h := h.1 hc
          refine e_iconst dX8_endRule_81 ?_
          refine e_puti dX8_endRule_82 fk_X8_162 rfl (Or.inl rfl) hK5 ?_
          replace h := h _ rfl
          generalize am_u2 I l0 9 0 = I7 at h ⊢
          exact e_ret_v dX8_endRule_85 rfl (Nat.le_of_ble_eq_true rfl) (Nat.le_of_ble_eq_true rfl) h
        · replace h := h.2 hc
          refine e_iconst dX8_endRule_77 ?_
          refine e_goto (tgt := 82) dX8_endRule_78 (by decide) ?_
          refine e_puti dX8_endRule_82 fk_X8_162 rfl (Or.inl rfl) hK5 ?_
          replace h := h _ rfl
          generalize am_u2 I l0 9 5 = I8 at h ⊢
          exact e_ret_v dX8_endRule_85 rfl (Nat.le_of_ble_eq_true rfl) (Nat.le_of_ble_eq_true rfl) h
    · replace h := h.2 hc
      refine e_aload_n dX8_endRule_13 rfl trivial ?_
      obtain ⟨b9, hb9, h⟩ := h
      refine e_getr1 dX8_endRule_14 fk_X8_22 rfl hK5 hb9 ?_
      refine e_aload_n dX8_endRule_17 rfl trivial ?_
      refine e_geti dX8_endRule_18 fk_X8_159 rfl hK5 ?_
      refine e_iconst dX8_endRule_21 ?_
      refine e_isub dX8_endRule_22 ?_
      refine e_dup2 dX8_endRule_23 rfl rfl ?_
      obtain ⟨hK10, h⟩ := h
      obtain ⟨⟨h0, h1⟩, h⟩ := h
      refine e_iald dX8_endRule_24 hK10 h0 h1 ?_
      refine e_iconst dX8_endRule_25 ?_
      refine e_iadd dX8_endRule_26 ?_
      obtain ⟨⟨h0, h1⟩, h⟩ := h
      refine e_iast dX8_endRule_27 hK10 h0 h1 ?_
      replace h := h _ rfl
      generalize am_u2 I b9 (Int.toNat (am_wr (I l0 10 - 1))) (am_wr ((I b9 (Int.toNat (am_wr (I l0 10 - 1)))) + 1)) = I11 at h ⊢
      refine e_aload_n dX8_endRule_28 rfl trivial ?_
      refine e_getr1 dX8_endRule_29 fk_X8_22 rfl hK5 hb9 ?_
      refine e_aload_n dX8_endRule_32 rfl trivial ?_
      refine e_geti dX8_endRule_33 fk_X8_159 rfl hK5 ?_
      refine e_iconst dX8_endRule_36 ?_
      refine e_isub dX8_endRule_37 ?_
      obtain ⟨⟨h0, h1⟩, h⟩ := h
      refine e_iald dX8_endRule_38 hK10 h0 h1 ?_
      refine e_iconst dX8_endRule_39 ?_
      refine e_icmp_ne (tgt := 47) dX8_endRule_40 (by decide) (fun hc => ?_) (fun hc => ?_)
      · replace h := h.1 hc
        refine e_iconst dX8_endRule_47 ?_
        refine e_istore_n dX8_endRule_48 ?_
        refine e_aload_n dX8_endRule_49 rfl trivial ?_
        refine e_dup dX8_endRule_50 rfl ?_
        refine e_geti dX8_endRule_51 fk_X8_159 rfl hK5 ?_
        refine e_iload_n dX8_endRule_54 rfl ?_
        refine e_callS (Mc := m_X8_one) (vs := [am_i 0]) (st := [am_i (I11 l0 10), am_r l0]) dX8_endRule_55 ok_X8_one rfl mk_X8_36 sm_X8_one rfl rfl (by omega) (Nat.le_of_ble_eq_true rfl) (Nat.le_of_ble_eq_true rfl) (Nat.le_of_ble_eq_true rfl) am_xh_nx (am_C_mono h (fun v K12 N13 I14 P15 z16 h => ?_) (fun _ _ _ _ _ _ h => h))
        replace h := am_iv_or h
        obtain ⟨x17, rfl, h⟩ := h
        show am_E d m_X8_endRule 58 _ _ _ [am_i x17, am_i (I11 l0 10), am_r l0] K12 N13 I14 P15 z16 Q am_nx
        refine e_isub dX8_endRule_58 ?_
        obtain ⟨hK18, h⟩ := h
        refine e_puti dX8_endRule_59 fk_X8_159 rfl (Or.inl rfl) hK18 ?_
        replace h := h _ rfl
        generalize am_u2 I14 l0 10 (am_wr (I11 l0 10 - x17)) = I19 at h ⊢
        refine e_goto (tgt := 2) dX8_endRule_62 (by decide) ?_
        exact e_forget (am_sub_k (am_sub_k am_sub_nil)) h
      · replace h := h.2 hc
        refine e_iconst dX8_endRule_43 ?_
        refine e_goto (tgt := 48) dX8_endRule_44 (by decide) ?_
        refine e_istore_n dX8_endRule_48 ?_
        refine e_aload_n dX8_endRule_49 rfl trivial ?_
        refine e_dup dX8_endRule_50 rfl ?_
        refine e_geti dX8_endRule_51 fk_X8_159 rfl hK5 ?_
        refine e_iload_n dX8_endRule_54 rfl ?_
        refine e_callS (Mc := m_X8_one) (vs := [am_i 1]) (st := [am_i (I11 l0 10), am_r l0]) dX8_endRule_55 ok_X8_one rfl mk_X8_36 sm_X8_one rfl rfl (by omega) (Nat.le_of_ble_eq_true rfl) (Nat.le_of_ble_eq_true rfl) (Nat.le_of_ble_eq_true rfl) am_xh_nx (am_C_mono h (fun v K20 N21 I22 P23 z24 h => ?_) (fun _ _ _ _ _ _ h => h))
        replace h := am_iv_or h
        obtain ⟨x25, rfl, h⟩ := h
        show am_E d m_X8_endRule 58 _ _ _ [am_i x25, am_i (I11 l0 10), am_r l0] K20 N21 I22 P23 z24 Q am_nx
        refine e_isub dX8_endRule_58 ?_
        obtain ⟨hK26, h⟩ := h
        refine e_puti dX8_endRule_59 fk_X8_159 rfl (Or.inl rfl) hK26 ?_
        replace h := h _ rfl
        generalize am_u2 I22 l0 10 (am_wr (I11 l0 10 - x25)) = I27 at h ⊢
        refine e_goto (tgt := 2) dX8_endRule_62 (by decide) ?_
        exact e_forget (am_sub_k (am_sub_k am_sub_nil)) h
set_option maxRecDepth 100000 in
set_option maxHeartbeats 4000000 in
theorem wf_X8_takesRule {d : Nat} (hd : 1 ≤ d) {s : Nat} {a1 : Int} {K N : Nat → Nat} {I : Nat → Nat → Int} {P : Nat → Nat → Option Nat} {z : Nat} {Q : am_V → am_T} (h :
  am_C (d - 1) m_X8_in [am_i a1, am_i 48, am_i 53] K N I P z (fun v K1 N2 I3 P4 z5 => am_iv v fun x6 =>
    ((¬ x6 = 0 →
    K1 s = 8 ∧ am_C (d - 1) m_X8_endRule [am_r s] K1 N2 I3 P4 z5 (fun _ K7 N8 I9 P10 z11 =>
      Q (am_i 1) K7 N8 I9 P10 z11) am_nx) ∧
    (x6 = 0 →
    ((¬ a1 = 120 →
      ((¬ a1 = 63 →
        Q (am_i 0) K1 N2 I3 P4 z5) ∧
        (a1 = 63 →
        K1 s = 8 ∧ ((¬ I3 s 10 = 6 →
          ∃ b14, P4 s 4 = some b14 ∧ K1 b14 = 10 ∧ (0 ≤ I3 s 10 ∧ I3 s 10 < N2 b14) ∧ ∀ I16, I16 = am_u2 I3 b14 (Int.toNat (I3 s 10)) 0 → ∀ I17, I17 = am_u2 I16 s 10 (am_wr (I16 s 10 + 1)) → ∀ I18, I18 = am_u2 I17 s 13 (am_wr (I17 s 13 + 1)) → ∀ I19, I19 = am_u2 I18 s 9 1 → Q (am_i 1) K1 N2 I19 P4 z5) ∧
          (I3 s 10 = 6 →
          Q (am_i 0) K1 N2 I3 P4 z5))))) ∧
      (a1 = 120 →
      K1 s = 8 ∧ am_C (d - 1) m_X8_endRule [am_r s] K1 N2 I3 P4 z5 (fun _ K20 N21 I22 P23 z24 =>
        Q (am_i 1) K20 N21 I22 P23 z24) am_nx))))) am_nx) :
  am_C d m_X8_takesRule [am_r s, am_i a1] K N I P z Q am_nx := by
  refine am_C_of ok_X8_takesRule (fun v hv => am_v1all _ rfl v hv) (Nat.le_of_ble_eq_true rfl) ?_
  show am_E d m_X8_takesRule 0 0 0 [some (am_r s), some (am_i a1)] [] K N I P z Q am_nx
  refine e_iload_n dX8_takesRule_0 rfl ?_
  refine e_bipush dX8_takesRule_1 ?_
  refine e_bipush dX8_takesRule_3 ?_
  refine e_callS (Mc := m_X8_in) (vs := [am_i a1, am_i 48, am_i 53]) (st := []) dX8_takesRule_5 ok_X8_in rfl mk_X8_40 sm_X8_in rfl rfl (by omega) (Nat.le_of_ble_eq_true rfl) (Nat.le_of_ble_eq_true rfl) (Nat.le_of_ble_eq_true rfl) am_xh_nx (am_C_mono h (fun v K1 N2 I3 P4 z5 h => ?_) (fun _ _ _ _ _ _ h => h))
  replace h := am_iv_or h
  obtain ⟨x6, rfl, h⟩ := h
  show am_E d m_X8_takesRule 8 _ _ _ [am_i x6] K1 N2 I3 P4 z5 Q am_nx
  refine e_if_ne (tgt := 17) dX8_takesRule_8 (by decide) (fun hc => ?_) (fun hc => ?_)
  · replace h := h.1 hc
    refine e_aload_n dX8_takesRule_17 rfl trivial ?_
    obtain ⟨hK12, h⟩ := h
    refine e_callV (Mc := m_X8_endRule) (vs := []) (st := []) dX8_takesRule_18 ok_X8_endRule rfl ⟨by decide, rfl⟩ mk_X8_165 im_X8_endRule sl_X8_endRule rfl rfl hK12 (by omega) (Nat.le_of_ble_eq_true rfl) (Nat.le_of_ble_eq_true rfl) (Nat.le_of_ble_eq_true rfl) am_xh_nx (am_C_mono h (fun v K7 N8 I9 P10 z11 h => ?_) (fun _ _ _ _ _ _ h => h))
    show am_E d m_X8_takesRule 21 _ _ _ [] K7 N8 I9 P10 z11 Q am_nx
    refine e_iconst dX8_takesRule_21 ?_
    exact e_ret_z dX8_takesRule_22 rfl (by decide) (Nat.le_of_ble_eq_true rfl) (Nat.le_of_ble_eq_true rfl) h
  · replace h := h.2 hc
    refine e_iload_n dX8_takesRule_11 rfl ?_
    refine e_bipush dX8_takesRule_12 ?_
    refine e_icmp_ne (tgt := 23) dX8_takesRule_14 (by decide) (fun hc => ?_) (fun hc => ?_)
    · replace h := h.1 hc
      refine e_iload_n dX8_takesRule_23 rfl ?_
      refine e_bipush dX8_takesRule_24 ?_
      refine e_icmp_ne (tgt := 38) dX8_takesRule_26 (by decide) (fun hc => ?_) (fun hc => ?_)
      · replace h := h.1 hc
        refine e_iconst dX8_takesRule_38 ?_
        exact e_ret_z dX8_takesRule_39 rfl (by decide) (Nat.le_of_ble_eq_true rfl) (Nat.le_of_ble_eq_true rfl) h
      · replace h := h.2 hc
        refine e_aload_n dX8_takesRule_29 rfl trivial ?_
        obtain ⟨hK13, h⟩ := h
        refine e_geti dX8_takesRule_30 fk_X8_159 rfl hK13 ?_
        refine e_bipush dX8_takesRule_33 ?_
        refine e_icmp_ne (tgt := 40) dX8_takesRule_35 (by decide) (fun hc => ?_) (fun hc => ?_)
        · replace h := h.1 hc
          refine e_aload_n dX8_takesRule_40 rfl trivial ?_
          obtain ⟨b14, hb14, h⟩ := h
          refine e_getr1 dX8_takesRule_41 fk_X8_22 rfl hK13 hb14 ?_
          refine e_aload_n dX8_takesRule_44 rfl trivial ?_
          refine e_geti dX8_takesRule_45 fk_X8_159 rfl hK13 ?_
          refine e_iconst dX8_takesRule_48 ?_
          obtain ⟨hK15, h⟩ := h
          obtain ⟨⟨h0, h1⟩, h⟩ := h
          refine e_iast dX8_takesRule_49 hK15 h0 h1 ?_
          replace h := h _ rfl
          generalize am_u2 I3 b14 (Int.toNat (I3 s 10)) 0 = I16 at h ⊢
          refine e_aload_n dX8_takesRule_50 rfl trivial ?_
          refine e_dup dX8_takesRule_51 rfl ?_
          refine e_geti dX8_takesRule_52 fk_X8_159 rfl hK13 ?_
          refine e_iconst dX8_takesRule_55 ?_
          refine e_iadd dX8_takesRule_56 ?_
          refine e_puti dX8_takesRule_57 fk_X8_159 rfl (Or.inl rfl) hK13 ?_
          replace h := h _ rfl
          generalize am_u2 I16 s 10 (am_wr (I16 s 10 + 1)) = I17 at h ⊢
          refine e_aload_n dX8_takesRule_60 rfl trivial ?_
          refine e_dup dX8_takesRule_61 rfl ?_
          refine e_geti dX8_takesRule_62 fk_X8_168 rfl hK13 ?_
          refine e_iconst dX8_takesRule_65 ?_
          refine e_iadd dX8_takesRule_66 ?_
          refine e_puti dX8_takesRule_67 fk_X8_168 rfl (Or.inl rfl) hK13 ?_
          replace h := h _ rfl
          generalize am_u2 I17 s 13 (am_wr (I17 s 13 + 1)) = I18 at h ⊢
          refine e_aload_n dX8_takesRule_70 rfl trivial ?_
          refine e_iconst dX8_takesRule_71 ?_
          refine e_puti dX8_takesRule_72 fk_X8_162 rfl (Or.inl rfl) hK13 ?_
          replace h := h _ rfl
          generalize am_u2 I18 s 9 1 = I19 at h ⊢
          refine e_iconst dX8_takesRule_75 ?_
          exact e_ret_z dX8_takesRule_76 rfl (by decide) (Nat.le_of_ble_eq_true rfl) (Nat.le_of_ble_eq_true rfl) h
        · replace h := h.2 hc
          refine e_iconst dX8_takesRule_38 ?_
          exact e_ret_z dX8_takesRule_39 rfl (by decide) (Nat.le_of_ble_eq_true rfl) (Nat.le_of_ble_eq_true rfl) h
    · replace h := h.2 hc
      refine e_aload_n dX8_takesRule_17 rfl trivial ?_
      obtain ⟨hK25, h⟩ := h
      refine e_callV (Mc := m_X8_endRule) (vs := []) (st := []) dX8_takesRule_18 ok_X8_endRule rfl ⟨by decide, rfl⟩ mk_X8_165 im_X8_endRule sl_X8_endRule rfl rfl hK25 (by omega) (Nat.le_of_ble_eq_true rfl) (Nat.le_of_ble_eq_true rfl) (Nat.le_of_ble_eq_true rfl) am_xh_nx (am_C_mono h (fun v K20 N21 I22 P23 z24 h => ?_) (fun _ _ _ _ _ _ h => h))
      show am_E d m_X8_takesRule 21 _ _ _ [] K20 N21 I22 P23 z24 Q am_nx
      refine e_iconst dX8_takesRule_21 ?_
      exact e_ret_z dX8_takesRule_22 rfl (by decide) (Nat.le_of_ble_eq_true rfl) (Nat.le_of_ble_eq_true rfl) h
set_option maxRecDepth 100000 in
set_option maxHeartbeats 4000000 in
theorem wf_X8_takesNumber {d : Nat} (hd : 1 ≤ d) {s : Nat} {a1 : Int} {K N : Nat → Nat} {I : Nat → Nat → Int} {P : Nat → Nat → Option Nat} {z : Nat} {Q : am_V → am_T} (h :
  am_C (d - 1) m_X8_in [am_i a1, am_i 48, am_i 57] K N I P z (fun v K1 N2 I3 P4 z5 => am_iv v fun x6 =>
    ((x6 = 0 →
    K1 s = 8 ∧ ((I3 s 11 = 0 →
      Q (am_i 0) K1 N2 I3 P4 z5) ∧
      (¬ (I3 s 11 = 0) →
      ((¬ I3 s 9 = 3 →
        ((¬ a1 = 59 →
          Q (am_i 0) K1 N2 I3 P4 z5) ∧
          (a1 = 59 →
          ((¬ I3 s 9 = 3 →
            ((¬ I3 s 9 = 3 →
              ∀ I8, I8 = am_u2 I3 s 9 0 → ∀ I9, I9 = am_u2 I8 s 11 0 → Q (am_i 1) K1 N2 I9 P4 z5) ∧
              (I3 s 9 = 3 →
              ∀ I10, I10 = am_u2 I3 s 9 4 → ∀ I11, I11 = am_u2 I10 s 11 0 → Q (am_i 1) K1 N2 I11 P4 z5))) ∧
            (I3 s 9 = 3 →
            ((¬ I3 s 12 = 0 →
              ((¬ I3 s 9 = 3 →
                ∀ I12, I12 = am_u2 I3 s 9 0 → ∀ I13, I13 = am_u2 I12 s 11 0 → Q (am_i 1) K1 N2 I13 P4 z5) ∧
                (I3 s 9 = 3 →
                ∀ I14, I14 = am_u2 I3 s 9 4 → ∀ I15, I15 = am_u2 I14 s 11 0 → Q (am_i 1) K1 N2 I15 P4 z5))) ∧
              (I3 s 12 = 0 →
              Q (am_i 0) K1 N2 I3 P4 z5))))))) ∧
        (I3 s 9 = 3 →
        ((¬ a1 = 44 →
          Q (am_i 0) K1 N2 I3 P4 z5) ∧
          (a1 = 44 →
          ((¬ I3 s 9 = 3 →
            ((¬ I3 s 9 = 3 →
              ∀ I16, I16 = am_u2 I3 s 9 0 → ∀ I17, I17 = am_u2 I16 s 11 0 → Q (am_i 1) K1 N2 I17 P4 z5) ∧
              (I3 s 9 = 3 →
              ∀ I18, I18 = am_u2 I3 s 9 4 → ∀ I19, I19 = am_u2 I18 s 11 0 → Q (am_i 1) K1 N2 I19 P4 z5))) ∧
            (I3 s 9 = 3 →
            ((¬ I3 s 12 = 0 →
              ((¬ I3 s 9 = 3 →
                ∀ I20, I20 = am_u2 I3 s 9 0 → ∀ I21, I21 = am_u2 I20 s 11 0 → Q (am_i 1) K1 N2 I21 P4 z5) ∧
                (I3 s 9 = 3 →
                ∀ I22, I22 = am_u2 I3 s 9 4 → ∀ I23, I23 = am_u2 I22 s 11 0 → Q (am_i 1) K1 N2 I23 P4 z5))) ∧
              (I3 s 12 = 0 →
              Q (am_i 0) K1 N2 I3 P4 z5))))))))))) ∧
    (¬ (x6 = 0) →
    K1 s = 8 ∧ ((¬ I3 s 11 = 0 →
      ∀ I25, I25 = am_u2 I3 s 12 (am_wr ((am_wr ((am_wr (10 * I3 s 12)) + a1)) - 48)) → ∀ I26, I26 = am_u2 I25 s 11 (am_wr (I25 s 11 + 1)) → ((4 ≤ I26 s 11 →
        Q (am_i 0) K1 N2 I26 P4 z5) ∧
        (¬ (4 ≤ I26 s 11) →
        Q (am_i 1) K1 N2 I26 P4 z5))) ∧
      (I3 s 11 = 0 →
      ∀ I27, I27 = am_u2 I3 s 12 (am_wr (a1 - 48)) → ∀ I28, I28 = am_u2 I27 s 11 (am_wr (I27 s 11 + 1)) → ((4 ≤ I28 s 11 →
        Q (am_i 0) K1 N2 I28 P4 z5) ∧
        (¬ (4 ≤ I28 s 11) →
        Q (am_i 1) K1 N2 I28 P4 z5))))))) am_nx) :
  am_C d m_X8_takesNumber [am_r s, am_i a1] K N I P z Q am_nx := by
  refine am_C_of ok_X8_takesNumber (fun v hv => am_v1all _ rfl v hv) (Nat.le_of_ble_eq_true rfl) ?_
  show am_E d m_X8_takesNumber 0 0 0 [some (am_r s), some (am_i a1)] [] K N I P z Q am_nx
  refine e_iload_n dX8_takesNumber_0 rfl ?_
  refine e_bipush dX8_takesNumber_1 ?_
  refine e_bipush dX8_takesNumber_3 ?_
  refine e_callS (Mc := m_X8_in) (vs := [am_i a1, am_i 48, am_i 57]) (st := []) dX8_takesNumber_5 ok_X8_in rfl mk_X8_40 sm_X8_in rfl rfl (by omega) (Nat.le_of_ble_eq_true rfl) (Nat.le_of_ble_eq_true rfl) (Nat.le_of_ble_eq_true rfl) am_xh_nx (am_C_mono h (fun v K1 N2 I3 P4 z5 h => ?_) (fun _ _ _ _ _ _ h => h))
  replace h := am_iv_or h
  obtain ⟨x6, rfl, h⟩ := h
  show am_E d m_X8_takesNumber 8 _ _ _ [am_i x6] K1 N2 I3 P4 z5 Q am_nx
  refine e_if_eq (tgt := 65) dX8_takesNumber_8 (by decide) (fun hc => ?_) (fun hc => ?_)
  · replace h := h.1 hc
    refine e_aload_n dX8_takesNumber_65 rfl trivial ?_
    obtain ⟨hK7, h⟩ := h
    refine e_geti dX8_takesNumber_66 fk_X8_171 rfl hK7 ?_
    refine e_if_eq (tgt := 106) dX8_takesNumber_69 (by decide) (fun hc => ?_) (fun hc => ?_)
    · replace h := h.1 hc
      refine e_iconst dX8_takesNumber_106 ?_
      exact e_ret_z dX8_takesNumber_107 rfl (by decide) (Nat.le_of_ble_eq_true rfl) (Nat.le_of_ble_eq_true rfl) h
    · replace h := h.2 hc
      refine e_iload_n dX8_takesNumber_72 rfl ?_
      refine e_aload_n dX8_takesNumber_73 rfl trivial ?_
      refine e_geti dX8_takesNumber_74 fk_X8_162 rfl hK7 ?_
      refine e_iconst dX8_takesNumber_77 ?_
      refine e_icmp_ne (tgt := 86) dX8_takesNumber_78 (by decide) (fun hc => ?_) (fun hc => ?_)
      · replace h := h.1 hc
        refine e_bipush dX8_takesNumber_86 ?_
        refine e_icmp_ne (tgt := 106) dX8_takesNumber_88 (by decide) (fun hc => ?_) (fun hc => ?_)
        · replace h := h.1 hc
          refine e_iconst dX8_takesNumber_106 ?_
          exact e_ret_z dX8_takesNumber_107 rfl (by decide) (Nat.le_of_ble_eq_true rfl) (Nat.le_of_ble_eq_true rfl) h
        · replace h := h.2 hc
          refine e_aload_n dX8_takesNumber_91 rfl trivial ?_
          refine e_geti dX8_takesNumber_92 fk_X8_162 rfl hK7 ?_
          refine e_iconst dX8_takesNumber_95 ?_
          refine e_icmp_ne (tgt := 108) dX8_takesNumber_96 (by decide) (fun hc => ?_) (fun hc => ?_)
          · replace h := h.1 hc
            refine e_aload_n dX8_takesNumber_108 rfl trivial ?_
            refine e_aload_n dX8_takesNumber_109 rfl trivial ?_
            refine e_geti dX8_takesNumber_110 fk_X8_162 rfl hK7 ?_
            refine e_iconst dX8_takesNumber_113 ?_
            refine e_icmp_ne (tgt := 121) dX8_takesNumber_114 (by decide) (fun hc => ?_) (fun hc => ?_)
            · replace h := h.1 hc
              refine e_iconst dX8_takesNumber_121 ?_
              refine e_puti dX8_takesNumber_122 fk_X8_162 rfl (Or.inl rfl) hK7 ?_
              replace h := h _ rfl
              generalize am_u2 I3 s 9 0 = I8 at h ⊢
              refine e_aload_n dX8_takesNumber_125 rfl trivial ?_
              refine e_iconst dX8_takesNumber_126 ?_
              refine e_puti dX8_takesNumber_127 fk_X8_171 rfl (Or.inl rfl) hK7 ?_
              replace h := h _ rfl
              generalize am_u2 I8 s 11 0 = I9 at h ⊢
              refine e_iconst dX8_takesNumber_130 ?_
              exact e_ret_z dX8_takesNumber_131 rfl (by decide) (Nat.le_of_ble_eq_true rfl) (Nat.le_of_ble_eq_true rfl) h
            · replace h := h.2 hc
              refine e_iconst dX8_takesNumber_117 ?_
              refine e_goto (tgt := 122) dX8_takesNumber_118 (by decide) ?_
              refine e_puti dX8_takesNumber_122 fk_X8_162 rfl (Or.inl rfl) hK7 ?_
              replace h := h _ rfl
              generalize am_u2 I3 s 9 4 = I10 at h ⊢
              refine e_aload_n dX8_takesNumber_125 rfl trivial ?_
              refine e_iconst dX8_takesNumber_126 ?_
              refine e_puti dX8_takesNumber_127 fk_X8_171 rfl (Or.inl rfl) hK7 ?_
              replace h := h _ rfl
              generalize am_u2 I10 s 11 0 = I11 at h ⊢
              refine e_iconst dX8_takesNumber_130 ?_
              exact e_ret_z dX8_takesNumber_131 rfl (by decide) (Nat.le_of_ble_eq_true rfl) (Nat.le_of_ble_eq_true rfl) h
          · replace h := h.2 hc
            refine e_aload_n dX8_takesNumber_99 rfl trivial ?_
            refine e_geti dX8_takesNumber_100 fk_X8_174 rfl hK7 ?_
            refine e_if_ne (tgt := 108) dX8_takesNumber_103 (by decide) (fun hc => ?_) (fun hc => ?_)
            · replace h := h.1 hc
              refine e_aload_n dX8_takesNumber_108 rfl trivial ?_
              refine e_aload_n dX8_takesNumber_109 rfl trivial ?_
              refine e_geti dX8_takesNumber_110 fk_X8_162 rfl hK7 ?_
              refine e_iconst dX8_takesNumber_113 ?_
              refine e_icmp_ne (tgt := 121) dX8_takesNumber_114 (by decide) (fun hc => ?_) (fun hc => ?_)
              · replace h := h.1 hc
                refine e_iconst dX8_takesNumber_121 ?_
                refine e_puti dX8_takesNumber_122 fk_X8_162 rfl (Or.inl rfl) hK7 ?_
                replace h := h _ rfl
                generalize am_u2 I3 s 9 0 = I12 at h ⊢
                refine e_aload_n dX8_takesNumber_125 rfl trivial ?_
                refine e_iconst dX8_takesNumber_126 ?_
                refine e_puti dX8_takesNumber_127 fk_X8_171 rfl (Or.inl rfl) hK7 ?_
                replace h := h _ rfl
                generalize am_u2 I12 s 11 0 = I13 at h ⊢
                refine e_iconst dX8_takesNumber_130 ?_
                exact e_ret_z dX8_takesNumber_131 rfl (by decide) (Nat.le_of_ble_eq_true rfl) (Nat.le_of_ble_eq_true rfl) h
              · replace h := h.2 hc
                refine e_iconst dX8_takesNumber_117 ?_
                refine e_goto (tgt := 122) dX8_takesNumber_118 (by decide) ?_
                refine e_puti dX8_takesNumber_122 fk_X8_162 rfl (Or.inl rfl) hK7 ?_
                replace h := h _ rfl
                generalize am_u2 I3 s 9 4 = I14 at h ⊢
                refine e_aload_n dX8_takesNumber_125 rfl trivial ?_
                refine e_iconst dX8_takesNumber_126 ?_
                refine e_puti dX8_takesNumber_127 fk_X8_171 rfl (Or.inl rfl) hK7 ?_
                replace h := h _ rfl
                generalize am_u2 I14 s 11 0 = I15 at h ⊢
                refine e_iconst dX8_takesNumber_130 ?_
                exact e_ret_z dX8_takesNumber_131 rfl (by decide) (Nat.le_of_ble_eq_true rfl) (Nat.le_of_ble_eq_true rfl) h
            · replace h := h.2 hc
              refine e_iconst dX8_takesNumber_106 ?_
              exact e_ret_z dX8_takesNumber_107 rfl (by decide) (Nat.le_of_ble_eq_true rfl) (Nat.le_of_ble_eq_true rfl) h
      · replace h := h.2 hc
        refine e_bipush dX8_takesNumber_81 ?_
        refine e_goto (tgt := 88) dX8_takesNumber_83 (by decide) ?_
        refine e_icmp_ne (tgt := 106) dX8_takesNumber_88 (by decide) (fun hc => ?_) (fun hc => ?_)
        · replace h := h.1 hc
          refine e_iconst dX8_takesNumber_106 ?_
          exact e_ret_z dX8_takesNumber_107 rfl (by decide) (Nat.le_of_ble_eq_true rfl) (Nat.le_of_ble_eq_true rfl) h
        · replace h := h.2 hc
          refine e_aload_n dX8_takesNumber_91 rfl trivial ?_
          refine e_geti dX8_takesNumber_92 fk_X8_162 rfl hK7 ?_
          refine e_iconst dX8_takesNumber_95 ?_
          refine e_icmp_ne (tgt := 108) dX8_takesNumber_96 (by decide) (fun hc => ?_) (fun hc => ?_)
          · replace h := h.1 hc
            refine e_aload_n dX8_takesNumber_108 rfl trivial ?_
            refine e_aload_n dX8_takesNumber_109 rfl trivial ?_
            refine e_geti dX8_takesNumber_110 fk_X8_162 rfl hK7 ?_
            refine e_iconst dX8_takesNumber_113 ?_
            refine e_icmp_ne (tgt := 121) dX8_takesNumber_114 (by decide) (fun hc => ?_) (fun hc => ?_)
            · replace h := h.1 hc
              refine e_iconst dX8_takesNumber_121 ?_
              refine e_puti dX8_takesNumber_122 fk_X8_162 rfl (Or.inl rfl) hK7 ?_
              replace h := h _ rfl
              generalize am_u2 I3 s 9 0 = I16 at h ⊢
              refine e_aload_n dX8_takesNumber_125 rfl trivial ?_
              refine e_iconst dX8_takesNumber_126 ?_
              refine e_puti dX8_takesNumber_127 fk_X8_171 rfl (Or.inl rfl) hK7 ?_
              replace h := h _ rfl
              generalize am_u2 I16 s 11 0 = I17 at h ⊢
              refine e_iconst dX8_takesNumber_130 ?_
              exact e_ret_z dX8_takesNumber_131 rfl (by decide) (Nat.le_of_ble_eq_true rfl) (Nat.le_of_ble_eq_true rfl) h
            · replace h := h.2 hc
              refine e_iconst dX8_takesNumber_117 ?_
              refine e_goto (tgt := 122) dX8_takesNumber_118 (by decide) ?_
              refine e_puti dX8_takesNumber_122 fk_X8_162 rfl (Or.inl rfl) hK7 ?_
              replace h := h _ rfl
              generalize am_u2 I3 s 9 4 = I18 at h ⊢
              refine e_aload_n dX8_takesNumber_125 rfl trivial ?_
              refine e_iconst dX8_takesNumber_126 ?_
              refine e_puti dX8_takesNumber_127 fk_X8_171 rfl (Or.inl rfl) hK7 ?_
              replace h := h _ rfl
              generalize am_u2 I18 s 11 0 = I19 at h ⊢
              refine e_iconst dX8_takesNumber_130 ?_
              exact e_ret_z dX8_takesNumber_131 rfl (by decide) (Nat.le_of_ble_eq_true rfl) (Nat.le_of_ble_eq_true rfl) h
          · replace h := h.2 hc
            refine e_aload_n dX8_takesNumber_99 rfl trivial ?_
            refine e_geti dX8_takesNumber_100 fk_X8_174 rfl hK7 ?_
            refine e_if_ne (tgt := 108) dX8_takesNumber_103 (by decide) (fun hc => ?_) (fun hc => ?_)
            · replace h := h.1 hc
              refine e_aload_n dX8_takesNumber_108 rfl trivial ?_
              refine e_aload_n dX8_takesNumber_109 rfl trivial ?_
              refine e_geti dX8_takesNumber_110 fk_X8_162 rfl hK7 ?_
              refine e_iconst dX8_takesNumber_113 ?_
              refine e_icmp_ne (tgt := 121) dX8_takesNumber_114 (by decide) (fun hc => ?_) (fun hc => ?_)
              · replace h := h.1 hc
                refine e_iconst dX8_takesNumber_121 ?_
                refine e_puti dX8_takesNumber_122 fk_X8_162 rfl (Or.inl rfl) hK7 ?_
                replace h := h _ rfl
                generalize am_u2 I3 s 9 0 = I20 at h ⊢
                refine e_aload_n dX8_takesNumber_125 rfl trivial ?_
                refine e_iconst dX8_takesNumber_126 ?_
                refine e_puti dX8_takesNumber_127 fk_X8_171 rfl (Or.inl rfl) hK7 ?_
                replace h := h _ rfl
                generalize am_u2 I20 s 11 0 = I21 at h ⊢
                refine e_iconst dX8_takesNumber_130 ?_
                exact e_ret_z dX8_takesNumber_131 rfl (by decide) (Nat.le_of_ble_eq_true rfl) (Nat.le_of_ble_eq_true rfl) h
              · replace h := h.2 hc
                refine e_iconst dX8_takesNumber_117 ?_
                refine e_goto (tgt := 122) dX8_takesNumber_118 (by decide) ?_
                refine e_puti dX8_takesNumber_122 fk_X8_162 rfl (Or.inl rfl) hK7 ?_
                replace h := h _ rfl
                generalize am_u2 I3 s 9 4 = I22 at h ⊢
                refine e_aload_n dX8_takesNumber_125 rfl trivial ?_
                refine e_iconst dX8_takesNumber_126 ?_
                refine e_puti dX8_takesNumber_127 fk_X8_171 rfl (Or.inl rfl) hK7 ?_
                replace h := h _ rfl
                generalize am_u2 I22 s 11 0 = I23 at h ⊢
                refine e_iconst dX8_takesNumber_130 ?_
                exact e_ret_z dX8_takesNumber_131 rfl (by decide) (Nat.le_of_ble_eq_true rfl) (Nat.le_of_ble_eq_true rfl) h
            · replace h := h.2 hc
              refine e_iconst dX8_takesNumber_106 ?_
              exact e_ret_z dX8_takesNumber_107 rfl (by decide) (Nat.le_of_ble_eq_true rfl) (Nat.le_of_ble_eq_true rfl) h
  · replace h := h.2 hc
    refine e_aload_n dX8_takesNumber_11 rfl trivial ?_
    refine e_aload_n dX8_takesNumber_12 rfl trivial ?_
    obtain ⟨hK24, h⟩ := h
    refine e_geti dX8_takesNumber_13 fk_X8_171 rfl hK24 ?_
    refine e_if_ne (tgt := 26) dX8_takesNumber_16 (by decide) (fun hc => ?_) (fun hc => ?_)
    · replace h := h.1 hc
      refine e_bipush dX8_takesNumber_26 ?_
      refine e_aload_n dX8_takesNumber_28 rfl trivial ?_
      refine e_geti dX8_takesNumber_29 fk_X8_174 rfl hK24 ?_
      refine e_imul dX8_takesNumber_32 ?_
      refine e_iload_n dX8_takesNumber_33 rfl ?_
      refine e_iadd dX8_takesNumber_34 ?_
      refine e_bipush dX8_takesNumber_35 ?_
      refine e_isub dX8_takesNumber_37 ?_
      refine e_puti dX8_takesNumber_38 fk_X8_174 rfl (Or.inl rfl) hK24 ?_
      replace h := h _ rfl
      generalize am_u2 I3 s 12 (am_wr ((am_wr ((am_wr (10 * I3 s 12)) + a1)) - 48)) = I25 at h ⊢
      refine e_aload_n dX8_takesNumber_41 rfl trivial ?_
      refine e_dup dX8_takesNumber_42 rfl ?_
      refine e_geti dX8_takesNumber_43 fk_X8_171 rfl hK24 ?_
      refine e_iconst dX8_takesNumber_46 ?_
      refine e_iadd dX8_takesNumber_47 ?_
      refine e_puti dX8_takesNumber_48 fk_X8_171 rfl (Or.inl rfl) hK24 ?_
      replace h := h _ rfl
      generalize am_u2 I25 s 11 (am_wr (I25 s 11 + 1)) = I26 at h ⊢
      refine e_aload_n dX8_takesNumber_51 rfl trivial ?_
      refine e_geti dX8_takesNumber_52 fk_X8_171 rfl hK24 ?_
      refine e_iconst dX8_takesNumber_55 ?_
      refine e_icmp_ge (tgt := 63) dX8_takesNumber_56 (by decide) (fun hc => ?_) (fun hc => ?_)
      · replace h := h.1 hc
        refine e_iconst dX8_takesNumber_63 ?_
        exact e_ret_z dX8_takesNumber_64 rfl (by decide) (Nat.le_of_ble_eq_true rfl) (Nat.le_of_ble_eq_true rfl) h
      · replace h := h.2 hc
        refine e_iconst dX8_takesNumber_59 ?_
        refine e_goto (tgt := 64) dX8_takesNumber_60 (by decide) ?_
        exact e_ret_z dX8_takesNumber_64 rfl (by decide) (Nat.le_of_ble_eq_true rfl) (Nat.le_of_ble_eq_true rfl) h
    · replace h := h.2 hc
      refine e_iload_n dX8_takesNumber_19 rfl ?_
      refine e_bipush dX8_takesNumber_20 ?_
      refine e_isub dX8_takesNumber_22 ?_
      refine e_goto (tgt := 38) dX8_takesNumber_23 (by decide) ?_
      refine e_puti dX8_takesNumber_38 fk_X8_174 rfl (Or.inl rfl) hK24 ?_
      replace h := h _ rfl
      generalize am_u2 I3 s 12 (am_wr (a1 - 48)) = I27 at h ⊢
      refine e_aload_n dX8_takesNumber_41 rfl trivial ?_
      refine e_dup dX8_takesNumber_42 rfl ?_
      refine e_geti dX8_takesNumber_43 fk_X8_171 rfl hK24 ?_
      refine e_iconst dX8_takesNumber_46 ?_
      refine e_iadd dX8_takesNumber_47 ?_
      refine e_puti dX8_takesNumber_48 fk_X8_171 rfl (Or.inl rfl) hK24 ?_
      replace h := h _ rfl
      generalize am_u2 I27 s 11 (am_wr (I27 s 11 + 1)) = I28 at h ⊢
      refine e_aload_n dX8_takesNumber_51 rfl trivial ?_
      refine e_geti dX8_takesNumber_52 fk_X8_171 rfl hK24 ?_
      refine e_iconst dX8_takesNumber_55 ?_
      refine e_icmp_ge (tgt := 63) dX8_takesNumber_56 (by decide) (fun hc => ?_) (fun hc => ?_)
      · replace h := h.1 hc
        refine e_iconst dX8_takesNumber_63 ?_
        exact e_ret_z dX8_takesNumber_64 rfl (by decide) (Nat.le_of_ble_eq_true rfl) (Nat.le_of_ble_eq_true rfl) h
      · replace h := h.2 hc
        refine e_iconst dX8_takesNumber_59 ?_
        refine e_goto (tgt := 64) dX8_takesNumber_60 (by decide) ?_
        exact e_ret_z dX8_takesNumber_64 rfl (by decide) (Nat.le_of_ble_eq_true rfl) (Nat.le_of_ble_eq_true rfl) h
set_option maxRecDepth 100000 in
set_option maxHeartbeats 4000000 in
theorem wf_X8_takes {d : Nat} (hd : 1 ≤ d) {s : Nat} {a1 : Int} {K N : Nat → Nat} {I : Nat → Nat → Int} {P : Nat → Nat → Option Nat} {z : Nat} {Q : am_V → am_T} (h :
  K s = 8 ∧ ((¬ I s 9 = 0 →
    ((¬ I s 9 = 1 →
      ((5 ≤ I s 9 →
        Q (am_i 0) K N I P z) ∧
        (¬ (5 ≤ I s 9) →
        am_C (d - 1) m_X8_takesNumber [am_r s, am_i a1] K N I P z (fun v K2 N3 I4 P5 z6 => am_iv v fun x7 =>
          ((x7 = 0 →
          Q (am_i 0) K2 N3 I4 P5 z6) ∧
          (¬ (x7 = 0) →
          Q (am_i 1) K2 N3 I4 P5 z6))) am_nx))) ∧
      (I s 9 = 1 →
      ((¬ a1 = 109 →
        ∀ I8, I8 = am_u2 I s 9 2 → ∀ I9, I9 = am_u2 I8 s 11 0 → ((a1 = 99 →
          Q (am_i 1) K N I9 P z) ∧
          (¬ (a1 = 99) →
          ((a1 = 108 →
            Q (am_i 1) K N I9 P z) ∧
            (¬ (a1 = 108) →
            ((¬ a1 = 109 →
              Q (am_i 0) K N I9 P z) ∧
              (a1 = 109 →
              Q (am_i 1) K N I9 P z))))))) ∧
        (a1 = 109 →
        ∀ I10, I10 = am_u2 I s 9 3 → ∀ I11, I11 = am_u2 I10 s 11 0 → ((a1 = 99 →
          Q (am_i 1) K N I11 P z) ∧
          (¬ (a1 = 99) →
          ((a1 = 108 →
            Q (am_i 1) K N I11 P z) ∧
            (¬ (a1 = 108) →
            ((¬ a1 = 109 →
              Q (am_i 0) K N I11 P z) ∧
              (a1 = 109 →
              Q (am_i 1) K N I11 P z))))))))))) ∧
    (I s 9 = 0 →
    am_C (d - 1) m_X8_takesRule [am_r s, am_i a1] K N I P z (fun v K12 N13 I14 P15 z16 => am_iv v fun x17 =>
      (x17 = 0 ∨ x17 = 1) ∧ Q (am_i x17) K12 N13 I14 P15 z16) am_nx))) :
  am_C d m_X8_takes [am_r s, am_i a1] K N I P z Q am_nx := by
  refine am_C_of ok_X8_takes (fun v hv => am_v1all _ rfl v hv) (Nat.le_of_ble_eq_true rfl) ?_
  show am_E d m_X8_takes 0 0 0 [some (am_r s), some (am_i a1)] [] K N I P z Q am_nx
  refine e_aload_n dX8_takes_0 rfl trivial ?_
  obtain ⟨hK1, h⟩ := h
  refine e_geti dX8_takes_1 fk_X8_162 rfl hK1 ?_
  refine e_if_ne (tgt := 13) dX8_takes_4 (by decide) (fun hc => ?_) (fun hc => ?_)
  · replace h := h.1 hc
    refine e_aload_n dX8_takes_13 rfl trivial ?_
    refine e_geti dX8_takes_14 fk_X8_162 rfl hK1 ?_
    refine e_iconst dX8_takes_17 ?_
    refine e_icmp_ne (tgt := 65) dX8_takes_18 (by decide) (fun hc => ?_) (fun hc => ?_)
    · replace h := h.1 hc
      refine e_aload_n dX8_takes_65 rfl trivial ?_
      refine e_geti dX8_takes_66 fk_X8_162 rfl hK1 ?_
      refine e_iconst dX8_takes_69 ?_
      refine e_icmp_ge (tgt := 85) dX8_takes_70 (by decide) (fun hc => ?_) (fun hc => ?_)
      · replace h := h.1 hc
        refine e_iconst dX8_takes_85 ?_
        exact e_ret_z dX8_takes_86 rfl (by decide) (Nat.le_of_ble_eq_true rfl) (Nat.le_of_ble_eq_true rfl) h
      · replace h := h.2 hc
        refine e_aload_n dX8_takes_73 rfl trivial ?_
        refine e_iload_n dX8_takes_74 rfl ?_
        refine e_callV (Mc := m_X8_takesNumber) (vs := [am_i a1]) (st := []) dX8_takes_75 ok_X8_takesNumber rfl ⟨by decide, rfl⟩ mk_X8_180 im_X8_takesNumber sl_X8_takesNumber rfl rfl hK1 (by omega) (Nat.le_of_ble_eq_true rfl) (Nat.le_of_ble_eq_true rfl) (Nat.le_of_ble_eq_true rfl) am_xh_nx (am_C_mono h (fun v K2 N3 I4 P5 z6 h => ?_) (fun _ _ _ _ _ _ h => h))
        replace h := am_iv_or h
        obtain ⟨x7, rfl, h⟩ := h
        show am_E d m_X8_takes 78 _ _ _ [am_i x7] K2 N3 I4 P5 z6 Q am_nx
        refine e_if_eq (tgt := 85) dX8_takes_78 (by decide) (fun hc => ?_) (fun hc => ?_)
        · replace h := h.1 hc
          refine e_iconst dX8_takes_85 ?_
          exact e_ret_z dX8_takes_86 rfl (by decide) (Nat.le_of_ble_eq_true rfl) (Nat.le_of_ble_eq_true rfl) h
        · replace h := h.2 hc
          refine e_iconst dX8_takes_81 ?_
          refine e_goto (tgt := 86) dX8_takes_82 (by decide) ?_
          exact e_ret_z dX8_takes_86 rfl (by decide) (Nat.le_of_ble_eq_true rfl) (Nat.le_of_ble_eq_true rfl) h
    · replace h := h.2 hc
      refine e_aload_n dX8_takes_21 rfl trivial ?_
      refine e_iload_n dX8_takes_22 rfl ?_
      refine e_bipush dX8_takes_23 ?_
      refine e_icmp_ne (tgt := 32) dX8_takes_25 (by decide) (fun hc => ?_) (fun hc => ?_)
      · replace h := h.1 hc
        refine e_iconst dX8_takes_32 ?_
        refine e_puti dX8_takes_33 fk_X8_162 rfl (Or.inl rfl) hK1 ?_
        replace h := h _ rfl
        generalize am_u2 I s 9 2 = I8 at h ⊢
        refine e_aload_n dX8_takes_36 rfl trivial ?_
        refine e_iconst dX8_takes_37 ?_
        refine e_puti dX8_takes_38 fk_X8_171 rfl (Or.inl rfl) hK1 ?_
        replace h := h _ rfl
        generalize am_u2 I8 s 11 0 = I9 at h ⊢
        refine e_iload_n dX8_takes_41 rfl ?_
        refine e_bipush dX8_takes_42 ?_
        refine e_icmp_eq (tgt := 59) dX8_takes_44 (by decide) (fun hc => ?_) (fun hc => ?_)
        · replace h := h.1 hc
          refine e_iconst dX8_takes_59 ?_
          refine e_goto (tgt := 64) dX8_takes_60 (by decide) ?_
          exact e_ret_z dX8_takes_64 rfl (by decide) (Nat.le_of_ble_eq_true rfl) (Nat.le_of_ble_eq_true rfl) h
        · replace h := h.2 hc
          refine e_iload_n dX8_takes_47 rfl ?_
          refine e_bipush dX8_takes_48 ?_
          refine e_icmp_eq (tgt := 59) dX8_takes_50 (by decide) (fun hc => ?_) (fun hc => ?_)
          · replace h := h.1 hc
            refine e_iconst dX8_takes_59 ?_
            refine e_goto (tgt := 64) dX8_takes_60 (by decide) ?_
            exact e_ret_z dX8_takes_64 rfl (by decide) (Nat.le_of_ble_eq_true rfl) (Nat.le_of_ble_eq_true rfl) h
          · replace h := h.2 hc
            refine e_iload_n dX8_takes_53 rfl ?_
            refine e_bipush dX8_takes_54 ?_
            refine e_icmp_ne (tgt := 63) dX8_takes_56 (by decide) (fun hc => ?_) (fun hc => ?_)
            · replace h := h.1 hc
              refine e_iconst dX8_takes_63 ?_
              exact e_ret_z dX8_takes_64 rfl (by decide) (Nat.le_of_ble_eq_true rfl) (Nat.le_of_ble_eq_true rfl) h
            · replace h := h.2 hc
              refine e_iconst dX8_takes_59 ?_
              refine e_goto (tgt := 64) dX8_takes_60 (by decide) ?_
              exact e_ret_z dX8_takes_64 rfl (by decide) (Nat.le_of_ble_eq_true rfl) (Nat.le_of_ble_eq_true rfl) h
      · replace h := h.2 hc
        refine e_iconst dX8_takes_28 ?_
        refine e_goto (tgt := 33) dX8_takes_29 (by decide) ?_
        refine e_puti dX8_takes_33 fk_X8_162 rfl (Or.inl rfl) hK1 ?_
        replace h := h _ rfl
        generalize am_u2 I s 9 3 = I10 at h ⊢
        refine e_aload_n dX8_takes_36 rfl trivial ?_
        refine e_iconst dX8_takes_37 ?_
        refine e_puti dX8_takes_38 fk_X8_171 rfl (Or.inl rfl) hK1 ?_
        replace h := h _ rfl
        generalize am_u2 I10 s 11 0 = I11 at h ⊢
        refine e_iload_n dX8_takes_41 rfl ?_
        refine e_bipush dX8_takes_42 ?_
        refine e_icmp_eq (tgt := 59) dX8_takes_44 (by decide) (fun hc => ?_) (fun hc => ?_)
        · replace h := h.1 hc
          refine e_iconst dX8_takes_59 ?_
          refine e_goto (tgt := 64) dX8_takes_60 (by decide) ?_
          exact e_ret_z dX8_takes_64 rfl (by decide) (Nat.le_of_ble_eq_true rfl) (Nat.le_of_ble_eq_true rfl) h
        · replace h := h.2 hc
          refine e_iload_n dX8_takes_47 rfl ?_
          refine e_bipush dX8_takes_48 ?_
          refine e_icmp_eq (tgt := 59) dX8_takes_50 (by decide) (fun hc => ?_) (fun hc => ?_)
          · replace h := h.1 hc
            refine e_iconst dX8_takes_59 ?_
            refine e_goto (tgt := 64) dX8_takes_60 (by decide) ?_
            exact e_ret_z dX8_takes_64 rfl (by decide) (Nat.le_of_ble_eq_true rfl) (Nat.le_of_ble_eq_true rfl) h
          · replace h := h.2 hc
            refine e_iload_n dX8_takes_53 rfl ?_
            refine e_bipush dX8_takes_54 ?_
            refine e_icmp_ne (tgt := 63) dX8_takes_56 (by decide) (fun hc => ?_) (fun hc => ?_)
            · replace h := h.1 hc
              refine e_iconst dX8_takes_63 ?_
              exact e_ret_z dX8_takes_64 rfl (by decide) (Nat.le_of_ble_eq_true rfl) (Nat.le_of_ble_eq_true rfl) h
            · replace h := h.2 hc
              refine e_iconst dX8_takes_59 ?_
              refine e_goto (tgt := 64) dX8_takes_60 (by decide) ?_
              exact e_ret_z dX8_takes_64 rfl (by decide) (Nat.le_of_ble_eq_true rfl) (Nat.le_of_ble_eq_true rfl) h
  · replace h := h.2 hc
    refine e_aload_n dX8_takes_7 rfl trivial ?_
    refine e_iload_n dX8_takes_8 rfl ?_
    refine e_callV (Mc := m_X8_takesRule) (vs := [am_i a1]) (st := []) dX8_takes_9 ok_X8_takesRule rfl ⟨by decide, rfl⟩ mk_X8_177 im_X8_takesRule sl_X8_takesRule rfl rfl hK1 (by omega) (Nat.le_of_ble_eq_true rfl) (Nat.le_of_ble_eq_true rfl) (Nat.le_of_ble_eq_true rfl) am_xh_nx (am_C_mono h (fun v K12 N13 I14 P15 z16 h => ?_) (fun _ _ _ _ _ _ h => h))
    replace h := am_iv_or h
    obtain ⟨x17, rfl, h⟩ := h
    show am_E d m_X8_takes 12 _ _ _ [am_i x17] K12 N13 I14 P15 z16 Q am_nx
    obtain ⟨hz01, h⟩ := h
    exact e_ret_z dX8_takes_12 rfl hz01 (Nat.le_of_ble_eq_true rfl) (Nat.le_of_ble_eq_true rfl) h
def L_X8_error_17 (d : Nat) (l0 : Nat) (l1 : Int) (K N : Nat → Nat) (I : Nat → Nat → Int) (P : Nat → Nat → Option Nat) (z : Nat) (Q : am_V → am_T) : Prop := am_E d m_X8_error 17 0 0 [some (am_r l0), some (am_i l1)] [] K N I P z Q am_nx
set_option maxRecDepth 100000 in
set_option maxHeartbeats 4000000 in
theorem wf_X8_error {d : Nat} {s : Nat} {K N : Nat → Nat} {I : Nat → Nat → Int} {P : Nat → Nat → Option Nat} {z : Nat} {Q : am_V → am_T} (h :
  K s = 8 ∧ ∀ I2, I2 = am_u2 I s 9 0 → ∀ I3, I3 = am_u2 I2 s 10 0 → ∀ I4, I4 = am_u2 I3 s 13 0 → L_X8_error_17 d s 0 K N I4 P z Q) :
  am_C d m_X8_error [am_r s] K N I P z Q am_nx := by
  refine am_C_of ok_X8_error (fun v hv => am_v1all _ rfl v hv) (Nat.le_of_ble_eq_true rfl) ?_
  show am_E d m_X8_error 0 0 0 [some (am_r s), none] [] K N I P z Q am_nx
  refine e_aload_n dX8_error_0 rfl trivial ?_
  refine e_iconst dX8_error_1 ?_
  obtain ⟨hK1, h⟩ := h
  refine e_puti dX8_error_2 fk_X8_162 rfl (Or.inl rfl) hK1 ?_
  replace h := h _ rfl
  generalize am_u2 I s 9 0 = I2 at h ⊢
  refine e_aload_n dX8_error_5 rfl trivial ?_
  refine e_iconst dX8_error_6 ?_
  refine e_puti dX8_error_7 fk_X8_159 rfl (Or.inl rfl) hK1 ?_
  replace h := h _ rfl
  generalize am_u2 I2 s 10 0 = I3 at h ⊢
  refine e_aload_n dX8_error_10 rfl trivial ?_
  refine e_iconst dX8_error_11 ?_
  refine e_puti dX8_error_12 fk_X8_168 rfl (Or.inl rfl) hK1 ?_
  replace h := h _ rfl
  generalize am_u2 I3 s 13 0 = I4 at h ⊢
  refine e_iconst dX8_error_15 ?_
  refine e_istore_n dX8_error_16 ?_
  exact e_forget (am_sub_k (am_sub_k am_sub_nil)) h
set_option maxRecDepth 100000 in
set_option maxHeartbeats 4000000 in
theorem wf_X8_error_17 {d : Nat} (hd : 1 ≤ d) {l0 : Nat} {l1 : Int} {K N : Nat → Nat} {I : Nat → Nat → Int} {P : Nat → Nat → Option Nat} {z : Nat} {Q : am_V → am_T} (h :
  K l0 = 8 ∧ ((I l0 6 ≤ l1 →
    ((¬ I l0 9 = 5 →
      Q (am_i (I l0 6)) K N I P z) ∧
      (I l0 9 = 5 →
      Q (am_i (-1)) K N I P z))) ∧
    (¬ (I l0 6 ≤ l1) →
    ∃ b2, P l0 3 = some b2 ∧ K b2 = 10 ∧ (0 ≤ l1 ∧ l1 < N b2) ∧ am_C (d - 1) m_X8_takes [am_r l0, am_i (I b2 (Int.toNat l1))] K N I P z (fun v K4 N5 I6 P7 z8 => am_iv v fun x9 =>
      ((¬ x9 = 0 →
      L_X8_error_17 d l0 (am_wr (l1 + 1)) K4 N5 I6 P7 z8 Q) ∧
      (x9 = 0 →
      Q (am_i l1) K4 N5 I6 P7 z8))) am_nx))) :
  L_X8_error_17 d l0 l1 K N I P z Q := by
  unfold L_X8_error_17
  refine e_iload_n dX8_error_17 rfl ?_
  refine e_aload_n dX8_error_18 rfl trivial ?_
  obtain ⟨hK1, h⟩ := h
  refine e_geti dX8_error_19 fk_X8_143 rfl hK1 ?_
  refine e_icmp_ge (tgt := 46) dX8_error_22 (by decide) (fun hc => ?_) (fun hc => ?_)
  · replace h := h.1 hc
    refine e_aload_n dX8_error_46 rfl trivial ?_
    refine e_geti dX8_error_47 fk_X8_162 rfl hK1 ?_
    refine e_iconst dX8_error_50 ?_
    refine e_icmp_ne (tgt := 58) dX8_error_51 (by decide) (fun hc => ?_) (fun hc => ?_)
    · replace h := h.1 hc
      refine e_aload_n dX8_error_58 rfl trivial ?_
      refine e_geti dX8_error_59 fk_X8_143 rfl hK1 ?_
      exact e_ret_i dX8_error_62 rfl (Nat.le_of_ble_eq_true rfl) (Nat.le_of_ble_eq_true rfl) h
    · replace h := h.2 hc
      refine e_iconst dX8_error_54 ?_
      refine e_goto (tgt := 62) dX8_error_55 (by decide) ?_
      exact e_ret_i dX8_error_62 rfl (Nat.le_of_ble_eq_true rfl) (Nat.le_of_ble_eq_true rfl) h
  · replace h := h.2 hc
    refine e_aload_n dX8_error_25 rfl trivial ?_
    refine e_aload_n dX8_error_26 rfl trivial ?_
    obtain ⟨b2, hb2, h⟩ := h
    refine e_getr1 dX8_error_27 fk_X8_19 rfl hK1 hb2 ?_
    refine e_iload_n dX8_error_30 rfl ?_
    obtain ⟨hK3, h⟩ := h
    obtain ⟨⟨h0, h1⟩, h⟩ := h
    refine e_iald dX8_error_31 hK3 h0 h1 ?_
    refine e_callV (Mc := m_X8_takes) (vs := [am_i (I b2 (Int.toNat l1))]) (st := []) dX8_error_32 ok_X8_takes rfl ⟨by decide, rfl⟩ mk_X8_183 im_X8_takes sl_X8_takes rfl rfl hK1 (by omega) (Nat.le_of_ble_eq_true rfl) (Nat.le_of_ble_eq_true rfl) (Nat.le_of_ble_eq_true rfl) am_xh_nx (am_C_mono h (fun v K4 N5 I6 P7 z8 h => ?_) (fun _ _ _ _ _ _ h => h))
    replace h := am_iv_or h
    obtain ⟨x9, rfl, h⟩ := h
    show am_E d m_X8_error 35 _ _ _ [am_i x9] K4 N5 I6 P7 z8 Q am_nx
    refine e_if_ne (tgt := 40) dX8_error_35 (by decide) (fun hc => ?_) (fun hc => ?_)
    · replace h := h.1 hc
      refine e_iinc dX8_error_40 rfl ?_
      refine e_goto (tgt := 17) dX8_error_43 (by decide) ?_
      exact e_forget (am_sub_k (am_sub_k am_sub_nil)) h
    · replace h := h.2 hc
      refine e_iload_n dX8_error_38 rfl ?_
      exact e_ret_i dX8_error_39 rfl (Nat.le_of_ble_eq_true rfl) (Nat.le_of_ble_eq_true rfl) h
set_option maxRecDepth 100000 in
set_option maxHeartbeats 4000000 in
theorem wf_X8_errorPosition {d : Nat} (hd : 1 ≤ d) {s : Nat} {K N : Nat → Nat} {I : Nat → Nat → Int} {P : Nat → Nat → Option Nat} {z : Nat} {Q : am_V → am_T} (h :
  K s = 8 ∧ ∀ I2, I2 = am_u2 I s 7 0 → am_C (d - 1) m_X8_error [am_r s] K N I2 P z (fun v K3 N4 I5 P6 z7 => am_iv v fun x8 =>
    Q (am_i x8) K3 N4 I5 P6 z7) am_nx) :
  am_C d m_X8_errorPosition [am_r s] K N I P z Q am_nx := by
  refine am_C_of ok_X8_errorPosition (fun v hv => am_v1all _ rfl v hv) (Nat.le_of_ble_eq_true rfl) ?_
  show am_E d m_X8_errorPosition 0 0 0 [some (am_r s)] [] K N I P z Q am_nx
  refine e_aload_n dX8_errorPosition_0 rfl trivial ?_
  refine e_iconst dX8_errorPosition_1 ?_
  obtain ⟨hK1, h⟩ := h
  refine e_puti dX8_errorPosition_2 fk_X8_25 rfl (Or.inl rfl) hK1 ?_
  replace h := h _ rfl
  generalize am_u2 I s 7 0 = I2 at h ⊢
  refine e_aload_n dX8_errorPosition_5 rfl trivial ?_
  refine e_callV (Mc := m_X8_error) (vs := []) (st := []) dX8_errorPosition_6 ok_X8_error rfl ⟨by decide, rfl⟩ mk_X8_186 im_X8_error sl_X8_error rfl rfl hK1 (by omega) (Nat.le_of_ble_eq_true rfl) (Nat.le_of_ble_eq_true rfl) (Nat.le_of_ble_eq_true rfl) am_xh_nx (am_C_mono h (fun v K3 N4 I5 P6 z7 h => ?_) (fun _ _ _ _ _ _ h => h))
  replace h := am_iv_or h
  obtain ⟨x8, rfl, h⟩ := h
  show am_E d m_X8_errorPosition 9 _ _ _ [am_i x8] K3 N4 I5 P6 z7 Q am_nx
  exact e_ret_i dX8_errorPosition_9 rfl (Nat.le_of_ble_eq_true rfl) (Nat.le_of_ble_eq_true rfl) h
def L_X8_load_25 (d : Nat) (l0 : Nat) (l1 : Int) (K N : Nat → Nat) (I : Nat → Nat → Int) (P : Nat → Nat → Option Nat) (z : Nat) (Q : am_V → am_T) : Prop := am_E d m_X8_load 25 0 0 [some (am_r l0), some (am_i l1)] [] K N I P z Q am_nx
set_option maxRecDepth 100000 in
set_option maxHeartbeats 4000000 in
theorem wf_X8_load {d : Nat} (hd : 1 ≤ d) {s : Nat} {K N : Nat → Nat} {I : Nat → Nat → Int} {P : Nat → Nat → Option Nat} {z : Nat} {Q : am_V → am_T} (h :
  K s = 8 ∧ ∀ I2, I2 = am_u2 I s 7 0 → am_C (d - 1) m_X8_error [am_r s] K N I2 P z (fun v K3 N4 I5 P6 z7 => am_iv v fun x8 =>
    ((x8 = (-1) →
    K3 s = 8 ∧ am_C (d - 1) m_X8_save [am_r s] K3 N4 I5 P6 z7 (fun _ K9 N10 I11 P12 z13 =>
      L_X8_load_25 d s 0 K9 N10 I11 P12 z13 Q) am_nx) ∧
    (¬ (x8 = (-1)) →
    K3 s = 8 ∧ am_C (d - 1) m_X8_refuse [am_r s, am_i 1] K3 N4 I5 P6 z7 (fun v K15 N16 I17 P18 z19 => am_iv v fun x21 =>
      Q (am_i x21) K15 N16 I17 P18 z19) am_nx))) am_nx) :
  am_C d m_X8_load [am_r s] K N I P z Q am_nx := by
  refine am_C_of ok_X8_load (fun v hv => am_v1all _ rfl v hv) (Nat.le_of_ble_eq_true rfl) ?_
  show am_E d m_X8_load 0 0 0 [some (am_r s), none] [] K N I P z Q am_nx
  refine e_aload_n dX8_load_0 rfl trivial ?_
  refine e_iconst dX8_load_1 ?_
  obtain ⟨hK1, h⟩ := h
  refine e_puti dX8_load_2 fk_X8_25 rfl (Or.inl rfl) hK1 ?_
  replace h := h _ rfl
  generalize am_u2 I s 7 0 = I2 at h ⊢
  refine e_aload_n dX8_load_5 rfl trivial ?_
  refine e_callV (Mc := m_X8_error) (vs := []) (st := []) dX8_load_6 ok_X8_error rfl ⟨by decide, rfl⟩ mk_X8_186 im_X8_error sl_X8_error rfl rfl hK1 (by omega) (Nat.le_of_ble_eq_true rfl) (Nat.le_of_ble_eq_true rfl) (Nat.le_of_ble_eq_true rfl) am_xh_nx (am_C_mono h (fun v K3 N4 I5 P6 z7 h => ?_) (fun _ _ _ _ _ _ h => h))
  replace h := am_iv_or h
  obtain ⟨x8, rfl, h⟩ := h
  show am_E d m_X8_load 9 _ _ _ [am_i x8] K3 N4 I5 P6 z7 Q am_nx
  refine e_iconst dX8_load_9 ?_
  refine e_icmp_eq (tgt := 19) dX8_load_10 (by decide) (fun hc => ?_) (fun hc => ?_)
  · replace h := h.1 hc
    refine e_aload_n dX8_load_19 rfl trivial ?_
    obtain ⟨hK14, h⟩ := h
    refine e_callV (Mc := m_X8_save) (vs := []) (st := []) dX8_load_20 ok_X8_save rfl ⟨by decide, rfl⟩ mk_X8_58 im_X8_save sl_X8_save rfl rfl hK14 (by omega) (Nat.le_of_ble_eq_true rfl) (Nat.le_of_ble_eq_true rfl) (Nat.le_of_ble_eq_true rfl) am_xh_nx (am_C_mono h (fun v K9 N10 I11 P12 z13 h => ?_) (fun _ _ _ _ _ _ h => h))
    show am_E d m_X8_load 23 _ _ _ [] K9 N10 I11 P12 z13 Q am_nx
    refine e_iconst dX8_load_23 ?_
    refine e_istore_n dX8_load_24 ?_
    exact e_forget (am_sub_k (am_sub_k am_sub_nil)) h
  · replace h := h.2 hc
    refine e_aload_n dX8_load_13 rfl trivial ?_
    refine e_iconst dX8_load_14 ?_
    obtain ⟨hK20, h⟩ := h
    refine e_callV (Mc := m_X8_refuse) (vs := [am_i 1]) (st := []) dX8_load_15 ok_X8_refuse rfl ⟨by decide, rfl⟩ mk_X8_44 im_X8_refuse sl_X8_refuse rfl rfl hK20 (by omega) (Nat.le_of_ble_eq_true rfl) (Nat.le_of_ble_eq_true rfl) (Nat.le_of_ble_eq_true rfl) am_xh_nx (am_C_mono h (fun v K15 N16 I17 P18 z19 h => ?_) (fun _ _ _ _ _ _ h => h))
    replace h := am_iv_or h
    obtain ⟨x21, rfl, h⟩ := h
    show am_E d m_X8_load 18 _ _ _ [am_i x21] K15 N16 I17 P18 z19 Q am_nx
    exact e_ret_i dX8_load_18 rfl (Nat.le_of_ble_eq_true rfl) (Nat.le_of_ble_eq_true rfl) h
set_option maxRecDepth 100000 in
set_option maxHeartbeats 4000000 in
theorem wf_X8_load_25 {d : Nat} {l0 : Nat} {l1 : Int} {K N : Nat → Nat} {I : Nat → Nat → Int} {P : Nat → Nat → Option Nat} {z : Nat} {Q : am_V → am_T} (h :
  K l0 = 8 ∧ ((I l0 6 ≤ l1 →
    ∃ b2, P l0 0 = some b2 ∧ K b2 = 10 ∧ (0 ≤ (11 : Int) ∧ (11 : Int) < N b2) ∧ ∀ I4, I4 = am_u2 I b2 (Int.toNat 11) (I l0 6) → ∀ I5, I5 = am_u2 I4 l0 6 0 → Q (am_i (I5 l0 13)) K N I5 P z) ∧
    (¬ (I l0 6 ≤ l1) →
    ∃ b6, P l0 0 = some b6 ∧ ∃ b7, P l0 3 = some b7 ∧ K b7 = 10 ∧ (0 ≤ l1 ∧ l1 < N b7) ∧ K b6 = 10 ∧ (0 ≤ am_wr (106 + l1) ∧ am_wr (106 + l1) < N b6) ∧ ∀ I10, I10 = am_u2 I b6 (Int.toNat (am_wr (106 + l1))) (I b7 (Int.toNat l1)) → L_X8_load_25 d l0 (am_wr (l1 + 1)) K N I10 P z Q))) :
  L_X8_load_25 d l0 l1 K N I P z Q := by
  unfold L_X8_load_25
  refine e_iload_n dX8_load_25 rfl ?_
  refine e_aload_n dX8_load_26 rfl trivial ?_
  obtain ⟨hK1, h⟩ := h
  refine e_geti dX8_load_27 fk_X8_143 rfl hK1 ?_
  refine e_icmp_ge (tgt := 54) dX8_load_30 (by decide) (fun hc => ?_) (fun hc => ?_)
  · replace h := h.1 hc
    refine e_aload_n dX8_load_54 rfl trivial ?_
    obtain ⟨b2, hb2, h⟩ := h
    refine e_getr1 dX8_load_55 fk_X8_7 rfl hK1 hb2 ?_
    refine e_bipush dX8_load_58 ?_
    refine e_aload_n dX8_load_60 rfl trivial ?_
    refine e_geti dX8_load_61 fk_X8_143 rfl hK1 ?_
    obtain ⟨hK3, h⟩ := h
    obtain ⟨⟨h0, h1⟩, h⟩ := h
    refine e_iast dX8_load_64 hK3 h0 h1 ?_
    replace h := h _ rfl
    generalize am_u2 I b2 (Int.toNat 11) (I l0 6) = I4 at h ⊢
    refine e_aload_n dX8_load_65 rfl trivial ?_
    refine e_iconst dX8_load_66 ?_
    refine e_puti dX8_load_67 fk_X8_143 rfl (Or.inl rfl) hK1 ?_
    replace h := h _ rfl
    generalize am_u2 I4 l0 6 0 = I5 at h ⊢
    refine e_aload_n dX8_load_70 rfl trivial ?_
    refine e_geti dX8_load_71 fk_X8_168 rfl hK1 ?_
    exact e_ret_i dX8_load_74 rfl (Nat.le_of_ble_eq_true rfl) (Nat.le_of_ble_eq_true rfl) h
  · replace h := h.2 hc
    refine e_aload_n dX8_load_33 rfl trivial ?_
    obtain ⟨b6, hb6, h⟩ := h
    refine e_getr1 dX8_load_34 fk_X8_7 rfl hK1 hb6 ?_
    refine e_bipush dX8_load_37 ?_
    refine e_iload_n dX8_load_39 rfl ?_
    refine e_iadd dX8_load_40 ?_
    refine e_aload_n dX8_load_41 rfl trivial ?_
    obtain ⟨b7, hb7, h⟩ := h
    refine e_getr1 dX8_load_42 fk_X8_19 rfl hK1 hb7 ?_
    refine e_iload_n dX8_load_45 rfl ?_
    obtain ⟨hK8, h⟩ := h
    obtain ⟨⟨h0, h1⟩, h⟩ := h
    refine e_iald dX8_load_46 hK8 h0 h1 ?_
    obtain ⟨hK9, h⟩ := h
    obtain ⟨⟨h0, h1⟩, h⟩ := h
    refine e_iast dX8_load_47 hK9 h0 h1 ?_
    replace h := h _ rfl
    generalize am_u2 I b6 (Int.toNat (am_wr (106 + l1))) (I b7 (Int.toNat l1)) = I10 at h ⊢
    refine e_iinc dX8_load_48 rfl ?_
    refine e_goto (tgt := 25) dX8_load_51 (by decide) ?_
    exact e_forget (am_sub_k (am_sub_k am_sub_nil)) h
