set_option maxRecDepth 100000 in
set_option maxHeartbeats 4000000 in
theorem wf_X0_init {d : Nat} (hd : 1 ≤ d) {s : Nat} {K N : Nat → Nat} {I : Nat → Nat → Int} {P : Nat → Nat → Option Nat} {z : Nat} {Q : am_V → am_T} (h :
  Q am_nl K N I P z) :
  am_C d m_X0_init [am_r s] K N I P z Q am_nx := by
  refine am_C_of ok_X0_init (fun v hv => am_v1all _ rfl v hv) (Nat.le_of_ble_eq_true rfl) ?_
  show am_E d m_X0_init 0 0 0 [some (am_r s)] [] K N I P z Q am_nx
  refine e_aload_n dX0_init_0 rfl trivial ?_
  refine e_oinit dX0_init_1 mk_X0_3 oi oc (by omega) (Nat.le_of_ble_eq_true rfl) ?_
  exact e_ret_v dX0_init_4 rfl (Nat.le_of_ble_eq_true rfl) (Nat.le_of_ble_eq_true rfl) h
set_option maxRecDepth 100000 in
set_option maxHeartbeats 4000000 in
theorem wf_X0_begin {d : Nat} {s : Nat} {a1 : Int} {a2 : Int} {a3 : Int} {K N : Nat → Nat} {I : Nat → Nat → Int} {P : Nat → Nat → Option Nat} {z : Nat} {Q : am_V → am_T} (h :
  K s = 0 ∧ ∀ I2, I2 = am_u2 I s 0 a1 → ∀ I3, I3 = am_u2 I2 s 1 a2 → ∀ I4, I4 = am_u2 I3 s 2 a3 → ∀ I5, I5 = am_u2 I4 s 3 0 → ∀ I6, I6 = am_u2 I5 s 4 0 → Q am_nl K N I6 P z) :
  am_C d m_X0_begin [am_r s, am_i a1, am_i a2, am_i a3] K N I P z Q am_nx := by
  refine am_C_of ok_X0_begin (fun v hv => am_v1all _ rfl v hv) (Nat.le_of_ble_eq_true rfl) ?_
  show am_E d m_X0_begin 0 0 0 [some (am_r s), some (am_i a1), some (am_i a2), some (am_i a3)] [] K N I P z Q am_nx
  refine e_aload_n dX0_begin_0 rfl trivial ?_
  refine e_iload_n dX0_begin_1 rfl ?_
  obtain ⟨hK1, h⟩ := h
  refine e_puti dX0_begin_2 fk_X0_9 rfl (Or.inl rfl) hK1 ?_
  replace h := h _ rfl
  generalize am_u2 I s 0 a1 = I2 at h ⊢
  refine e_aload_n dX0_begin_5 rfl trivial ?_
  refine e_iload_n dX0_begin_6 rfl ?_
  refine e_puti dX0_begin_7 fk_X0_15 rfl (Or.inl rfl) hK1 ?_
  replace h := h _ rfl
  generalize am_u2 I2 s 1 a2 = I3 at h ⊢
  refine e_aload_n dX0_begin_10 rfl trivial ?_
  refine e_iload_n dX0_begin_11 rfl ?_
  refine e_puti dX0_begin_12 fk_X0_18 rfl (Or.inl rfl) hK1 ?_
  replace h := h _ rfl
  generalize am_u2 I3 s 2 a3 = I4 at h ⊢
  refine e_aload_n dX0_begin_15 rfl trivial ?_
  refine e_iconst dX0_begin_16 ?_
  refine e_puti dX0_begin_17 fk_X0_21 rfl (Or.inl rfl) hK1 ?_
  replace h := h _ rfl
  generalize am_u2 I4 s 3 0 = I5 at h ⊢
  refine e_aload_n dX0_begin_20 rfl trivial ?_
  refine e_iconst dX0_begin_21 ?_
  refine e_puti dX0_begin_22 fk_X0_24 rfl (Or.inl rfl) hK1 ?_
  replace h := h _ rfl
  generalize am_u2 I5 s 4 0 = I6 at h ⊢
  exact e_ret_v dX0_begin_25 rfl (Nat.le_of_ble_eq_true rfl) (Nat.le_of_ble_eq_true rfl) h
set_option maxRecDepth 100000 in
set_option maxHeartbeats 4000000 in
theorem wf_X0_copyFrom {d : Nat} {s : Nat} {a1 : Nat} {K N : Nat → Nat} {I : Nat → Nat → Int} {P : Nat → Nat → Option Nat} {z : Nat} {Q : am_V → am_T} (h :
  K a1 = 0 ∧ K s = 0 ∧ ∀ I3, I3 = am_u2 I s 0 (I a1 0) → ∀ I4, I4 = am_u2 I3 s 1 (I3 a1 1) → ∀ I5, I5 = am_u2 I4 s 2 (I4 a1 2) → ∀ I6, I6 = am_u2 I5 s 3 (I5 a1 3) → ∀ I7, I7 = am_u2 I6 s 4 (I6 a1 4) → Q am_nl K N I7 P z) :
  am_C d m_X0_copyFrom [am_r s, am_r a1] K N I P z Q am_nx := by
  refine am_C_of ok_X0_copyFrom (fun v hv => am_v1all _ rfl v hv) (Nat.le_of_ble_eq_true rfl) ?_
  show am_E d m_X0_copyFrom 0 0 0 [some (am_r s), some (am_r a1)] [] K N I P z Q am_nx
  refine e_aload_n dX0_copyFrom_0 rfl trivial ?_
  refine e_aload_n dX0_copyFrom_1 rfl trivial ?_
  obtain ⟨hK1, h⟩ := h
  refine e_geti dX0_copyFrom_2 fk_X0_9 rfl hK1 ?_
  obtain ⟨hK2, h⟩ := h
  refine e_puti dX0_copyFrom_5 fk_X0_9 rfl (Or.inl rfl) hK2 ?_
  replace h := h _ rfl
  generalize am_u2 I s 0 (I a1 0) = I3 at h ⊢
  refine e_aload_n dX0_copyFrom_8 rfl trivial ?_
  refine e_aload_n dX0_copyFrom_9 rfl trivial ?_
  refine e_geti dX0_copyFrom_10 fk_X0_15 rfl hK1 ?_
  refine e_puti dX0_copyFrom_13 fk_X0_15 rfl (Or.inl rfl) hK2 ?_
  replace h := h _ rfl
  generalize am_u2 I3 s 1 (I3 a1 1) = I4 at h ⊢
  refine e_aload_n dX0_copyFrom_16 rfl trivial ?_
  refine e_aload_n dX0_copyFrom_17 rfl trivial ?_
  refine e_geti dX0_copyFrom_18 fk_X0_18 rfl hK1 ?_
  refine e_puti dX0_copyFrom_21 fk_X0_18 rfl (Or.inl rfl) hK2 ?_
  replace h := h _ rfl
  generalize am_u2 I4 s 2 (I4 a1 2) = I5 at h ⊢
  refine e_aload_n dX0_copyFrom_24 rfl trivial ?_
  refine e_aload_n dX0_copyFrom_25 rfl trivial ?_
  refine e_geti dX0_copyFrom_26 fk_X0_21 rfl hK1 ?_
  refine e_puti dX0_copyFrom_29 fk_X0_21 rfl (Or.inl rfl) hK2 ?_
  replace h := h _ rfl
  generalize am_u2 I5 s 3 (I5 a1 3) = I6 at h ⊢
  refine e_aload_n dX0_copyFrom_32 rfl trivial ?_
  refine e_aload_n dX0_copyFrom_33 rfl trivial ?_
  refine e_geti dX0_copyFrom_34 fk_X0_24 rfl hK1 ?_
  refine e_puti dX0_copyFrom_37 fk_X0_24 rfl (Or.inl rfl) hK2 ?_
  replace h := h _ rfl
  generalize am_u2 I6 s 4 (I6 a1 4) = I7 at h ⊢
  exact e_ret_v dX0_copyFrom_40 rfl (Nat.le_of_ble_eq_true rfl) (Nat.le_of_ble_eq_true rfl) h
set_option maxRecDepth 100000 in
set_option maxHeartbeats 4000000 in
theorem wf_X0_covers {d : Nat} {s : Nat} {a1 : Int} {K N : Nat → Nat} {I : Nat → Nat → Int} {P : Nat → Nat → Option Nat} {z : Nat} {Q : am_V → am_T} (h :
  K s = 0 ∧ ((a1 < I s 0 →
    Q (am_i 0) K N I P z) ∧
    (¬ (a1 < I s 0) →
    ((am_wr (I s 0 + I s 1) ≤ a1 →
      Q (am_i 0) K N I P z) ∧
      (¬ (am_wr (I s 0 + I s 1) ≤ a1) →
      Q (am_i 1) K N I P z))))) :
  am_C d m_X0_covers [am_r s, am_i a1] K N I P z Q am_nx := by
  refine am_C_of ok_X0_covers (fun v hv => am_v1all _ rfl v hv) (Nat.le_of_ble_eq_true rfl) ?_
  show am_E d m_X0_covers 0 0 0 [some (am_r s), some (am_i a1)] [] K N I P z Q am_nx
  refine e_iload_n dX0_covers_0 rfl ?_
  refine e_aload_n dX0_covers_1 rfl trivial ?_
  obtain ⟨hK1, h⟩ := h
  refine e_geti dX0_covers_2 fk_X0_9 rfl hK1 ?_
  refine e_icmp_lt (tgt := 25) dX0_covers_5 (by decide) (fun hc => ?_) (fun hc => ?_)
  · replace h := h.1 hc
    refine e_iconst dX0_covers_25 ?_
    exact e_ret_z dX0_covers_26 rfl (by decide) (Nat.le_of_ble_eq_true rfl) (Nat.le_of_ble_eq_true rfl) h
  · replace h := h.2 hc
    refine e_iload_n dX0_covers_8 rfl ?_
    refine e_aload_n dX0_covers_9 rfl trivial ?_
    refine e_geti dX0_covers_10 fk_X0_9 rfl hK1 ?_
    refine e_aload_n dX0_covers_13 rfl trivial ?_
    refine e_geti dX0_covers_14 fk_X0_15 rfl hK1 ?_
    refine e_iadd dX0_covers_17 ?_
    refine e_icmp_ge (tgt := 25) dX0_covers_18 (by decide) (fun hc => ?_) (fun hc => ?_)
    · replace h := h.1 hc
      refine e_iconst dX0_covers_25 ?_
      exact e_ret_z dX0_covers_26 rfl (by decide) (Nat.le_of_ble_eq_true rfl) (Nat.le_of_ble_eq_true rfl) h
    · replace h := h.2 hc
      refine e_iconst dX0_covers_21 ?_
      refine e_goto (tgt := 26) dX0_covers_22 (by decide) ?_
      exact e_ret_z dX0_covers_26 rfl (by decide) (Nat.le_of_ble_eq_true rfl) (Nat.le_of_ble_eq_true rfl) h
set_option maxRecDepth 100000 in
set_option maxHeartbeats 4000000 in
theorem wf_X0_takes {d : Nat} {s : Nat} {K N : Nat → Nat} {I : Nat → Nat → Int} {P : Nat → Nat → Option Nat} {z : Nat} {Q : am_V → am_T} (h :
  K s = 0 ∧ ((I s 3 < I s 2 →
    ∀ I2, I2 = am_u2 I s 3 (am_wr (I s 3 + 1)) → ∀ I3, I3 = am_u2 I2 s 4 (am_wr (I2 s 4 + 1)) → Q (am_i 1) K N I3 P z) ∧
    (¬ (I s 3 < I s 2) →
    Q (am_i 0) K N I P z))) :
  am_C d m_X0_takes [am_r s] K N I P z Q am_nx := by
  refine am_C_of ok_X0_takes (fun v hv => am_v1all _ rfl v hv) (Nat.le_of_ble_eq_true rfl) ?_
  show am_E d m_X0_takes 0 0 0 [some (am_r s)] [] K N I P z Q am_nx
  refine e_aload_n dX0_takes_0 rfl trivial ?_
  obtain ⟨hK1, h⟩ := h
  refine e_geti dX0_takes_1 fk_X0_21 rfl hK1 ?_
  refine e_aload_n dX0_takes_4 rfl trivial ?_
  refine e_geti dX0_takes_5 fk_X0_18 rfl hK1 ?_
  refine e_icmp_lt (tgt := 13) dX0_takes_8 (by decide) (fun hc => ?_) (fun hc => ?_)
  · replace h := h.1 hc
    refine e_aload_n dX0_takes_13 rfl trivial ?_
    refine e_dup dX0_takes_14 rfl ?_
    refine e_geti dX0_takes_15 fk_X0_21 rfl hK1 ?_
    refine e_iconst dX0_takes_18 ?_
    refine e_iadd dX0_takes_19 ?_
    refine e_puti dX0_takes_20 fk_X0_21 rfl (Or.inl rfl) hK1 ?_
    replace h := h _ rfl
    generalize am_u2 I s 3 (am_wr (I s 3 + 1)) = I2 at h ⊢
    refine e_aload_n dX0_takes_23 rfl trivial ?_
    refine e_dup dX0_takes_24 rfl ?_
    refine e_geti dX0_takes_25 fk_X0_24 rfl hK1 ?_
    refine e_iconst dX0_takes_28 ?_
    refine e_iadd dX0_takes_29 ?_
    refine e_puti dX0_takes_30 fk_X0_24 rfl (Or.inl rfl) hK1 ?_
    replace h := h _ rfl
    generalize am_u2 I2 s 4 (am_wr (I2 s 4 + 1)) = I3 at h ⊢
    refine e_iconst dX0_takes_33 ?_
    exact e_ret_z dX0_takes_34 rfl (by decide) (Nat.le_of_ble_eq_true rfl) (Nat.le_of_ble_eq_true rfl) h
  · replace h := h.2 hc
    refine e_iconst dX0_takes_11 ?_
    exact e_ret_z dX0_takes_12 rfl (by decide) (Nat.le_of_ble_eq_true rfl) (Nat.le_of_ble_eq_true rfl) h
set_option maxRecDepth 100000 in
set_option maxHeartbeats 4000000 in
theorem wf_X0_property {d : Nat} {s : Nat} {a1 : Int} {K N : Nat → Nat} {I : Nat → Nat → Int} {P : Nat → Nat → Option Nat} {z : Nat} {Q : am_V → am_T} (h :
  ((a1 = 0 →
    K s = 0 ∧ Q (am_i (I s 0)) K N I P z) ∧
    (a1 = 1 →
    K s = 0 ∧ Q (am_i (I s 1)) K N I P z) ∧
    (a1 = 2 →
    K s = 0 ∧ Q (am_i (I s 2)) K N I P z) ∧
    (a1 = 3 →
    K s = 0 ∧ Q (am_i (I s 3)) K N I P z) ∧
    (a1 = 4 →
    K s = 0 ∧ Q (am_i (I s 4)) K N I P z) ∧
    ((a1 < 0 ∨ 4 < a1) →
    Q (am_i (-1)) K N I P z))) :
  am_C d m_X0_property [am_r s, am_i a1] K N I P z Q am_nx := by
  refine am_C_of ok_X0_property (fun v hv => am_v1all _ rfl v hv) (Nat.le_of_ble_eq_true rfl) ?_
  show am_E d m_X0_property 0 0 0 [some (am_r s), some (am_i a1)] [] K N I P z Q am_nx
  refine e_iload_n dX0_property_0 rfl ?_
  refine e_tsw dX0_property_1 (by decide) (by decide) (by decide) ?_ ?_
  · refine ⟨fun hc => ?_, ⟨fun hc => ?_, ⟨fun hc => ?_, ⟨fun hc => ?_, ⟨fun hc => ?_, trivial⟩⟩⟩⟩⟩
    · have h := h.1 (by omega)
      show am_E _ _ 36 _ _ _ _ _ _ _ _ _ _ _
      refine e_aload_n dX0_property_36 rfl trivial ?_
      obtain ⟨hK1, h⟩ := h
      refine e_geti dX0_property_37 fk_X0_9 rfl hK1 ?_
      exact e_ret_i dX0_property_40 rfl (Nat.le_of_ble_eq_true rfl) (Nat.le_of_ble_eq_true rfl) h
    · have h := h.2.1 (by omega)
      show am_E _ _ 41 _ _ _ _ _ _ _ _ _ _ _
      refine e_aload_n dX0_property_41 rfl trivial ?_
      obtain ⟨hK2, h⟩ := h
      refine e_geti dX0_property_42 fk_X0_15 rfl hK2 ?_
      exact e_ret_i dX0_property_45 rfl (Nat.le_of_ble_eq_true rfl) (Nat.le_of_ble_eq_true rfl) h
    · have h := h.2.2.1 (by omega)
      show am_E _ _ 46 _ _ _ _ _ _ _ _ _ _ _
      refine e_aload_n dX0_property_46 rfl trivial ?_
      obtain ⟨hK3, h⟩ := h
      refine e_geti dX0_property_47 fk_X0_18 rfl hK3 ?_
      exact e_ret_i dX0_property_50 rfl (Nat.le_of_ble_eq_true rfl) (Nat.le_of_ble_eq_true rfl) h
    · have h := h.2.2.2.1 (by omega)
      show am_E _ _ 51 _ _ _ _ _ _ _ _ _ _ _
      refine e_aload_n dX0_property_51 rfl trivial ?_
      obtain ⟨hK4, h⟩ := h
      refine e_geti dX0_property_52 fk_X0_21 rfl hK4 ?_
      exact e_ret_i dX0_property_55 rfl (Nat.le_of_ble_eq_true rfl) (Nat.le_of_ble_eq_true rfl) h
    · have h := h.2.2.2.2.1 (by omega)
      show am_E _ _ 56 _ _ _ _ _ _ _ _ _ _ _
      refine e_aload_n dX0_property_56 rfl trivial ?_
      obtain ⟨hK5, h⟩ := h
      refine e_geti dX0_property_57 fk_X0_24 rfl hK5 ?_
      exact e_ret_i dX0_property_60 rfl (Nat.le_of_ble_eq_true rfl) (Nat.le_of_ble_eq_true rfl) h
  · intro hc
    have h := h.2.2.2.2.2 hc
    show am_E _ _ 61 _ _ _ _ _ _ _ _ _ _ _
    refine e_iconst dX0_property_61 ?_
    exact e_ret_i dX0_property_62 rfl (Nat.le_of_ble_eq_true rfl) (Nat.le_of_ble_eq_true rfl) h
set_option maxRecDepth 100000 in
set_option maxHeartbeats 4000000 in
theorem wf_X1_init {d : Nat} (hd : 1 ≤ d) {s : Nat} {K N : Nat → Nat} {I : Nat → Nat → Int} {P : Nat → Nat → Option Nat} {z : Nat} {Q : am_V → am_T} (h :
  (0 + 1 ≤ 1 ∧ 0 + 3000 ≤ 3000) ∧ ∀ K1 N2 b3 z4, K1 = am_u1 K (z + 4) 10 → N2 = am_u1 N (z + 4) (Int.toNat 3000) → b3 = z + 4 → z4 = z + 1 → K1 s = 1 ∧ ∀ P7, P7 = am_p2 P s 0 (some b3) → (0 + 1 ≤ 1 ∧ 0 + 3000 ≤ 3000) ∧ Q am_nl K1 N2 I P7 z4) :
  am_C d m_X1_init [am_r s] K N I P z Q am_nx := by
  refine am_C_of ok_X1_init (fun v hv => am_v1all _ rfl v hv) (Nat.le_of_ble_eq_true rfl) ?_
  show am_E d m_X1_init 0 0 0 [some (am_r s)] [] K N I P z Q am_nx
  refine e_aload_n dX1_init_0 rfl trivial ?_
  refine e_oinit dX1_init_1 mk_X1_3 oi oc (by omega) (Nat.le_of_ble_eq_true rfl) ?_
  refine e_aload_n dX1_init_4 rfl trivial ?_
  refine e_sipush dX1_init_5 ?_
  obtain ⟨⟨hk9, hn9⟩, h⟩ := h
  refine e_newa_int dX1_init_8 ac_int (by decide) (by decide) hk9 hn9 ?_
  replace h := h _ _ _ _ rfl rfl rfl rfl
  have hK5 : (am_u1 K (z + 4) 10) (z + 4) = 10 := by simp [am_u1]
  generalize eK1 : am_u1 K (z + 4) 10 = K1 at h hK5 ⊢
  generalize eN2 : am_u1 N (z + 4) (Int.toNat 3000) = N2 at h ⊢
  generalize eb3 : z + 4 = b3 at h hK5 ⊢
  generalize ez4 : z + 1 = z4 at h ⊢
  obtain ⟨hK6, h⟩ := h
  refine e_putrF1 dX1_init_10 fk_X1_9 rfl rfl rfl rfl hK6 ?_
  replace h := h _ rfl
  generalize am_p2 P s 0 (some b3) = P7 at h ⊢
  obtain ⟨⟨hk9, hn9⟩, h⟩ := h
  exact e_ret_v dX1_init_13 rfl hk9 hn9 h
def L_X1_keep_28 (d : Nat) (l0 : Nat) (l1 : Nat) (l2 : Int) (l3 : Int) (K N : Nat → Nat) (I : Nat → Nat → Int) (P : Nat → Nat → Option Nat) (z : Nat) (Q : am_V → am_T) : Prop := am_E d m_X1_keep 28 0 0 [some (am_r l0), some (am_r l1), some (am_i l2), some (am_i l3)] [] K N I P z Q am_nx
set_option maxRecDepth 100000 in
set_option maxHeartbeats 4000000 in
theorem wf_X1_keep {d : Nat} {s : Nat} {a1 : Nat} {K N : Nat → Nat} {I : Nat → Nat → Int} {P : Nat → Nat → Option Nat} {z : Nat} {Q : am_V → am_T} (h :
  K a1 = 2 ∧ ((I a1 0 < 0 →
    Q am_nl K N I P z) ∧
    (¬ (I a1 0 < 0) →
    ((I a1 0 < 300 →
      L_X1_keep_28 d s a1 (am_wr (I a1 0 * 10)) 0 K N I P z Q) ∧
      (¬ (I a1 0 < 300) →
      Q am_nl K N I P z))))) :
  am_C d m_X1_keep [am_r s, am_r a1] K N I P z Q am_nx := by
  refine am_C_of ok_X1_keep (fun v hv => am_v1all _ rfl v hv) (Nat.le_of_ble_eq_true rfl) ?_
  show am_E d m_X1_keep 0 0 0 [some (am_r s), some (am_r a1), none, none] [] K N I P z Q am_nx
  refine e_aload_n dX1_keep_0 rfl trivial ?_
  obtain ⟨hK1, h⟩ := h
  refine e_geti dX1_keep_1 fk_X1_15 rfl hK1 ?_
  refine e_if_lt (tgt := 17) dX1_keep_4 (by decide) (fun hc => ?_) (fun hc => ?_)
  · replace h := h.1 hc
    exact e_ret_v dX1_keep_17 rfl (Nat.le_of_ble_eq_true rfl) (Nat.le_of_ble_eq_true rfl) h
  · replace h := h.2 hc
    refine e_aload_n dX1_keep_7 rfl trivial ?_
    refine e_geti dX1_keep_8 fk_X1_15 rfl hK1 ?_
    refine e_sipush dX1_keep_11 ?_
    refine e_icmp_lt (tgt := 18) dX1_keep_14 (by decide) (fun hc => ?_) (fun hc => ?_)
    · replace h := h.1 hc
      refine e_aload_n dX1_keep_18 rfl trivial ?_
      refine e_geti dX1_keep_19 fk_X1_15 rfl hK1 ?_
      refine e_bipush dX1_keep_22 ?_
      refine e_imul dX1_keep_24 ?_
      refine e_istore_n dX1_keep_25 ?_
      refine e_iconst dX1_keep_26 ?_
      refine e_istore_n dX1_keep_27 ?_
      exact e_forget (am_sub_k (am_sub_k (am_sub_k (am_sub_k am_sub_nil)))) h
    · replace h := h.2 hc
      exact e_ret_v dX1_keep_17 rfl (Nat.le_of_ble_eq_true rfl) (Nat.le_of_ble_eq_true rfl) h
set_option maxRecDepth 100000 in
set_option maxHeartbeats 4000000 in
theorem wf_X1_keep_28 {d : Nat} (hd : 1 ≤ d) {l0 : Nat} {l1 : Nat} {l2 : Int} {l3 : Int} {K N : Nat → Nat} {I : Nat → Nat → Int} {P : Nat → Nat → Option Nat} {z : Nat} {Q : am_V → am_T} (h :
  ((10 ≤ l3 →
    Q am_nl K N I P z) ∧
    (¬ (10 ≤ l3) →
    K l0 = 1 ∧ ∃ b2, P l0 0 = some b2 ∧ K l1 = 2 ∧ am_C (d - 1) m_X2_property [am_r l1, am_i l3] K N I P z (fun v K3 N4 I5 P6 z7 => am_iv v fun x9 =>
      K3 b2 = 10 ∧ (0 ≤ am_wr (l2 + l3) ∧ am_wr (l2 + l3) < N4 b2) ∧ ∀ I11, I11 = am_u2 I5 b2 (Int.toNat (am_wr (l2 + l3))) x9 → L_X1_keep_28 d l0 l1 l2 (am_wr (l3 + 1)) K3 N4 I11 P6 z7 Q) am_nx))) :
  L_X1_keep_28 d l0 l1 l2 l3 K N I P z Q := by
  unfold L_X1_keep_28
  refine e_iload_n dX1_keep_28 rfl ?_
  refine e_bipush dX1_keep_29 ?_
  refine e_icmp_ge (tgt := 53) dX1_keep_31 (by decide) (fun hc => ?_) (fun hc => ?_)
  · replace h := h.1 hc
    exact e_ret_v dX1_keep_53 rfl (Nat.le_of_ble_eq_true rfl) (Nat.le_of_ble_eq_true rfl) h
  · replace h := h.2 hc
    refine e_aload_n dX1_keep_34 rfl trivial ?_
    obtain ⟨hK1, h⟩ := h
    obtain ⟨b2, hb2, h⟩ := h
    refine e_getr1 dX1_keep_35 fk_X1_9 rfl hK1 hb2 ?_
    refine e_iload_n dX1_keep_38 rfl ?_
    refine e_iload_n dX1_keep_39 rfl ?_
    refine e_iadd dX1_keep_40 ?_
    refine e_aload_n dX1_keep_41 rfl trivial ?_
    refine e_iload_n dX1_keep_42 rfl ?_
    obtain ⟨hK8, h⟩ := h
    refine e_callV (Mc := m_X2_property) (vs := [am_i l3]) (st := [am_i (am_wr (l2 + l3)), am_r b2]) dX1_keep_43 ok_X2_property rfl ⟨by decide, rfl⟩ mk_X1_21 im_X2_property sl_X2_property rfl rfl hK8 (by omega) (Nat.le_of_ble_eq_true rfl) (Nat.le_of_ble_eq_true rfl) (Nat.le_of_ble_eq_true rfl) am_xh_nx (am_C_mono h (fun v K3 N4 I5 P6 z7 h => ?_) (fun _ _ _ _ _ _ h => h))
    replace h := am_iv_or h
    obtain ⟨x9, rfl, h⟩ := h
    show am_E d m_X1_keep 46 _ _ _ [am_i x9, am_i (am_wr (l2 + l3)), am_r b2] K3 N4 I5 P6 z7 Q am_nx
    obtain ⟨hK10, h⟩ := h
    obtain ⟨⟨h0, h1⟩, h⟩ := h
    refine e_iast dX1_keep_46 hK10 h0 h1 ?_
    replace h := h _ rfl
    generalize am_u2 I5 b2 (Int.toNat (am_wr (l2 + l3))) x9 = I11 at h ⊢
    refine e_iinc dX1_keep_47 rfl ?_
    refine e_goto (tgt := 28) dX1_keep_50 (by decide) ?_
    exact e_forget (am_sub_k (am_sub_k (am_sub_k (am_sub_k am_sub_nil)))) h
set_option maxRecDepth 100000 in
set_option maxHeartbeats 4000000 in
theorem wf_X1_propertyOf {d : Nat} {s : Nat} {a1 : Int} {a2 : Int} {K N : Nat → Nat} {I : Nat → Nat → Int} {P : Nat → Nat → Option Nat} {z : Nat} {Q : am_V → am_T} (h :
  ((a1 < 0 →
    Q (am_i (-1)) K N I P z) ∧
    (¬ (a1 < 0) →
    ((300 ≤ a1 →
      Q (am_i (-1)) K N I P z) ∧
      (¬ (300 ≤ a1) →
      ((a2 < 0 →
        Q (am_i (-1)) K N I P z) ∧
        (¬ (a2 < 0) →
        ((a2 < 10 →
          K s = 1 ∧ ∃ b2, P s 0 = some b2 ∧ K b2 = 10 ∧ (0 ≤ am_wr ((am_wr (a1 * 10)) + a2) ∧ am_wr ((am_wr (a1 * 10)) + a2) < N b2) ∧ Q (am_i (I b2 (Int.toNat (am_wr ((am_wr (a1 * 10)) + a2))))) K N I P z) ∧
          (¬ (a2 < 10) →
          Q (am_i (-1)) K N I P z))))))))) :
  am_C d m_X1_propertyOf [am_r s, am_i a1, am_i a2] K N I P z Q am_nx := by
  refine am_C_of ok_X1_propertyOf (fun v hv => am_v1all _ rfl v hv) (Nat.le_of_ble_eq_true rfl) ?_
  show am_E d m_X1_propertyOf 0 0 0 [some (am_r s), some (am_i a1), some (am_i a2)] [] K N I P z Q am_nx
  refine e_iload_n dX1_propertyOf_0 rfl ?_
  refine e_if_lt (tgt := 21) dX1_propertyOf_1 (by decide) (fun hc => ?_) (fun hc => ?_)
  · replace h := h.1 hc
    refine e_iconst dX1_propertyOf_21 ?_
    exact e_ret_i dX1_propertyOf_22 rfl (Nat.le_of_ble_eq_true rfl) (Nat.le_of_ble_eq_true rfl) h
  · replace h := h.2 hc
    refine e_iload_n dX1_propertyOf_4 rfl ?_
    refine e_sipush dX1_propertyOf_5 ?_
    refine e_icmp_ge (tgt := 21) dX1_propertyOf_8 (by decide) (fun hc => ?_) (fun hc => ?_)
    · replace h := h.1 hc
      refine e_iconst dX1_propertyOf_21 ?_
      exact e_ret_i dX1_propertyOf_22 rfl (Nat.le_of_ble_eq_true rfl) (Nat.le_of_ble_eq_true rfl) h
    · replace h := h.2 hc
      refine e_iload_n dX1_propertyOf_11 rfl ?_
      refine e_if_lt (tgt := 21) dX1_propertyOf_12 (by decide) (fun hc => ?_) (fun hc => ?_)
      · replace h := h.1 hc
        refine e_iconst dX1_propertyOf_21 ?_
        exact e_ret_i dX1_propertyOf_22 rfl (Nat.le_of_ble_eq_true rfl) (Nat.le_of_ble_eq_true rfl) h
      · replace h := h.2 hc
        refine e_iload_n dX1_propertyOf_15 rfl ?_
        refine e_bipush dX1_propertyOf_16 ?_
        refine e_icmp_lt (tgt := 23) dX1_propertyOf_18 (by decide) (fun hc => ?_) (fun hc => ?_)
        · replace h := h.1 hc
          refine e_aload_n dX1_propertyOf_23 rfl trivial ?_
          obtain ⟨hK1, h⟩ := h
          obtain ⟨b2, hb2, h⟩ := h
          refine e_getr1 dX1_propertyOf_24 fk_X1_9 rfl hK1 hb2 ?_
          refine e_iload_n dX1_propertyOf_27 rfl ?_
          refine e_bipush dX1_propertyOf_28 ?_
          refine e_imul dX1_propertyOf_30 ?_
          refine e_iload_n dX1_propertyOf_31 rfl ?_
          refine e_iadd dX1_propertyOf_32 ?_
          obtain ⟨hK3, h⟩ := h
          obtain ⟨⟨h0, h1⟩, h⟩ := h
          refine e_iald dX1_propertyOf_33 hK3 h0 h1 ?_
          exact e_ret_i dX1_propertyOf_34 rfl (Nat.le_of_ble_eq_true rfl) (Nat.le_of_ble_eq_true rfl) h
        · replace h := h.2 hc
          refine e_iconst dX1_propertyOf_21 ?_
          exact e_ret_i dX1_propertyOf_22 rfl (Nat.le_of_ble_eq_true rfl) (Nat.le_of_ble_eq_true rfl) h
set_option maxRecDepth 100000 in
set_option maxHeartbeats 4000000 in
theorem wf_X2_init {d : Nat} (hd : 1 ≤ d) {s : Nat} {K N : Nat → Nat} {I : Nat → Nat → Int} {P : Nat → Nat → Option Nat} {z : Nat} {Q : am_V → am_T} (h :
  K s = 2 ∧ ∀ I2, I2 = am_u2 I s 4 (-1) → ∀ I3, I3 = am_u2 I2 s 11 (-1) → Q am_nl K N I3 P z) :
  am_C d m_X2_init [am_r s] K N I P z Q am_nx := by
  refine am_C_of ok_X2_init (fun v hv => am_v1all _ rfl v hv) (Nat.le_of_ble_eq_true rfl) ?_
  show am_E d m_X2_init 0 0 0 [some (am_r s)] [] K N I P z Q am_nx
  refine e_aload_n dX2_init_0 rfl trivial ?_
  refine e_oinit dX2_init_1 mk_X2_3 oi oc (by omega) (Nat.le_of_ble_eq_true rfl) ?_
  refine e_aload_n dX2_init_4 rfl trivial ?_
  refine e_iconst dX2_init_5 ?_
  obtain ⟨hK1, h⟩ := h
  refine e_puti dX2_init_6 fk_X2_9 rfl (Or.inl rfl) hK1 ?_
  replace h := h _ rfl
  generalize am_u2 I s 4 (-1) = I2 at h ⊢
  refine e_aload_n dX2_init_9 rfl trivial ?_
  refine e_iconst dX2_init_10 ?_
  refine e_puti dX2_init_11 fk_X2_15 rfl (Or.inl rfl) hK1 ?_
  replace h := h _ rfl
  generalize am_u2 I2 s 11 (-1) = I3 at h ⊢
  exact e_ret_v dX2_init_14 rfl (Nat.le_of_ble_eq_true rfl) (Nat.le_of_ble_eq_true rfl) h
set_option maxRecDepth 100000 in
set_option maxHeartbeats 4000000 in
theorem wf_X2_begin {d : Nat} {s : Nat} {a1 : Int} {a2 : Int} {K N : Nat → Nat} {I : Nat → Nat → Int} {P : Nat → Nat → Option Nat} {z : Nat} {Q : am_V → am_T} (h :
  K s = 2 ∧ ∀ I2, I2 = am_u2 I s 0 a1 → ∀ I3, I3 = am_u2 I2 s 1 a2 → ∀ I4, I4 = am_u2 I3 s 2 0 → ∀ I5, I5 = am_u2 I4 s 3 0 → ∀ I6, I6 = am_u2 I5 s 4 (-1) → ∀ I7, I7 = am_u2 I6 s 5 0 → ∀ I8, I8 = am_u2 I7 s 6 0 → ∀ I9, I9 = am_u2 I8 s 7 0 → ∀ I10, I10 = am_u2 I9 s 8 0 → ∀ I11, I11 = am_u2 I10 s 9 0 → ∀ I12, I12 = am_u2 I11 s 10 0 → ∀ I13, I13 = am_u2 I12 s 11 (-1) → Q am_nl K N I13 P z) :
  am_C d m_X2_begin [am_r s, am_i a1, am_i a2] K N I P z Q am_nx := by
  refine am_C_of ok_X2_begin (fun v hv => am_v1all _ rfl v hv) (Nat.le_of_ble_eq_true rfl) ?_
  show am_E d m_X2_begin 0 0 0 [some (am_r s), some (am_i a1), some (am_i a2)] [] K N I P z Q am_nx
  refine e_aload_n dX2_begin_0 rfl trivial ?_
  refine e_iload_n dX2_begin_1 rfl ?_
  obtain ⟨hK1, h⟩ := h
  refine e_puti dX2_begin_2 fk_X2_18 rfl (Or.inl rfl) hK1 ?_
  replace h := h _ rfl
  generalize am_u2 I s 0 a1 = I2 at h ⊢
  refine e_aload_n dX2_begin_5 rfl trivial ?_
  refine e_iload_n dX2_begin_6 rfl ?_
  refine e_puti dX2_begin_7 fk_X2_21 rfl (Or.inl rfl) hK1 ?_
  replace h := h _ rfl
  generalize am_u2 I2 s 1 a2 = I3 at h ⊢
  refine e_aload_n dX2_begin_10 rfl trivial ?_
  refine e_iconst dX2_begin_11 ?_
  refine e_puti dX2_begin_12 fk_X2_24 rfl (Or.inl rfl) hK1 ?_
  replace h := h _ rfl
  generalize am_u2 I3 s 2 0 = I4 at h ⊢
  refine e_aload_n dX2_begin_15 rfl trivial ?_
  refine e_iconst dX2_begin_16 ?_
  refine e_puti dX2_begin_17 fk_X2_27 rfl (Or.inl rfl) hK1 ?_
  replace h := h _ rfl
  generalize am_u2 I4 s 3 0 = I5 at h ⊢
  refine e_aload_n dX2_begin_20 rfl trivial ?_
  refine e_iconst dX2_begin_21 ?_
  refine e_puti dX2_begin_22 fk_X2_9 rfl (Or.inl rfl) hK1 ?_
  replace h := h _ rfl
  generalize am_u2 I5 s 4 (-1) = I6 at h ⊢
  refine e_aload_n dX2_begin_25 rfl trivial ?_
  refine e_iconst dX2_begin_26 ?_
  refine e_puti dX2_begin_27 fk_X2_30 rfl (Or.inr ⟨rfl, by decide⟩) hK1 ?_
  replace h := h _ rfl
  generalize am_u2 I6 s 5 0 = I7 at h ⊢
  refine e_aload_n dX2_begin_30 rfl trivial ?_
  refine e_iconst dX2_begin_31 ?_
  refine e_puti dX2_begin_32 fk_X2_34 rfl (Or.inr ⟨rfl, by decide⟩) hK1 ?_
  replace h := h _ rfl
  generalize am_u2 I7 s 6 0 = I8 at h ⊢
  refine e_aload_n dX2_begin_35 rfl trivial ?_
  refine e_iconst dX2_begin_36 ?_
  refine e_puti dX2_begin_37 fk_X2_37 rfl (Or.inl rfl) hK1 ?_
  replace h := h _ rfl
  generalize am_u2 I8 s 7 0 = I9 at h ⊢
  refine e_aload_n dX2_begin_40 rfl trivial ?_
  refine e_iconst dX2_begin_41 ?_
  refine e_puti dX2_begin_42 fk_X2_40 rfl (Or.inl rfl) hK1 ?_
  replace h := h _ rfl
  generalize am_u2 I9 s 8 0 = I10 at h ⊢
  refine e_aload_n dX2_begin_45 rfl trivial ?_
  refine e_iconst dX2_begin_46 ?_
  refine e_puti dX2_begin_47 fk_X2_43 rfl (Or.inl rfl) hK1 ?_
  replace h := h _ rfl
  generalize am_u2 I10 s 9 0 = I11 at h ⊢
  refine e_aload_n dX2_begin_50 rfl trivial ?_
  refine e_iconst dX2_begin_51 ?_
  refine e_puti dX2_begin_52 fk_X2_46 rfl (Or.inl rfl) hK1 ?_
  replace h := h _ rfl
  generalize am_u2 I11 s 10 0 = I12 at h ⊢
  refine e_aload_n dX2_begin_55 rfl trivial ?_
  refine e_iconst dX2_begin_56 ?_
  refine e_puti dX2_begin_57 fk_X2_15 rfl (Or.inl rfl) hK1 ?_
  replace h := h _ rfl
  generalize am_u2 I12 s 11 (-1) = I13 at h ⊢
  exact e_ret_v dX2_begin_60 rfl (Nat.le_of_ble_eq_true rfl) (Nat.le_of_ble_eq_true rfl) h
set_option maxRecDepth 100000 in
set_option maxHeartbeats 4000000 in
theorem wf_X2_copyFrom {d : Nat} {s : Nat} {a1 : Nat} {K N : Nat → Nat} {I : Nat → Nat → Int} {P : Nat → Nat → Option Nat} {z : Nat} {Q : am_V → am_T} (h :
  K a1 = 2 ∧ K s = 2 ∧ ∀ I3, I3 = am_u2 I s 0 (I a1 0) → ∀ I4, I4 = am_u2 I3 s 1 (I3 a1 1) → ∀ I5, I5 = am_u2 I4 s 2 (I4 a1 2) → ∀ I6, I6 = am_u2 I5 s 3 (I5 a1 3) → ∀ I7, I7 = am_u2 I6 s 4 (I6 a1 4) → (I7 a1 5 = 0 ∨ I7 a1 5 = 1) ∧ ∀ I8, I8 = am_u2 I7 s 5 (I7 a1 5) → (I8 a1 6 = 0 ∨ I8 a1 6 = 1) ∧ ∀ I9, I9 = am_u2 I8 s 6 (I8 a1 6) → ∀ I10, I10 = am_u2 I9 s 7 (I9 a1 7) → ∀ I11, I11 = am_u2 I10 s 8 (I10 a1 8) → ∀ I12, I12 = am_u2 I11 s 9 (I11 a1 9) → ∀ I13, I13 = am_u2 I12 s 10 (I12 a1 10) → ∀ I14, I14 = am_u2 I13 s 11 (I13 a1 11) → Q am_nl K N I14 P z) :
  am_C d m_X2_copyFrom [am_r s, am_r a1] K N I P z Q am_nx := by
  refine am_C_of ok_X2_copyFrom (fun v hv => am_v1all _ rfl v hv) (Nat.le_of_ble_eq_true rfl) ?_
  show am_E d m_X2_copyFrom 0 0 0 [some (am_r s), some (am_r a1)] [] K N I P z Q am_nx
  refine e_aload_n dX2_copyFrom_0 rfl trivial ?_
  refine e_aload_n dX2_copyFrom_1 rfl trivial ?_
  obtain ⟨hK1, h⟩ := h
  refine e_geti dX2_copyFrom_2 fk_X2_18 rfl hK1 ?_
  obtain ⟨hK2, h⟩ := h
  refine e_puti dX2_copyFrom_5 fk_X2_18 rfl (Or.inl rfl) hK2 ?_
  replace h := h _ rfl
  generalize am_u2 I s 0 (I a1 0) = I3 at h ⊢
  refine e_aload_n dX2_copyFrom_8 rfl trivial ?_
  refine e_aload_n dX2_copyFrom_9 rfl trivial ?_
  refine e_geti dX2_copyFrom_10 fk_X2_21 rfl hK1 ?_
  refine e_puti dX2_copyFrom_13 fk_X2_21 rfl (Or.inl rfl) hK2 ?_
  replace h := h _ rfl
  generalize am_u2 I3 s 1 (I3 a1 1) = I4 at h ⊢
  refine e_aload_n dX2_copyFrom_16 rfl trivial ?_
  refine e_aload_n dX2_copyFrom_17 rfl trivial ?_
  refine e_geti dX2_copyFrom_18 fk_X2_24 rfl hK1 ?_
  refine e_puti dX2_copyFrom_21 fk_X2_24 rfl (Or.inl rfl) hK2 ?_
  replace h := h _ rfl
  generalize am_u2 I4 s 2 (I4 a1 2) = I5 at h ⊢
  refine e_aload_n dX2_copyFrom_24 rfl trivial ?_
  refine e_aload_n dX2_copyFrom_25 rfl trivial ?_
  refine e_geti dX2_copyFrom_26 fk_X2_27 rfl hK1 ?_
  refine e_puti dX2_copyFrom_29 fk_X2_27 rfl (Or.inl rfl) hK2 ?_
  replace h := h _ rfl
  generalize am_u2 I5 s 3 (I5 a1 3) = I6 at h ⊢
  refine e_aload_n dX2_copyFrom_32 rfl trivial ?_
  refine e_aload_n dX2_copyFrom_33 rfl trivial ?_
  refine e_geti dX2_copyFrom_34 fk_X2_9 rfl hK1 ?_
  refine e_puti dX2_copyFrom_37 fk_X2_9 rfl (Or.inl rfl) hK2 ?_
  replace h := h _ rfl
  generalize am_u2 I6 s 4 (I6 a1 4) = I7 at h ⊢
  refine e_aload_n dX2_copyFrom_40 rfl trivial ?_
  refine e_aload_n dX2_copyFrom_41 rfl trivial ?_
  refine e_geti dX2_copyFrom_42 fk_X2_30 rfl hK1 ?_
  obtain ⟨hz01, h⟩ := h
  refine e_puti dX2_copyFrom_45 fk_X2_30 rfl (Or.inr ⟨rfl, hz01⟩) hK2 ?_
  replace h := h _ rfl
  generalize am_u2 I7 s 5 (I7 a1 5) = I8 at h ⊢
  refine e_aload_n dX2_copyFrom_48 rfl trivial ?_
  refine e_aload_n dX2_copyFrom_49 rfl trivial ?_
  refine e_geti dX2_copyFrom_50 fk_X2_34 rfl hK1 ?_
  obtain ⟨hz01, h⟩ := h
  refine e_puti dX2_copyFrom_53 fk_X2_34 rfl (Or.inr ⟨rfl, hz01⟩) hK2 ?_
  replace h := h _ rfl
  generalize am_u2 I8 s 6 (I8 a1 6) = I9 at h ⊢
  refine e_aload_n dX2_copyFrom_56 rfl trivial ?_
  refine e_aload_n dX2_copyFrom_57 rfl trivial ?_
  refine e_geti dX2_copyFrom_58 fk_X2_37 rfl hK1 ?_
  refine e_puti dX2_copyFrom_61 fk_X2_37 rfl (Or.inl rfl) hK2 ?_
  replace h := h _ rfl
  generalize am_u2 I9 s 7 (I9 a1 7) = I10 at h ⊢
  refine e_aload_n dX2_copyFrom_64 rfl trivial ?_
  refine e_aload_n dX2_copyFrom_65 rfl trivial ?_
  refine e_geti dX2_copyFrom_66 fk_X2_40 rfl hK1 ?_
  refine e_puti dX2_copyFrom_69 fk_X2_40 rfl (Or.inl rfl) hK2 ?_
  replace h := h _ rfl
  generalize am_u2 I10 s 8 (I10 a1 8) = I11 at h ⊢
  refine e_aload_n dX2_copyFrom_72 rfl trivial ?_
  refine e_aload_n dX2_copyFrom_73 rfl trivial ?_
  refine e_geti dX2_copyFrom_74 fk_X2_43 rfl hK1 ?_
  refine e_puti dX2_copyFrom_77 fk_X2_43 rfl (Or.inl rfl) hK2 ?_
  replace h := h _ rfl
  generalize am_u2 I11 s 9 (I11 a1 9) = I12 at h ⊢
  refine e_aload_n dX2_copyFrom_80 rfl trivial ?_
  refine e_aload_n dX2_copyFrom_81 rfl trivial ?_
  refine e_geti dX2_copyFrom_82 fk_X2_46 rfl hK1 ?_
  refine e_puti dX2_copyFrom_85 fk_X2_46 rfl (Or.inl rfl) hK2 ?_
  replace h := h _ rfl
  generalize am_u2 I12 s 10 (I12 a1 10) = I13 at h ⊢
  refine e_aload_n dX2_copyFrom_88 rfl trivial ?_
  refine e_aload_n dX2_copyFrom_89 rfl trivial ?_
  refine e_geti dX2_copyFrom_90 fk_X2_15 rfl hK1 ?_
  refine e_puti dX2_copyFrom_93 fk_X2_15 rfl (Or.inl rfl) hK2 ?_
  replace h := h _ rfl
  generalize am_u2 I13 s 11 (I13 a1 11) = I14 at h ⊢
  exact e_ret_v dX2_copyFrom_96 rfl (Nat.le_of_ble_eq_true rfl) (Nat.le_of_ble_eq_true rfl) h
set_option maxRecDepth 100000 in
set_option maxHeartbeats 4000000 in
theorem wf_X2_tail {d : Nat} {s : Nat} {K N : Nat → Nat} {I : Nat → Nat → Int} {P : Nat → Nat → Option Nat} {z : Nat} {Q : am_V → am_T} (h :
  K s = 2 ∧ Q (am_i (am_wr (I s 2 - I s 1))) K N I P z) :
  am_C d m_X2_tail [am_r s] K N I P z Q am_nx := by
  refine am_C_of ok_X2_tail (fun v hv => am_v1all _ rfl v hv) (Nat.le_of_ble_eq_true rfl) ?_
  show am_E d m_X2_tail 0 0 0 [some (am_r s)] [] K N I P z Q am_nx
  refine e_aload_n dX2_tail_0 rfl trivial ?_
  obtain ⟨hK1, h⟩ := h
  refine e_geti dX2_tail_1 fk_X2_24 rfl hK1 ?_
  refine e_aload_n dX2_tail_4 rfl trivial ?_
  refine e_geti dX2_tail_5 fk_X2_21 rfl hK1 ?_
  refine e_isub dX2_tail_8 ?_
  exact e_ret_i dX2_tail_9 rfl (Nat.le_of_ble_eq_true rfl) (Nat.le_of_ble_eq_true rfl) h
set_option maxRecDepth 100000 in
set_option maxHeartbeats 4000000 in
theorem wf_X2_middle {d : Nat} {s : Nat} {K N : Nat → Nat} {I : Nat → Nat → Int} {P : Nat → Nat → Option Nat} {z : Nat} {Q : am_V → am_T} (h :
  K s = 2 ∧ Q (am_i (am_wr (I s 2 - am_wr (Int.tdiv (I s 1) 2)))) K N I P z) :
  am_C d m_X2_middle [am_r s] K N I P z Q am_nx := by
  refine am_C_of ok_X2_middle (fun v hv => am_v1all _ rfl v hv) (Nat.le_of_ble_eq_true rfl) ?_
  show am_E d m_X2_middle 0 0 0 [some (am_r s)] [] K N I P z Q am_nx
  refine e_aload_n dX2_middle_0 rfl trivial ?_
  obtain ⟨hK1, h⟩ := h
  refine e_geti dX2_middle_1 fk_X2_24 rfl hK1 ?_
  refine e_aload_n dX2_middle_4 rfl trivial ?_
  refine e_geti dX2_middle_5 fk_X2_21 rfl hK1 ?_
  refine e_iconst dX2_middle_8 ?_
  refine e_idiv dX2_middle_9 (by decide) ?_
  refine e_isub dX2_middle_10 ?_
  exact e_ret_i dX2_middle_11 rfl (Nat.le_of_ble_eq_true rfl) (Nat.le_of_ble_eq_true rfl) h
set_option maxRecDepth 100000 in
set_option maxHeartbeats 4000000 in
theorem wf_X2_accept {d : Nat} {s : Nat} {a1 : Int} {a2 : Int} {a3 : Int} {K N : Nat → Nat} {I : Nat → Nat → Int} {P : Nat → Nat → Option Nat} {z : Nat} {Q : am_V → am_T} (h :
  K s = 2 ∧ ((¬ I s 4 = a1 →
    ((¬ I s 4 = (-1) →
      ((¬ I s 4 = a1 →
        ∀ I2, I2 = am_u2 I s 5 1 → ∀ I3, I3 = am_u2 I2 s 10 a2 → Q am_nl K N I3 P z) ∧
        (I s 4 = a1 →
        ∀ I4, I4 = am_u2 I s 7 (am_wr (I s 7 + 1)) → ∀ I5, I5 = am_u2 I4 s 10 a2 → Q am_nl K N I5 P z))) ∧
      (I s 4 = (-1) →
      ∀ I6, I6 = am_u2 I s 4 a1 → ∀ I7, I7 = am_u2 I6 s 10 a2 → Q am_nl K N I7 P z))) ∧
    (I s 4 = a1 →
    ((a3 < am_wr (a2 - I s 10) →
      ((¬ I s 4 = (-1) →
        ((¬ I s 4 = a1 →
          ∀ I8, I8 = am_u2 I s 5 1 → ∀ I9, I9 = am_u2 I8 s 10 a2 → Q am_nl K N I9 P z) ∧
          (I s 4 = a1 →
          ∀ I10, I10 = am_u2 I s 7 (am_wr (I s 7 + 1)) → ∀ I11, I11 = am_u2 I10 s 10 a2 → Q am_nl K N I11 P z))) ∧
        (I s 4 = (-1) →
        ∀ I12, I12 = am_u2 I s 4 a1 → ∀ I13, I13 = am_u2 I12 s 10 a2 → Q am_nl K N I13 P z))) ∧
      (¬ (a3 < am_wr (a2 - I s 10)) →
      ∀ I14, I14 = am_u2 I s 8 (am_wr (I s 8 + 1)) → Q am_nl K N I14 P z))))) :
  am_C d m_X2_accept [am_r s, am_i a1, am_i a2, am_i a3] K N I P z Q am_nx := by
  refine am_C_of ok_X2_accept (fun v hv => am_v1all _ rfl v hv) (Nat.le_of_ble_eq_true rfl) ?_
  show am_E d m_X2_accept 0 0 0 [some (am_r s), some (am_i a1), some (am_i a2), some (am_i a3)] [] K N I P z Q am_nx
  refine e_aload_n dX2_accept_0 rfl trivial ?_
  obtain ⟨hK1, h⟩ := h
  refine e_geti dX2_accept_1 fk_X2_9 rfl hK1 ?_
  refine e_iload_n dX2_accept_4 rfl ?_
  refine e_icmp_ne (tgt := 29) dX2_accept_5 (by decide) (fun hc => ?_) (fun hc => ?_)
  · replace h := h.1 hc
    refine e_aload_n dX2_accept_29 rfl trivial ?_
    refine e_geti dX2_accept_30 fk_X2_9 rfl hK1 ?_
    refine e_iconst dX2_accept_33 ?_
    refine e_icmp_ne (tgt := 45) dX2_accept_34 (by decide) (fun hc => ?_) (fun hc => ?_)
    · replace h := h.1 hc
      refine e_aload_n dX2_accept_45 rfl trivial ?_
      refine e_geti dX2_accept_46 fk_X2_9 rfl hK1 ?_
      refine e_iload_n dX2_accept_49 rfl ?_
      refine e_icmp_ne (tgt := 66) dX2_accept_50 (by decide) (fun hc => ?_) (fun hc => ?_)
      · replace h := h.1 hc
        refine e_aload_n dX2_accept_66 rfl trivial ?_
        refine e_iconst dX2_accept_67 ?_
        refine e_puti dX2_accept_68 fk_X2_30 rfl (Or.inr ⟨rfl, by decide⟩) hK1 ?_
        replace h := h _ rfl
        generalize am_u2 I s 5 1 = I2 at h ⊢
        refine e_aload_n dX2_accept_71 rfl trivial ?_
        refine e_iload_n dX2_accept_72 rfl ?_
        refine e_puti dX2_accept_73 fk_X2_46 rfl (Or.inl rfl) hK1 ?_
        replace h := h _ rfl
        generalize am_u2 I2 s 10 a2 = I3 at h ⊢
        exact e_ret_v dX2_accept_76 rfl (Nat.le_of_ble_eq_true rfl) (Nat.le_of_ble_eq_true rfl) h
      · replace h := h.2 hc
        refine e_aload_n dX2_accept_53 rfl trivial ?_
        refine e_dup dX2_accept_54 rfl ?_
        refine e_geti dX2_accept_55 fk_X2_37 rfl hK1 ?_
        refine e_iconst dX2_accept_58 ?_
        refine e_iadd dX2_accept_59 ?_
        refine e_puti dX2_accept_60 fk_X2_37 rfl (Or.inl rfl) hK1 ?_
        replace h := h _ rfl
        generalize am_u2 I s 7 (am_wr (I s 7 + 1)) = I4 at h ⊢
        refine e_goto (tgt := 71) dX2_accept_63 (by decide) ?_
        refine e_aload_n dX2_accept_71 rfl trivial ?_
        refine e_iload_n dX2_accept_72 rfl ?_
        refine e_puti dX2_accept_73 fk_X2_46 rfl (Or.inl rfl) hK1 ?_
        replace h := h _ rfl
        generalize am_u2 I4 s 10 a2 = I5 at h ⊢
        exact e_ret_v dX2_accept_76 rfl (Nat.le_of_ble_eq_true rfl) (Nat.le_of_ble_eq_true rfl) h
    · replace h := h.2 hc
      refine e_aload_n dX2_accept_37 rfl trivial ?_
      refine e_iload_n dX2_accept_38 rfl ?_
      refine e_puti dX2_accept_39 fk_X2_9 rfl (Or.inl rfl) hK1 ?_
      replace h := h _ rfl
      generalize am_u2 I s 4 a1 = I6 at h ⊢
      refine e_goto (tgt := 71) dX2_accept_42 (by decide) ?_
      refine e_aload_n dX2_accept_71 rfl trivial ?_
      refine e_iload_n dX2_accept_72 rfl ?_
      refine e_puti dX2_accept_73 fk_X2_46 rfl (Or.inl rfl) hK1 ?_
      replace h := h _ rfl
      generalize am_u2 I6 s 10 a2 = I7 at h ⊢
      exact e_ret_v dX2_accept_76 rfl (Nat.le_of_ble_eq_true rfl) (Nat.le_of_ble_eq_true rfl) h
  · replace h := h.2 hc
    refine e_iload_n dX2_accept_8 rfl ?_
    refine e_aload_n dX2_accept_9 rfl trivial ?_
    refine e_geti dX2_accept_10 fk_X2_46 rfl hK1 ?_
    refine e_isub dX2_accept_13 ?_
    refine e_iload_n dX2_accept_14 rfl ?_
    refine e_icmp_gt (tgt := 29) dX2_accept_15 (by decide) (fun hc => ?_) (fun hc => ?_)
    · replace h := h.1 hc
      refine e_aload_n dX2_accept_29 rfl trivial ?_
      refine e_geti dX2_accept_30 fk_X2_9 rfl hK1 ?_
      refine e_iconst dX2_accept_33 ?_
      refine e_icmp_ne (tgt := 45) dX2_accept_34 (by decide) (fun hc => ?_) (fun hc => ?_)
      · replace h := h.1 hc
        refine e_aload_n dX2_accept_45 rfl trivial ?_
        refine e_geti dX2_accept_46 fk_X2_9 rfl hK1 ?_
        refine e_iload_n dX2_accept_49 rfl ?_
        refine e_icmp_ne (tgt := 66) dX2_accept_50 (by decide) (fun hc => ?_) (fun hc => ?_)
        · replace h := h.1 hc
          refine e_aload_n dX2_accept_66 rfl trivial ?_
          refine e_iconst dX2_accept_67 ?_
          refine e_puti dX2_accept_68 fk_X2_30 rfl (Or.inr ⟨rfl, by decide⟩) hK1 ?_
          replace h := h _ rfl
          generalize am_u2 I s 5 1 = I8 at h ⊢
          refine e_aload_n dX2_accept_71 rfl trivial ?_
          refine e_iload_n dX2_accept_72 rfl ?_
          refine e_puti dX2_accept_73 fk_X2_46 rfl (Or.inl rfl) hK1 ?_
          replace h := h _ rfl
          generalize am_u2 I8 s 10 a2 = I9 at h ⊢
          exact e_ret_v dX2_accept_76 rfl (Nat.le_of_ble_eq_true rfl) (Nat.le_of_ble_eq_true rfl) h
        · replace h := h.2 hc
          refine e_aload_n dX2_accept_53 rfl trivial ?_
          refine e_dup dX2_accept_54 rfl ?_
          refine e_geti dX2_accept_55 fk_X2_37 rfl hK1 ?_
          refine e_iconst dX2_accept_58 ?_
          refine e_iadd dX2_accept_59 ?_
          refine e_puti dX2_accept_60 fk_X2_37 rfl (Or.inl rfl) hK1 ?_
          replace h := h _ rfl
          generalize am_u2 I s 7 (am_wr (I s 7 + 1)) = I10 at h ⊢
          refine e_goto (tgt := 71) dX2_accept_63 (by decide) ?_
          refine e_aload_n dX2_accept_71 rfl trivial ?_
          refine e_iload_n dX2_accept_72 rfl ?_
          refine e_puti dX2_accept_73 fk_X2_46 rfl (Or.inl rfl) hK1 ?_
          replace h := h _ rfl
          generalize am_u2 I10 s 10 a2 = I11 at h ⊢
          exact e_ret_v dX2_accept_76 rfl (Nat.le_of_ble_eq_true rfl) (Nat.le_of_ble_eq_true rfl) h
      · replace h := h.2 hc
        refine e_aload_n dX2_accept_37 rfl trivial ?_
        refine e_iload_n dX2_accept_38 rfl ?_
        refine e_puti dX2_accept_39 fk_X2_9 rfl (Or.inl rfl) hK1 ?_
        replace h := h _ rfl
        generalize am_u2 I s 4 a1 = I12 at h ⊢
        refine e_goto (tgt := 71) dX2_accept_42 (by decide) ?_
        refine e_aload_n dX2_accept_71 rfl trivial ?_
        refine e_iload_n dX2_accept_72 rfl ?_
        refine e_puti dX2_accept_73 fk_X2_46 rfl (Or.inl rfl) hK1 ?_
        replace h := h _ rfl
        generalize am_u2 I12 s 10 a2 = I13 at h ⊢
        exact e_ret_v dX2_accept_76 rfl (Nat.le_of_ble_eq_true rfl) (Nat.le_of_ble_eq_true rfl) h
    · replace h := h.2 hc
      refine e_aload_n dX2_accept_18 rfl trivial ?_
      refine e_dup dX2_accept_19 rfl ?_
      refine e_geti dX2_accept_20 fk_X2_40 rfl hK1 ?_
      refine e_iconst dX2_accept_23 ?_
      refine e_iadd dX2_accept_24 ?_
      refine e_puti dX2_accept_25 fk_X2_40 rfl (Or.inl rfl) hK1 ?_
      replace h := h _ rfl
      generalize am_u2 I s 8 (am_wr (I s 8 + 1)) = I14 at h ⊢
      exact e_ret_v dX2_accept_28 rfl (Nat.le_of_ble_eq_true rfl) (Nat.le_of_ble_eq_true rfl) h
set_option maxRecDepth 100000 in
set_option maxHeartbeats 4000000 in
theorem wf_X2_reason {d : Nat} {s : Nat} {K N : Nat → Nat} {I : Nat → Nat → Int} {P : Nat → Nat → Option Nat} {z : Nat} {Q : am_V → am_T} (h :
  K s = 2 ∧ ((¬ I s 4 = (-1) →
    ((I s 5 = 0 →
      ((I s 6 = 0 →
        ((¬ I s 9 = 0 →
          Q (am_i (I s 9)) K N I P z) ∧
          (I s 9 = 0 →
          Q (am_i 4) K N I P z))) ∧
        (¬ (I s 6 = 0) →
        Q (am_i 3) K N I P z))) ∧
      (¬ (I s 5 = 0) →
      Q (am_i 2) K N I P z))) ∧
    (I s 4 = (-1) →
    Q (am_i 1) K N I P z))) :
  am_C d m_X2_reason [am_r s] K N I P z Q am_nx := by
  refine am_C_of ok_X2_reason (fun v hv => am_v1all _ rfl v hv) (Nat.le_of_ble_eq_true rfl) ?_
  show am_E d m_X2_reason 0 0 0 [some (am_r s)] [] K N I P z Q am_nx
  refine e_aload_n dX2_reason_0 rfl trivial ?_
  obtain ⟨hK1, h⟩ := h
  refine e_geti dX2_reason_1 fk_X2_9 rfl hK1 ?_
  refine e_iconst dX2_reason_4 ?_
  refine e_icmp_ne (tgt := 10) dX2_reason_5 (by decide) (fun hc => ?_) (fun hc => ?_)
  · replace h := h.1 hc
    refine e_aload_n dX2_reason_10 rfl trivial ?_
    refine e_geti dX2_reason_11 fk_X2_30 rfl hK1 ?_
    refine e_if_eq (tgt := 19) dX2_reason_14 (by decide) (fun hc => ?_) (fun hc => ?_)
    · replace h := h.1 hc
      refine e_aload_n dX2_reason_19 rfl trivial ?_
      refine e_geti dX2_reason_20 fk_X2_34 rfl hK1 ?_
      refine e_if_eq (tgt := 28) dX2_reason_23 (by decide) (fun hc => ?_) (fun hc => ?_)
      · replace h := h.1 hc
        refine e_aload_n dX2_reason_28 rfl trivial ?_
        refine e_geti dX2_reason_29 fk_X2_43 rfl hK1 ?_
        refine e_if_ne (tgt := 39) dX2_reason_32 (by decide) (fun hc => ?_) (fun hc => ?_)
        · replace h := h.1 hc
          refine e_aload_n dX2_reason_39 rfl trivial ?_
          refine e_geti dX2_reason_40 fk_X2_43 rfl hK1 ?_
          exact e_ret_i dX2_reason_43 rfl (Nat.le_of_ble_eq_true rfl) (Nat.le_of_ble_eq_true rfl) h
        · replace h := h.2 hc
          refine e_iconst dX2_reason_35 ?_
          refine e_goto (tgt := 43) dX2_reason_36 (by decide) ?_
          exact e_ret_i dX2_reason_43 rfl (Nat.le_of_ble_eq_true rfl) (Nat.le_of_ble_eq_true rfl) h
      · replace h := h.2 hc
        refine e_iconst dX2_reason_26 ?_
        exact e_ret_i dX2_reason_27 rfl (Nat.le_of_ble_eq_true rfl) (Nat.le_of_ble_eq_true rfl) h
    · replace h := h.2 hc
      refine e_iconst dX2_reason_17 ?_
      exact e_ret_i dX2_reason_18 rfl (Nat.le_of_ble_eq_true rfl) (Nat.le_of_ble_eq_true rfl) h
  · replace h := h.2 hc
    refine e_iconst dX2_reason_8 ?_
    exact e_ret_i dX2_reason_9 rfl (Nat.le_of_ble_eq_true rfl) (Nat.le_of_ble_eq_true rfl) h
set_option maxRecDepth 100000 in
set_option maxHeartbeats 4000000 in
theorem wf_X2_property {d : Nat} {s : Nat} {a1 : Int} {K N : Nat → Nat} {I : Nat → Nat → Int} {P : Nat → Nat → Option Nat} {z : Nat} {Q : am_V → am_T} (h :
  ((a1 = 0 →
    K s = 2 ∧ Q (am_i (I s 1)) K N I P z) ∧
    (a1 = 1 →
    K s = 2 ∧ Q (am_i (I s 3)) K N I P z) ∧
    (a1 = 2 →
    K s = 2 ∧ Q (am_i (I s 2)) K N I P z) ∧
    (a1 = 3 →
    K s = 2 ∧ Q (am_i (I s 4)) K N I P z) ∧
    (a1 = 4 →
    K s = 2 ∧ ((I s 5 = 0 →
      Q (am_i 0) K N I P z) ∧
      (¬ (I s 5 = 0) →
      Q (am_i 1) K N I P z))) ∧
    (a1 = 5 →
    K s = 2 ∧ ((I s 6 = 0 →
      Q (am_i 0) K N I P z) ∧
      (¬ (I s 6 = 0) →
      Q (am_i 1) K N I P z))) ∧
    (a1 = 6 →
    K s = 2 ∧ Q (am_i (I s 7)) K N I P z) ∧
    (a1 = 7 →
    K s = 2 ∧ Q (am_i (I s 8)) K N I P z) ∧
    (a1 = 8 →
    Q (am_i (-1)) K N I P z) ∧
    (a1 = 9 →
    K s = 2 ∧ Q (am_i (I s 9)) K N I P z) ∧
    ((a1 < 0 ∨ 9 < a1) →
    Q (am_i (-1)) K N I P z))) :
  am_C d m_X2_property [am_r s, am_i a1] K N I P z Q am_nx := by
  refine am_C_of ok_X2_property (fun v hv => am_v1all _ rfl v hv) (Nat.le_of_ble_eq_true rfl) ?_
  show am_E d m_X2_property 0 0 0 [some (am_r s), some (am_i a1)] [] K N I P z Q am_nx
  refine e_iload_n dX2_property_0 rfl ?_
  refine e_tsw dX2_property_1 (by decide) (by decide) (by decide) ?_ ?_
  · refine ⟨fun hc => ?_, ⟨fun hc => ?_, ⟨fun hc => ?_, ⟨fun hc => ?_, ⟨fun hc => ?_, ⟨fun hc => ?_, ⟨fun hc => ?_, ⟨fun hc => ?_, ⟨fun hc => ?_, ⟨fun hc => ?_, trivial⟩⟩⟩⟩⟩⟩⟩⟩⟩⟩
    · have h := h.1 (by omega)
      show am_E _ _ 56 _ _ _ _ _ _ _ _ _ _ _
      refine e_aload_n dX2_property_56 rfl trivial ?_
      obtain ⟨hK1, h⟩ := h
      refine e_geti dX2_property_57 fk_X2_21 rfl hK1 ?_
      exact e_ret_i dX2_property_60 rfl (Nat.le_of_ble_eq_true rfl) (Nat.le_of_ble_eq_true rfl) h
    · have h := h.2.1 (by omega)
      show am_E _ _ 61 _ _ _ _ _ _ _ _ _ _ _
      refine e_aload_n dX2_property_61 rfl trivial ?_
      obtain ⟨hK2, h⟩ := h
      refine e_geti dX2_property_62 fk_X2_27 rfl hK2 ?_
      exact e_ret_i dX2_property_65 rfl (Nat.le_of_ble_eq_true rfl) (Nat.le_of_ble_eq_true rfl) h
    · have h := h.2.2.1 (by omega)
      show am_E _ _ 66 _ _ _ _ _ _ _ _ _ _ _
      refine e_aload_n dX2_property_66 rfl trivial ?_
      obtain ⟨hK3, h⟩ := h
      refine e_geti dX2_property_67 fk_X2_24 rfl hK3 ?_
      exact e_ret_i dX2_property_70 rfl (Nat.le_of_ble_eq_true rfl) (Nat.le_of_ble_eq_true rfl) h
    · have h := h.2.2.2.1 (by omega)
      show am_E _ _ 71 _ _ _ _ _ _ _ _ _ _ _
      refine e_aload_n dX2_property_71 rfl trivial ?_
      obtain ⟨hK4, h⟩ := h
      refine e_geti dX2_property_72 fk_X2_9 rfl hK4 ?_
      exact e_ret_i dX2_property_75 rfl (Nat.le_of_ble_eq_true rfl) (Nat.le_of_ble_eq_true rfl) h
    · have h := h.2.2.2.2.1 (by omega)
      show am_E _ _ 76 _ _ _ _ _ _ _ _ _ _ _
      refine e_aload_n dX2_property_76 rfl trivial ?_
      obtain ⟨hK5, h⟩ := h
      refine e_geti dX2_property_77 fk_X2_30 rfl hK5 ?_
      refine e_if_eq (tgt := 87) dX2_property_80 (by decide) (fun hc => ?_) (fun hc => ?_)
      · replace h := h.1 hc
        refine e_iconst dX2_property_87 ?_
        exact e_ret_i dX2_property_88 rfl (Nat.le_of_ble_eq_true rfl) (Nat.le_of_ble_eq_true rfl) h
      · replace h := h.2 hc
        refine e_iconst dX2_property_83 ?_
        refine e_goto (tgt := 88) dX2_property_84 (by decide) ?_
        exact e_ret_i dX2_property_88 rfl (Nat.le_of_ble_eq_true rfl) (Nat.le_of_ble_eq_true rfl) h
    · have h := h.2.2.2.2.2.1 (by omega)
      show am_E _ _ 89 _ _ _ _ _ _ _ _ _ _ _
      refine e_aload_n dX2_property_89 rfl trivial ?_
      obtain ⟨hK6, h⟩ := h
      refine e_geti dX2_property_90 fk_X2_34 rfl hK6 ?_
      refine e_if_eq (tgt := 100) dX2_property_93 (by decide) (fun hc => ?_) (fun hc => ?_)
      · replace h := h.1 hc
        refine e_iconst dX2_property_100 ?_
        exact e_ret_i dX2_property_101 rfl (Nat.le_of_ble_eq_true rfl) (Nat.le_of_ble_eq_true rfl) h
      · replace h := h.2 hc
        refine e_iconst dX2_property_96 ?_
        refine e_goto (tgt := 101) dX2_property_97 (by decide) ?_
        exact e_ret_i dX2_property_101 rfl (Nat.le_of_ble_eq_true rfl) (Nat.le_of_ble_eq_true rfl) h
    · have h := h.2.2.2.2.2.2.1 (by omega)
      show am_E _ _ 102 _ _ _ _ _ _ _ _ _ _ _
      refine e_aload_n dX2_property_102 rfl trivial ?_
      obtain ⟨hK7, h⟩ := h
      refine e_geti dX2_property_103 fk_X2_37 rfl hK7 ?_
      exact e_ret_i dX2_property_106 rfl (Nat.le_of_ble_eq_true rfl) (Nat.le_of_ble_eq_true rfl) h
    · have h := h.2.2.2.2.2.2.2.1 (by omega)
      show am_E _ _ 107 _ _ _ _ _ _ _ _ _ _ _
      refine e_aload_n dX2_property_107 rfl trivial ?_
      obtain ⟨hK8, h⟩ := h
      refine e_geti dX2_property_108 fk_X2_40 rfl hK8 ?_
      exact e_ret_i dX2_property_111 rfl (Nat.le_of_ble_eq_true rfl) (Nat.le_of_ble_eq_true rfl) h
    · have h := h.2.2.2.2.2.2.2.2.1 (by omega)
      show am_E _ _ 117 _ _ _ _ _ _ _ _ _ _ _
      refine e_iconst dX2_property_117 ?_
      exact e_ret_i dX2_property_118 rfl (Nat.le_of_ble_eq_true rfl) (Nat.le_of_ble_eq_true rfl) h
    · have h := h.2.2.2.2.2.2.2.2.2.1 (by omega)
      show am_E _ _ 112 _ _ _ _ _ _ _ _ _ _ _
      refine e_aload_n dX2_property_112 rfl trivial ?_
      obtain ⟨hK9, h⟩ := h
      refine e_geti dX2_property_113 fk_X2_43 rfl hK9 ?_
      exact e_ret_i dX2_property_116 rfl (Nat.le_of_ble_eq_true rfl) (Nat.le_of_ble_eq_true rfl) h
  · intro hc
    have h := h.2.2.2.2.2.2.2.2.2.2 hc
    show am_E _ _ 117 _ _ _ _ _ _ _ _ _ _ _
    refine e_iconst dX2_property_117 ?_
    exact e_ret_i dX2_property_118 rfl (Nat.le_of_ble_eq_true rfl) (Nat.le_of_ble_eq_true rfl) h
set_option maxRecDepth 100000 in
set_option maxHeartbeats 4000000 in
theorem wf_X3_init {d : Nat} (hd : 1 ≤ d) {s : Nat} {K N : Nat → Nat} {I : Nat → Nat → Int} {P : Nat → Nat → Option Nat} {z : Nat} {Q : am_V → am_T} (h :
  (0 + 1 ≤ 2 ∧ 0 + 30 ≤ 60) ∧ ∀ K1 N2 b3 z4, K1 = am_u1 K (z + 4) 10 → N2 = am_u1 N (z + 4) (Int.toNat 30) → b3 = z + 4 → z4 = z + 1 → K1 s = 3 ∧ ∀ P7, P7 = am_p2 P s 0 (some b3) → (0 + 1 + 1 ≤ 2 ∧ 0 + 30 + 30 ≤ 60) ∧ ∀ K8 N9 b10 z11, K8 = am_u1 K1 (z4 + 4) 10 → N9 = am_u1 N2 (z4 + 4) (Int.toNat 30) → b10 = z4 + 4 → z11 = z4 + 1 → K8 s = 3 ∧ ∀ P14, P14 = am_p2 P7 s 1 (some b10) → (0 + 1 + 1 ≤ 2 ∧ 0 + 30 + 30 ≤ 60) ∧ Q am_nl K8 N9 I P14 z11) :
  am_C d m_X3_init [am_r s] K N I P z Q am_nx := by
  refine am_C_of ok_X3_init (fun v hv => am_v1all _ rfl v hv) (Nat.le_of_ble_eq_true rfl) ?_
  show am_E d m_X3_init 0 0 0 [some (am_r s)] [] K N I P z Q am_nx
  refine e_aload_n dX3_init_0 rfl trivial ?_
  refine e_oinit dX3_init_1 mk_X3_3 oi oc (by omega) (Nat.le_of_ble_eq_true rfl) ?_
  refine e_aload_n dX3_init_4 rfl trivial ?_
  refine e_bipush dX3_init_5 ?_
  obtain ⟨⟨hk9, hn9⟩, h⟩ := h
  refine e_newa_int dX3_init_7 ac_int (by decide) (by decide) hk9 hn9 ?_
  replace h := h _ _ _ _ rfl rfl rfl rfl
  have hK5 : (am_u1 K (z + 4) 10) (z + 4) = 10 := by simp [am_u1]
  generalize eK1 : am_u1 K (z + 4) 10 = K1 at h hK5 ⊢
  generalize eN2 : am_u1 N (z + 4) (Int.toNat 30) = N2 at h ⊢
  generalize eb3 : z + 4 = b3 at h hK5 ⊢
  generalize ez4 : z + 1 = z4 at h ⊢
  obtain ⟨hK6, h⟩ := h
  refine e_putrF1 dX3_init_9 fk_X3_9 rfl rfl rfl rfl hK6 ?_
  replace h := h _ rfl
  generalize am_p2 P s 0 (some b3) = P7 at h ⊢
  refine e_aload_n dX3_init_12 rfl trivial ?_
  refine e_bipush dX3_init_13 ?_
  obtain ⟨⟨hk9, hn9⟩, h⟩ := h
  refine e_newa_int dX3_init_15 ac_int (by decide) (by decide) hk9 hn9 ?_
  replace h := h _ _ _ _ rfl rfl rfl rfl
  have hK12 : (am_u1 K1 (z4 + 4) 10) (z4 + 4) = 10 := by simp [am_u1]
  generalize eK8 : am_u1 K1 (z4 + 4) 10 = K8 at h hK12 ⊢
  generalize eN9 : am_u1 N2 (z4 + 4) (Int.toNat 30) = N9 at h ⊢
  generalize eb10 : z4 + 4 = b10 at h hK12 ⊢
  generalize ez11 : z4 + 1 = z11 at h ⊢
  obtain ⟨hK13, h⟩ := h
  refine e_putrF1 dX3_init_17 fk_X3_15 rfl rfl rfl rfl hK13 ?_
  replace h := h _ rfl
  generalize am_p2 P7 s 1 (some b10) = P14 at h ⊢
  obtain ⟨⟨hk9, hn9⟩, h⟩ := h
  exact e_ret_v dX3_init_20 rfl hk9 hn9 h
set_option maxRecDepth 100000 in
set_option maxHeartbeats 4000000 in
theorem wf_X3_copyFrom {d : Nat} (hd : 2 ≤ d) {s : Nat} {a1 : Nat} {K N : Nat → Nat} {I : Nat → Nat → Int} {P : Nat → Nat → Option Nat} {z : Nat} {Q : am_V → am_T} (h :
  K a1 = 3 ∧ ∃ b2, P a1 0 = some b2 ∧ K s = 3 ∧ ∃ b4, P s 0 = some b4 ∧ K b2 = 10 ∧ K b4 = 10 ∧ ((0 : Int) + 30 ≤ N b2 ∧ (0 : Int) + 30 ≤ N b4) ∧ ∀ I7, I7 = am_cp I b2 b4 (Int.toNat 0) (Int.toNat 0) (Int.toNat 30) → ∃ b8, P a1 1 = some b8 ∧ ∃ b9, P s 1 = some b9 ∧ K b8 = 10 ∧ K b9 = 10 ∧ ((0 : Int) + 30 ≤ N b8 ∧ (0 : Int) + 30 ≤ N b9) ∧ ∀ I12, I12 = am_cp I7 b8 b9 (Int.toNat 0) (Int.toNat 0) (Int.toNat 30) → ∀ I13, I13 = am_u2 I12 s 2 (I12 a1 2) → Q am_nl K N I13 P z) :
  am_C d m_X3_copyFrom [am_r s, am_r a1] K N I P z Q am_nx := by
  refine am_C_of ok_X3_copyFrom (fun v hv => am_v1all _ rfl v hv) (Nat.le_of_ble_eq_true rfl) ?_
  show am_E d m_X3_copyFrom 0 0 0 [some (am_r s), some (am_r a1)] [] K N I P z Q am_nx
  refine e_aload_n dX3_copyFrom_0 rfl trivial ?_
  obtain ⟨hK1, h⟩ := h
  obtain ⟨b2, hb2, h⟩ := h
  refine e_getr1 dX3_copyFrom_1 fk_X3_9 rfl hK1 hb2 ?_
  refine e_iconst dX3_copyFrom_4 ?_
  refine e_aload_n dX3_copyFrom_5 rfl trivial ?_
  obtain ⟨hK3, h⟩ := h
  obtain ⟨b4, hb4, h⟩ := h
  refine e_getr1 dX3_copyFrom_6 fk_X3_9 rfl hK3 hb4 ?_
  refine e_iconst dX3_copyFrom_9 ?_
  refine e_bipush dX3_copyFrom_10 ?_
  obtain ⟨hK5, h⟩ := h
  obtain ⟨hK6, h⟩ := h
  obtain ⟨⟨h4, h5⟩, h⟩ := h
  refine e_acopy dX3_copyFrom_12 mk_X3_18 acn acs aci hK5 hK6 (by decide) (by decide) (by decide) h4 h5 (by omega) (Nat.le_of_ble_eq_true rfl) ?_
  replace h := h _ rfl
  generalize am_cp I b2 b4 (Int.toNat 0) (Int.toNat 0) (Int.toNat 30) = I7 at h ⊢
  refine e_aload_n dX3_copyFrom_15 rfl trivial ?_
  obtain ⟨b8, hb8, h⟩ := h
  refine e_getr1 dX3_copyFrom_16 fk_X3_15 rfl hK1 hb8 ?_
  refine e_iconst dX3_copyFrom_19 ?_
  refine e_aload_n dX3_copyFrom_20 rfl trivial ?_
  obtain ⟨b9, hb9, h⟩ := h
  refine e_getr1 dX3_copyFrom_21 fk_X3_15 rfl hK3 hb9 ?_
  refine e_iconst dX3_copyFrom_24 ?_
  refine e_bipush dX3_copyFrom_25 ?_
  obtain ⟨hK10, h⟩ := h
  obtain ⟨hK11, h⟩ := h
  obtain ⟨⟨h4, h5⟩, h⟩ := h
  refine e_acopy dX3_copyFrom_27 mk_X3_18 acn acs aci hK10 hK11 (by decide) (by decide) (by decide) h4 h5 (by omega) (Nat.le_of_ble_eq_true rfl) ?_
  replace h := h _ rfl
  generalize am_cp I7 b8 b9 (Int.toNat 0) (Int.toNat 0) (Int.toNat 30) = I12 at h ⊢
  refine e_aload_n dX3_copyFrom_30 rfl trivial ?_
  refine e_aload_n dX3_copyFrom_31 rfl trivial ?_
  refine e_geti dX3_copyFrom_32 fk_X3_24 rfl hK1 ?_
  refine e_puti dX3_copyFrom_35 fk_X3_24 rfl (Or.inl rfl) hK3 ?_
  replace h := h _ rfl
  generalize am_u2 I12 s 2 (I12 a1 2) = I13 at h ⊢
  exact e_ret_v dX3_copyFrom_38 rfl (Nat.le_of_ble_eq_true rfl) (Nat.le_of_ble_eq_true rfl) h
def L_X3_placeFor_2 (d : Nat) (l0 : Nat) (l1 : Int) (l2 : Int) (K N : Nat → Nat) (I : Nat → Nat → Int) (P : Nat → Nat → Option Nat) (z : Nat) (Q : am_V → am_T) : Prop := am_E d m_X3_placeFor 2 0 0 [some (am_r l0), some (am_i l1), some (am_i l2)] [] K N I P z Q am_nx
set_option maxRecDepth 100000 in
set_option maxHeartbeats 4000000 in
theorem wf_X3_placeFor {d : Nat} {s : Nat} {a1 : Int} {K N : Nat → Nat} {I : Nat → Nat → Int} {P : Nat → Nat → Option Nat} {z : Nat} {Q : am_V → am_T} (h :
  L_X3_placeFor_2 d s a1 0 K N I P z Q) :
  am_C d m_X3_placeFor [am_r s, am_i a1] K N I P z Q am_nx := by
  refine am_C_of ok_X3_placeFor (fun v hv => am_v1all _ rfl v hv) (Nat.le_of_ble_eq_true rfl) ?_
  show am_E d m_X3_placeFor 0 0 0 [some (am_r s), some (am_i a1), none] [] K N I P z Q am_nx
  refine e_iconst dX3_placeFor_0 ?_
  refine e_istore_n dX3_placeFor_1 ?_
  exact e_forget (am_sub_k (am_sub_k (am_sub_k am_sub_nil))) h
set_option maxRecDepth 100000 in
set_option maxHeartbeats 4000000 in
theorem wf_X3_placeFor_2 {d : Nat} {l0 : Nat} {l1 : Int} {l2 : Int} {K N : Nat → Nat} {I : Nat → Nat → Int} {P : Nat → Nat → Option Nat} {z : Nat} {Q : am_V → am_T} (h :
  K l0 = 3 ∧ ((I l0 2 ≤ l2 →
    Q (am_i (I l0 2)) K N I P z) ∧
    (¬ (I l0 2 ≤ l2) →
    ∃ b2, P l0 0 = some b2 ∧ K b2 = 10 ∧ (0 ≤ l2 ∧ l2 < N b2) ∧ ((I b2 (Int.toNat l2) < l1 →
      L_X3_placeFor_2 d l0 l1 (am_wr (l2 + 1)) K N I P z Q) ∧
      (¬ (I b2 (Int.toNat l2) < l1) →
      Q (am_i l2) K N I P z))))) :
  L_X3_placeFor_2 d l0 l1 l2 K N I P z Q := by
  unfold L_X3_placeFor_2
  refine e_iload_n dX3_placeFor_2 rfl ?_
  refine e_aload_n dX3_placeFor_3 rfl trivial ?_
  obtain ⟨hK1, h⟩ := h
  refine e_geti dX3_placeFor_4 fk_X3_24 rfl hK1 ?_
  refine e_icmp_ge (tgt := 28) dX3_placeFor_7 (by decide) (fun hc => ?_) (fun hc => ?_)
  · replace h := h.1 hc
    refine e_aload_n dX3_placeFor_28 rfl trivial ?_
    refine e_geti dX3_placeFor_29 fk_X3_24 rfl hK1 ?_
    exact e_ret_i dX3_placeFor_32 rfl (Nat.le_of_ble_eq_true rfl) (Nat.le_of_ble_eq_true rfl) h
  · replace h := h.2 hc
    refine e_aload_n dX3_placeFor_10 rfl trivial ?_
    obtain ⟨b2, hb2, h⟩ := h
    refine e_getr1 dX3_placeFor_11 fk_X3_9 rfl hK1 hb2 ?_
    refine e_iload_n dX3_placeFor_14 rfl ?_
    obtain ⟨hK3, h⟩ := h
    obtain ⟨⟨h0, h1⟩, h⟩ := h
    refine e_iald dX3_placeFor_15 hK3 h0 h1 ?_
    refine e_iload_n dX3_placeFor_16 rfl ?_
    refine e_icmp_lt (tgt := 22) dX3_placeFor_17 (by decide) (fun hc => ?_) (fun hc => ?_)
    · replace h := h.1 hc
      refine e_iinc dX3_placeFor_22 rfl ?_
      refine e_goto (tgt := 2) dX3_placeFor_25 (by decide) ?_
      exact e_forget (am_sub_k (am_sub_k (am_sub_k am_sub_nil))) h
    · replace h := h.2 hc
      refine e_iload_n dX3_placeFor_20 rfl ?_
      exact e_ret_i dX3_placeFor_21 rfl (Nat.le_of_ble_eq_true rfl) (Nat.le_of_ble_eq_true rfl) h
set_option maxRecDepth 100000 in
set_option maxHeartbeats 4000000 in
theorem wf_X3_laneOf {d : Nat} (hd : 1 ≤ d) {s : Nat} {a1 : Int} {K N : Nat → Nat} {I : Nat → Nat → Int} {P : Nat → Nat → Option Nat} {z : Nat} {Q : am_V → am_T} (h :
  K s = 3 ∧ am_C (d - 1) m_X3_placeFor [am_r s, am_i a1] K N I P z (fun v K1 N2 I3 P4 z5 => am_iv v fun x7 =>
    K1 s = 3 ∧ ((I3 s 2 ≤ x7 →
    Q (am_i (-1)) K1 N2 I3 P4 z5) ∧
    (¬ (I3 s 2 ≤ x7) →
    ∃ b9, P4 s 0 = some b9 ∧ K1 b9 = 10 ∧ (0 ≤ x7 ∧ x7 < N2 b9) ∧ ((¬ I3 b9 (Int.toNat x7) = a1 →
      Q (am_i (-1)) K1 N2 I3 P4 z5) ∧
      (I3 b9 (Int.toNat x7) = a1 →
      ∃ b11, P4 s 1 = some b11 ∧ K1 b11 = 10 ∧ (0 ≤ x7 ∧ x7 < N2 b11) ∧ Q (am_i (I3 b11 (Int.toNat x7))) K1 N2 I3 P4 z5))))) am_nx) :
  am_C d m_X3_laneOf [am_r s, am_i a1] K N I P z Q am_nx := by
  refine am_C_of ok_X3_laneOf (fun v hv => am_v1all _ rfl v hv) (Nat.le_of_ble_eq_true rfl) ?_
  show am_E d m_X3_laneOf 0 0 0 [some (am_r s), some (am_i a1), none] [] K N I P z Q am_nx
  refine e_aload_n dX3_laneOf_0 rfl trivial ?_
  refine e_iload_n dX3_laneOf_1 rfl ?_
  obtain ⟨hK6, h⟩ := h
  refine e_callV (Mc := m_X3_placeFor) (vs := [am_i a1]) (st := []) dX3_laneOf_2 ok_X3_placeFor rfl ⟨by decide, rfl⟩ mk_X3_28 im_X3_placeFor sl_X3_placeFor rfl rfl hK6 (by omega) (Nat.le_of_ble_eq_true rfl) (Nat.le_of_ble_eq_true rfl) (Nat.le_of_ble_eq_true rfl) am_xh_nx (am_C_mono h (fun v K1 N2 I3 P4 z5 h => ?_) (fun _ _ _ _ _ _ h => h))
  replace h := am_iv_or h
  obtain ⟨x7, rfl, h⟩ := h
  show am_E d m_X3_laneOf 5 _ _ _ [am_i x7] K1 N2 I3 P4 z5 Q am_nx
  refine e_istore_n dX3_laneOf_5 ?_
  refine e_iload_n dX3_laneOf_6 rfl ?_
  refine e_aload_n dX3_laneOf_7 rfl trivial ?_
  obtain ⟨hK8, h⟩ := h
  refine e_geti dX3_laneOf_8 fk_X3_24 rfl hK8 ?_
  refine e_icmp_ge (tgt := 33) dX3_laneOf_11 (by decide) (fun hc => ?_) (fun hc => ?_)
  · replace h := h.1 hc
    refine e_iconst dX3_laneOf_33 ?_
    exact e_ret_i dX3_laneOf_34 rfl (Nat.le_of_ble_eq_true rfl) (Nat.le_of_ble_eq_true rfl) h
  · replace h := h.2 hc
    refine e_aload_n dX3_laneOf_14 rfl trivial ?_
    obtain ⟨b9, hb9, h⟩ := h
    refine e_getr1 dX3_laneOf_15 fk_X3_9 rfl hK8 hb9 ?_
    refine e_iload_n dX3_laneOf_18 rfl ?_
    obtain ⟨hK10, h⟩ := h
    obtain ⟨⟨h0, h1⟩, h⟩ := h
    refine e_iald dX3_laneOf_19 hK10 h0 h1 ?_
    refine e_iload_n dX3_laneOf_20 rfl ?_
    refine e_icmp_ne (tgt := 33) dX3_laneOf_21 (by decide) (fun hc => ?_) (fun hc => ?_)
    · replace h := h.1 hc
      refine e_iconst dX3_laneOf_33 ?_
      exact e_ret_i dX3_laneOf_34 rfl (Nat.le_of_ble_eq_true rfl) (Nat.le_of_ble_eq_true rfl) h
    · replace h := h.2 hc
      refine e_aload_n dX3_laneOf_24 rfl trivial ?_
      obtain ⟨b11, hb11, h⟩ := h
      refine e_getr1 dX3_laneOf_25 fk_X3_15 rfl hK8 hb11 ?_
      refine e_iload_n dX3_laneOf_28 rfl ?_
      obtain ⟨hK12, h⟩ := h
      obtain ⟨⟨h0, h1⟩, h⟩ := h
      refine e_iald dX3_laneOf_29 hK12 h0 h1 ?_
      refine e_goto (tgt := 34) dX3_laneOf_30 (by decide) ?_
      exact e_ret_i dX3_laneOf_34 rfl (Nat.le_of_ble_eq_true rfl) (Nat.le_of_ble_eq_true rfl) h
def L_X3_put_57 (d : Nat) (l0 : Nat) (l1 : Int) (l2 : Int) (l3 : Int) (l5 : Int) (K N : Nat → Nat) (I : Nat → Nat → Int) (P : Nat → Nat → Option Nat) (z : Nat) (Q : am_V → am_T) : Prop := am_E d m_X3_put 57 0 0 [some (am_r l0), some (am_i l1), some (am_i l2), some (am_i l3), none, some (am_i l5)] [] K N I P z Q am_nx
set_option maxRecDepth 100000 in
set_option maxHeartbeats 4000000 in
theorem wf_X3_put {d : Nat} (hd : 1 ≤ d) {s : Nat} {a1 : Int} {a2 : Int} {K N : Nat → Nat} {I : Nat → Nat → Int} {P : Nat → Nat → Option Nat} {z : Nat} {Q : am_V → am_T} (h :
  K s = 3 ∧ am_C (d - 1) m_X3_placeFor [am_r s, am_i a1] K N I P z (fun v K1 N2 I3 P4 z5 => am_iv v fun x7 =>
    K1 s = 3 ∧ ((I3 s 2 ≤ x7 →
    ((I3 s 2 < 30 →
      L_X3_put_57 d s a1 a2 x7 (I3 s 2) K1 N2 I3 P4 z5 Q) ∧
      (¬ (I3 s 2 < 30) →
      Q am_nl K1 N2 I3 P4 z5))) ∧
    (¬ (I3 s 2 ≤ x7) →
    ∃ b9, P4 s 0 = some b9 ∧ K1 b9 = 10 ∧ (0 ≤ x7 ∧ x7 < N2 b9) ∧ ((I3 b9 (Int.toNat x7) = a1 →
      (0 ≤ x7 ∧ x7 < N2 b9) ∧ ∀ I11, I11 = am_u2 I3 b9 (Int.toNat x7) a1 → ∃ b12, P4 s 1 = some b12 ∧ K1 b12 = 10 ∧ (0 ≤ x7 ∧ x7 < N2 b12) ∧ ∀ I14, I14 = am_u2 I11 b12 (Int.toNat x7) a2 → Q am_nl K1 N2 I14 P4 z5) ∧
      (¬ (I3 b9 (Int.toNat x7) = a1) →
      ((I3 s 2 < 30 →
        L_X3_put_57 d s a1 a2 x7 (I3 s 2) K1 N2 I3 P4 z5 Q) ∧
        (¬ (I3 s 2 < 30) →
        Q am_nl K1 N2 I3 P4 z5))))))) am_nx) :
  am_C d m_X3_put [am_r s, am_i a1, am_i a2] K N I P z Q am_nx := by
  refine am_C_of ok_X3_put (fun v hv => am_v1all _ rfl v hv) (Nat.le_of_ble_eq_true rfl) ?_
  show am_E d m_X3_put 0 0 0 [some (am_r s), some (am_i a1), some (am_i a2), none, none, none] [] K N I P z Q am_nx
  refine e_aload_n dX3_put_0 rfl trivial ?_
  refine e_iload_n dX3_put_1 rfl ?_
  obtain ⟨hK6, h⟩ := h
  refine e_callV (Mc := m_X3_placeFor) (vs := [am_i a1]) (st := []) dX3_put_2 ok_X3_placeFor rfl ⟨by decide, rfl⟩ mk_X3_28 im_X3_placeFor sl_X3_placeFor rfl rfl hK6 (by omega) (Nat.le_of_ble_eq_true rfl) (Nat.le_of_ble_eq_true rfl) (Nat.le_of_ble_eq_true rfl) am_xh_nx (am_C_mono h (fun v K1 N2 I3 P4 z5 h => ?_) (fun _ _ _ _ _ _ h => h))
  replace h := am_iv_or h
  obtain ⟨x7, rfl, h⟩ := h
  show am_E d m_X3_put 5 _ _ _ [am_i x7] K1 N2 I3 P4 z5 Q am_nx
  refine e_istore_n dX3_put_5 ?_
  refine e_iload_n dX3_put_6 rfl ?_
  refine e_aload_n dX3_put_7 rfl trivial ?_
  obtain ⟨hK8, h⟩ := h
  refine e_geti dX3_put_8 fk_X3_24 rfl hK8 ?_
  refine e_icmp_ge (tgt := 24) dX3_put_11 (by decide) (fun hc => ?_) (fun hc => ?_)
  · replace h := h.1 hc
    refine e_iconst dX3_put_24 ?_
    refine e_goto (tgt := 29) dX3_put_25 (by decide) ?_
    refine e_istore dX3_put_29 ?_
    refine e_iload dX3_put_31 rfl ?_
    refine e_if_eq (tgt := 46) dX3_put_33 (by decide) (fun q => absurd q (by decide)) (fun _ => ?_)
    refine e_aload_n dX3_put_36 rfl trivial ?_
    refine e_geti dX3_put_37 fk_X3_24 rfl hK8 ?_
    refine e_bipush dX3_put_40 ?_
    refine e_icmp_lt (tgt := 46) dX3_put_42 (by decide) (fun hc => ?_) (fun hc => ?_)
    · replace h := h.1 hc
      refine e_iload dX3_put_46 rfl ?_
      refine e_if_eq (tgt := 111) dX3_put_48 (by decide) (fun q => absurd q (by decide)) (fun _ => ?_)
      refine e_aload_n dX3_put_51 rfl trivial ?_
      refine e_geti dX3_put_52 fk_X3_24 rfl hK8 ?_
      refine e_istore dX3_put_55 ?_
      exact e_forget (am_sub_k (am_sub_k (am_sub_k (am_sub_k (am_sub_d (am_sub_k am_sub_nil)))))) h
    · replace h := h.2 hc
      exact e_ret_v dX3_put_45 rfl (Nat.le_of_ble_eq_true rfl) (Nat.le_of_ble_eq_true rfl) h
  · replace h := h.2 hc
    refine e_aload_n dX3_put_14 rfl trivial ?_
    obtain ⟨b9, hb9, h⟩ := h
    refine e_getr1 dX3_put_15 fk_X3_9 rfl hK8 hb9 ?_
    refine e_iload_n dX3_put_18 rfl ?_
    obtain ⟨hK10, h⟩ := h
    obtain ⟨⟨h0, h1⟩, h⟩ := h
    refine e_iald dX3_put_19 hK10 h0 h1 ?_
    refine e_iload_n dX3_put_20 rfl ?_
    refine e_icmp_eq (tgt := 28) dX3_put_21 (by decide) (fun hc => ?_) (fun hc => ?_)
    · replace h := h.1 hc
      refine e_iconst dX3_put_28 ?_
      refine e_istore dX3_put_29 ?_
      refine e_iload dX3_put_31 rfl ?_
      refine e_if_eq (tgt := 46) dX3_put_33 (by decide) (fun _ => ?_) (fun q => absurd q (by decide))
      refine e_iload dX3_put_46 rfl ?_
      refine e_if_eq (tgt := 111) dX3_put_48 (by decide) (fun _ => ?_) (fun q => absurd q (by decide))
      refine e_aload_n dX3_put_111 rfl trivial ?_
      refine e_getr1 dX3_put_112 fk_X3_9 rfl hK8 hb9 ?_
      refine e_iload_n dX3_put_115 rfl ?_
      refine e_iload_n dX3_put_116 rfl ?_
      obtain ⟨⟨h0, h1⟩, h⟩ := h
      refine e_iast dX3_put_117 hK10 h0 h1 ?_
      replace h := h _ rfl
      generalize am_u2 I3 b9 (Int.toNat x7) a1 = I11 at h ⊢
      refine e_aload_n dX3_put_118 rfl trivial ?_
      obtain ⟨b12, hb12, h⟩ := h
      refine e_getr1 dX3_put_119 fk_X3_15 rfl hK8 hb12 ?_
      refine e_iload_n dX3_put_122 rfl ?_
      refine e_iload_n dX3_put_123 rfl ?_
      obtain ⟨hK13, h⟩ := h
      obtain ⟨⟨h0, h1⟩, h⟩ := h
      refine e_iast dX3_put_124 hK13 h0 h1 ?_
      replace h := h _ rfl
      generalize am_u2 I11 b12 (Int.toNat x7) a2 = I14 at h ⊢
      exact e_ret_v dX3_put_125 rfl (Nat.le_of_ble_eq_true rfl) (Nat.le_of_ble_eq_true rfl) h
    · replace h := h.2 hc
      refine e_iconst dX3_put_24 ?_
      refine e_goto (tgt := 29) dX3_put_25 (by decide) ?_
      refine e_istore dX3_put_29 ?_
      refine e_iload dX3_put_31 rfl ?_
      refine e_if_eq (tgt := 46) dX3_put_33 (by decide) (fun q => absurd q (by decide)) (fun _ => ?_)
      refine e_aload_n dX3_put_36 rfl trivial ?_
      refine e_geti dX3_put_37 fk_X3_24 rfl hK8 ?_
      refine e_bipush dX3_put_40 ?_
      refine e_icmp_lt (tgt := 46) dX3_put_42 (by decide) (fun hc => ?_) (fun hc => ?_)
      · replace h := h.1 hc
        refine e_iload dX3_put_46 rfl ?_
        refine e_if_eq (tgt := 111) dX3_put_48 (by decide) (fun q => absurd q (by decide)) (fun _ => ?_)
        refine e_aload_n dX3_put_51 rfl trivial ?_
        refine e_geti dX3_put_52 fk_X3_24 rfl hK8 ?_
        refine e_istore dX3_put_55 ?_
        exact e_forget (am_sub_k (am_sub_k (am_sub_k (am_sub_k (am_sub_d (am_sub_k am_sub_nil)))))) h
      · replace h := h.2 hc
        exact e_ret_v dX3_put_45 rfl (Nat.le_of_ble_eq_true rfl) (Nat.le_of_ble_eq_true rfl) h
set_option maxRecDepth 100000 in
set_option maxHeartbeats 4000000 in
theorem wf_X3_put_57 {d : Nat} {l0 : Nat} {l1 : Int} {l2 : Int} {l3 : Int} {l5 : Int} {K N : Nat → Nat} {I : Nat → Nat → Int} {P : Nat → Nat → Option Nat} {z : Nat} {Q : am_V → am_T} (h :
  ((l5 ≤ l3 →
    K l0 = 3 ∧ ∀ I2, I2 = am_u2 I l0 2 (am_wr (I l0 2 + 1)) → ∃ b3, P l0 0 = some b3 ∧ K b3 = 10 ∧ (0 ≤ l3 ∧ l3 < N b3) ∧ ∀ I5, I5 = am_u2 I2 b3 (Int.toNat l3) l1 → ∃ b6, P l0 1 = some b6 ∧ K b6 = 10 ∧ (0 ≤ l3 ∧ l3 < N b6) ∧ ∀ I8, I8 = am_u2 I5 b6 (Int.toNat l3) l2 → Q am_nl K N I8 P z) ∧
    (¬ (l5 ≤ l3) →
    K l0 = 3 ∧ ∃ b10, P l0 0 = some b10 ∧ K b10 = 10 ∧ (0 ≤ am_wr (l5 - 1) ∧ am_wr (l5 - 1) < N b10) ∧ (0 ≤ l5 ∧ l5 < N b10) ∧ ∀ I12, I12 = am_u2 I b10 (Int.toNat l5) (I b10 (Int.toNat (am_wr (l5 - 1)))) → ∃ b13, P l0 1 = some b13 ∧ K b13 = 10 ∧ (0 ≤ am_wr (l5 - 1) ∧ am_wr (l5 - 1) < N b13) ∧ (0 ≤ l5 ∧ l5 < N b13) ∧ ∀ I15, I15 = am_u2 I12 b13 (Int.toNat l5) (I12 b13 (Int.toNat (am_wr (l5 - 1)))) → L_X3_put_57 d l0 l1 l2 l3 (am_wr (l5 + (-1))) K N I15 P z Q))) :
  L_X3_put_57 d l0 l1 l2 l3 l5 K N I P z Q := by
  unfold L_X3_put_57
  refine e_iload dX3_put_57 rfl ?_
  refine e_iload_n dX3_put_59 rfl ?_
  refine e_icmp_le (tgt := 101) dX3_put_60 (by decide) (fun hc => ?_) (fun hc => ?_)
  · replace h := h.1 hc
    refine e_aload_n dX3_put_101 rfl trivial ?_
    refine e_dup dX3_put_102 rfl ?_
    obtain ⟨hK1, h⟩ := h
    refine e_geti dX3_put_103 fk_X3_24 rfl hK1 ?_
    refine e_iconst dX3_put_106 ?_
    refine e_iadd dX3_put_107 ?_
    refine e_puti dX3_put_108 fk_X3_24 rfl (Or.inl rfl) hK1 ?_
    replace h := h _ rfl
    generalize am_u2 I l0 2 (am_wr (I l0 2 + 1)) = I2 at h ⊢
    refine e_aload_n dX3_put_111 rfl trivial ?_
    obtain ⟨b3, hb3, h⟩ := h
    refine e_getr1 dX3_put_112 fk_X3_9 rfl hK1 hb3 ?_
    refine e_iload_n dX3_put_115 rfl ?_
    refine e_iload_n dX3_put_116 rfl ?_
    obtain ⟨hK4, h⟩ := h
    obtain ⟨⟨h0, h1⟩, h⟩ := h
    refine e_iast dX3_put_117 hK4 h0 h1 ?_
    replace h := h _ rfl
    generalize am_u2 I2 b3 (Int.toNat l3) l1 = I5 at h ⊢
    refine e_aload_n dX3_put_118 rfl trivial ?_
    obtain ⟨b6, hb6, h⟩ := h
    refine e_getr1 dX3_put_119 fk_X3_15 rfl hK1 hb6 ?_
    refine e_iload_n dX3_put_122 rfl ?_
    refine e_iload_n dX3_put_123 rfl ?_
    obtain ⟨hK7, h⟩ := h
    obtain ⟨⟨h0, h1⟩, h⟩ := h
    refine e_iast dX3_put_124 hK7 h0 h1 ?_
    replace h := h _ rfl
    generalize am_u2 I5 b6 (Int.toNat l3) l2 = I8 at h ⊢
    exact e_ret_v dX3_put_125 rfl (Nat.le_of_ble_eq_true rfl) (Nat.le_of_ble_eq_true rfl) h
  · replace h := h.2 hc
    refine e_aload_n dX3_put_63 rfl trivial ?_
    obtain ⟨hK9, h⟩ := h
    obtain ⟨b10, hb10, h⟩ := h
    refine e_getr1 dX3_put_64 fk_X3_9 rfl hK9 hb10 ?_
    refine e_iload dX3_put_67 rfl ?_
    refine e_aload_n dX3_put_69 rfl trivial ?_
    refine e_getr1 dX3_put_70 fk_X3_9 rfl hK9 hb10 ?_
    refine e_iload dX3_put_73 rfl ?_
    refine e_iconst dX3_put_75 ?_
    refine e_isub dX3_put_76 ?_
    obtain ⟨hK11, h⟩ := h
    obtain ⟨⟨h0, h1⟩, h⟩ := h
    refine e_iald dX3_put_77 hK11 h0 h1 ?_
    obtain ⟨⟨h0, h1⟩, h⟩ := h
    refine e_iast dX3_put_78 hK11 h0 h1 ?_
    replace h := h _ rfl
    generalize am_u2 I b10 (Int.toNat l5) (I b10 (Int.toNat (am_wr (l5 - 1)))) = I12 at h ⊢
    refine e_aload_n dX3_put_79 rfl trivial ?_
    obtain ⟨b13, hb13, h⟩ := h
    refine e_getr1 dX3_put_80 fk_X3_15 rfl hK9 hb13 ?_
    refine e_iload dX3_put_83 rfl ?_
    refine e_aload_n dX3_put_85 rfl trivial ?_
    refine e_getr1 dX3_put_86 fk_X3_15 rfl hK9 hb13 ?_
    refine e_iload dX3_put_89 rfl ?_
    refine e_iconst dX3_put_91 ?_
    refine e_isub dX3_put_92 ?_
    obtain ⟨hK14, h⟩ := h
    obtain ⟨⟨h0, h1⟩, h⟩ := h
    refine e_iald dX3_put_93 hK14 h0 h1 ?_
    obtain ⟨⟨h0, h1⟩, h⟩ := h
    refine e_iast dX3_put_94 hK14 h0 h1 ?_
    replace h := h _ rfl
    generalize am_u2 I12 b13 (Int.toNat l5) (I12 b13 (Int.toNat (am_wr (l5 - 1)))) = I15 at h ⊢
    refine e_iinc dX3_put_95 rfl ?_
    refine e_goto (tgt := 57) dX3_put_98 (by decide) ?_
    exact e_forget (am_sub_k (am_sub_k (am_sub_k (am_sub_k (am_sub_d (am_sub_k am_sub_nil)))))) h
def L_X3_drop_37 (d : Nat) (l0 : Nat) (l3 : Int) (K N : Nat → Nat) (I : Nat → Nat → Int) (P : Nat → Nat → Option Nat) (z : Nat) (Q : am_V → am_T) : Prop := am_E d m_X3_drop 37 0 0 [some (am_r l0), none, none, some (am_i l3)] [] K N I P z Q am_nx
set_option maxRecDepth 100000 in
set_option maxHeartbeats 4000000 in
theorem wf_X3_drop {d : Nat} (hd : 1 ≤ d) {s : Nat} {a1 : Int} {K N : Nat → Nat} {I : Nat → Nat → Int} {P : Nat → Nat → Option Nat} {z : Nat} {Q : am_V → am_T} (h :
  K s = 3 ∧ am_C (d - 1) m_X3_placeFor [am_r s, am_i a1] K N I P z (fun v K1 N2 I3 P4 z5 => am_iv v fun x7 =>
    K1 s = 3 ∧ ((I3 s 2 ≤ x7 →
    Q am_nl K1 N2 I3 P4 z5) ∧
    (¬ (I3 s 2 ≤ x7) →
    ∃ b9, P4 s 0 = some b9 ∧ K1 b9 = 10 ∧ (0 ≤ x7 ∧ x7 < N2 b9) ∧ ((I3 b9 (Int.toNat x7) = a1 →
      ∀ I11, I11 = am_u2 I3 s 2 (am_wr (I3 s 2 - 1)) → L_X3_drop_37 d s x7 K1 N2 I11 P4 z5 Q) ∧
      (¬ (I3 b9 (Int.toNat x7) = a1) →
      Q am_nl K1 N2 I3 P4 z5))))) am_nx) :
  am_C d m_X3_drop [am_r s, am_i a1] K N I P z Q am_nx := by
  refine am_C_of ok_X3_drop (fun v hv => am_v1all _ rfl v hv) (Nat.le_of_ble_eq_true rfl) ?_
  show am_E d m_X3_drop 0 0 0 [some (am_r s), some (am_i a1), none, none] [] K N I P z Q am_nx
  refine e_aload_n dX3_drop_0 rfl trivial ?_
  refine e_iload_n dX3_drop_1 rfl ?_
  obtain ⟨hK6, h⟩ := h
  refine e_callV (Mc := m_X3_placeFor) (vs := [am_i a1]) (st := []) dX3_drop_2 ok_X3_placeFor rfl ⟨by decide, rfl⟩ mk_X3_28 im_X3_placeFor sl_X3_placeFor rfl rfl hK6 (by omega) (Nat.le_of_ble_eq_true rfl) (Nat.le_of_ble_eq_true rfl) (Nat.le_of_ble_eq_true rfl) am_xh_nx (am_C_mono h (fun v K1 N2 I3 P4 z5 h => ?_) (fun _ _ _ _ _ _ h => h))
  replace h := am_iv_or h
  obtain ⟨x7, rfl, h⟩ := h
  show am_E d m_X3_drop 5 _ _ _ [am_i x7] K1 N2 I3 P4 z5 Q am_nx
  refine e_istore_n dX3_drop_5 ?_
  refine e_iload_n dX3_drop_6 rfl ?_
  refine e_aload_n dX3_drop_7 rfl trivial ?_
  obtain ⟨hK8, h⟩ := h
  refine e_geti dX3_drop_8 fk_X3_24 rfl hK8 ?_
  refine e_icmp_ge (tgt := 24) dX3_drop_11 (by decide) (fun hc => ?_) (fun hc => ?_)
  · replace h := h.1 hc
    exact e_ret_v dX3_drop_24 rfl (Nat.le_of_ble_eq_true rfl) (Nat.le_of_ble_eq_true rfl) h
  · replace h := h.2 hc
    refine e_aload_n dX3_drop_14 rfl trivial ?_
    obtain ⟨b9, hb9, h⟩ := h
    refine e_getr1 dX3_drop_15 fk_X3_9 rfl hK8 hb9 ?_
    refine e_iload_n dX3_drop_18 rfl ?_
    obtain ⟨hK10, h⟩ := h
    obtain ⟨⟨h0, h1⟩, h⟩ := h
    refine e_iald dX3_drop_19 hK10 h0 h1 ?_
    refine e_iload_n dX3_drop_20 rfl ?_
    refine e_icmp_eq (tgt := 25) dX3_drop_21 (by decide) (fun hc => ?_) (fun hc => ?_)
    · replace h := h.1 hc
      refine e_aload_n dX3_drop_25 rfl trivial ?_
      refine e_dup dX3_drop_26 rfl ?_
      refine e_geti dX3_drop_27 fk_X3_24 rfl hK8 ?_
      refine e_iconst dX3_drop_30 ?_
      refine e_isub dX3_drop_31 ?_
      refine e_puti dX3_drop_32 fk_X3_24 rfl (Or.inl rfl) hK8 ?_
      replace h := h _ rfl
      generalize am_u2 I3 s 2 (am_wr (I3 s 2 - 1)) = I11 at h ⊢
      refine e_iload_n dX3_drop_35 rfl ?_
      refine e_istore_n dX3_drop_36 ?_
      exact e_forget (am_sub_k (am_sub_d (am_sub_d (am_sub_k am_sub_nil)))) h
    · replace h := h.2 hc
      exact e_ret_v dX3_drop_24 rfl (Nat.le_of_ble_eq_true rfl) (Nat.le_of_ble_eq_true rfl) h
set_option maxRecDepth 100000 in
set_option maxHeartbeats 4000000 in
theorem wf_X3_drop_37 {d : Nat} {l0 : Nat} {l3 : Int} {K N : Nat → Nat} {I : Nat → Nat → Int} {P : Nat → Nat → Option Nat} {z : Nat} {Q : am_V → am_T} (h :
  K l0 = 3 ∧ ((I l0 2 ≤ l3 →
    Q am_nl K N I P z) ∧
    (¬ (I l0 2 ≤ l3) →
    ∃ b2, P l0 0 = some b2 ∧ K b2 = 10 ∧ (0 ≤ am_wr (l3 + 1) ∧ am_wr (l3 + 1) < N b2) ∧ (0 ≤ l3 ∧ l3 < N b2) ∧ ∀ I4, I4 = am_u2 I b2 (Int.toNat l3) (I b2 (Int.toNat (am_wr (l3 + 1)))) → ∃ b5, P l0 1 = some b5 ∧ K b5 = 10 ∧ (0 ≤ am_wr (l3 + 1) ∧ am_wr (l3 + 1) < N b5) ∧ (0 ≤ l3 ∧ l3 < N b5) ∧ ∀ I7, I7 = am_u2 I4 b5 (Int.toNat l3) (I4 b5 (Int.toNat (am_wr (l3 + 1)))) → L_X3_drop_37 d l0 (am_wr (l3 + 1)) K N I7 P z Q))) :
  L_X3_drop_37 d l0 l3 K N I P z Q := by
  unfold L_X3_drop_37
  refine e_iload_n dX3_drop_37 rfl ?_
  refine e_aload_n dX3_drop_38 rfl trivial ?_
  obtain ⟨hK1, h⟩ := h
  refine e_geti dX3_drop_39 fk_X3_24 rfl hK1 ?_
  refine e_icmp_ge (tgt := 79) dX3_drop_42 (by decide) (fun hc => ?_) (fun hc => ?_)
  · replace h := h.1 hc
    exact e_ret_v dX3_drop_79 rfl (Nat.le_of_ble_eq_true rfl) (Nat.le_of_ble_eq_true rfl) h
  · replace h := h.2 hc
    refine e_aload_n dX3_drop_45 rfl trivial ?_
    obtain ⟨b2, hb2, h⟩ := h
    refine e_getr1 dX3_drop_46 fk_X3_9 rfl hK1 hb2 ?_
    refine e_iload_n dX3_drop_49 rfl ?_
    refine e_aload_n dX3_drop_50 rfl trivial ?_
    refine e_getr1 dX3_drop_51 fk_X3_9 rfl hK1 hb2 ?_
    refine e_iload_n dX3_drop_54 rfl ?_
    refine e_iconst dX3_drop_55 ?_
    refine e_iadd dX3_drop_56 ?_
    obtain ⟨hK3, h⟩ := h
    obtain ⟨⟨h0, h1⟩, h⟩ := h
    refine e_iald dX3_drop_57 hK3 h0 h1 ?_
    obtain ⟨⟨h0, h1⟩, h⟩ := h
    refine e_iast dX3_drop_58 hK3 h0 h1 ?_
    replace h := h _ rfl
    generalize am_u2 I b2 (Int.toNat l3) (I b2 (Int.toNat (am_wr (l3 + 1)))) = I4 at h ⊢
    refine e_aload_n dX3_drop_59 rfl trivial ?_
    obtain ⟨b5, hb5, h⟩ := h
    refine e_getr1 dX3_drop_60 fk_X3_15 rfl hK1 hb5 ?_
    refine e_iload_n dX3_drop_63 rfl ?_
    refine e_aload_n dX3_drop_64 rfl trivial ?_
    refine e_getr1 dX3_drop_65 fk_X3_15 rfl hK1 hb5 ?_
    refine e_iload_n dX3_drop_68 rfl ?_
    refine e_iconst dX3_drop_69 ?_
    refine e_iadd dX3_drop_70 ?_
    obtain ⟨hK6, h⟩ := h
    obtain ⟨⟨h0, h1⟩, h⟩ := h
    refine e_iald dX3_drop_71 hK6 h0 h1 ?_
    obtain ⟨⟨h0, h1⟩, h⟩ := h
    refine e_iast dX3_drop_72 hK6 h0 h1 ?_
    replace h := h _ rfl
    generalize am_u2 I4 b5 (Int.toNat l3) (I4 b5 (Int.toNat (am_wr (l3 + 1)))) = I7 at h ⊢
    refine e_iinc dX3_drop_73 rfl ?_
    refine e_goto (tgt := 37) dX3_drop_76 (by decide) ?_
    exact e_forget (am_sub_k (am_sub_d (am_sub_d (am_sub_k am_sub_nil)))) h
def L_X3_countTo_4 (d : Nat) (l0 : Nat) (l1 : Int) (l2 : Int) (l3 : Int) (K N : Nat → Nat) (I : Nat → Nat → Int) (P : Nat → Nat → Option Nat) (z : Nat) (Q : am_V → am_T) : Prop := am_E d m_X3_countTo 4 0 0 [some (am_r l0), some (am_i l1), some (am_i l2), some (am_i l3)] [] K N I P z Q am_nx
set_option maxRecDepth 100000 in
set_option maxHeartbeats 4000000 in
theorem wf_X3_countTo {d : Nat} {s : Nat} {a1 : Int} {K N : Nat → Nat} {I : Nat → Nat → Int} {P : Nat → Nat → Option Nat} {z : Nat} {Q : am_V → am_T} (h :
  L_X3_countTo_4 d s a1 0 0 K N I P z Q) :
  am_C d m_X3_countTo [am_r s, am_i a1] K N I P z Q am_nx := by
  refine am_C_of ok_X3_countTo (fun v hv => am_v1all _ rfl v hv) (Nat.le_of_ble_eq_true rfl) ?_
  show am_E d m_X3_countTo 0 0 0 [some (am_r s), some (am_i a1), none, none] [] K N I P z Q am_nx
  refine e_iconst dX3_countTo_0 ?_
  refine e_istore_n dX3_countTo_1 ?_
  refine e_iconst dX3_countTo_2 ?_
  refine e_istore_n dX3_countTo_3 ?_
  exact e_forget (am_sub_k (am_sub_k (am_sub_k (am_sub_k am_sub_nil)))) h
set_option maxRecDepth 100000 in
set_option maxHeartbeats 4000000 in
theorem wf_X3_countTo_4 {d : Nat} {l0 : Nat} {l1 : Int} {l2 : Int} {l3 : Int} {K N : Nat → Nat} {I : Nat → Nat → Int} {P : Nat → Nat → Option Nat} {z : Nat} {Q : am_V → am_T} (h :
  K l0 = 3 ∧ ((I l0 2 ≤ l3 →
    Q (am_i l2) K N I P z) ∧
    (¬ (I l0 2 ≤ l3) →
    ∃ b2, P l0 1 = some b2 ∧ K b2 = 10 ∧ (0 ≤ l3 ∧ l3 < N b2) ∧ ((¬ I b2 (Int.toNat l3) = l1 →
      L_X3_countTo_4 d l0 l1 l2 (am_wr (l3 + 1)) K N I P z Q) ∧
      (I b2 (Int.toNat l3) = l1 →
      L_X3_countTo_4 d l0 l1 (am_wr (l2 + 1)) (am_wr (l3 + 1)) K N I P z Q))))) :
  L_X3_countTo_4 d l0 l1 l2 l3 K N I P z Q := by
  unfold L_X3_countTo_4
  refine e_iload_n dX3_countTo_4 rfl ?_
  refine e_aload_n dX3_countTo_5 rfl trivial ?_
  obtain ⟨hK1, h⟩ := h
  refine e_geti dX3_countTo_6 fk_X3_24 rfl hK1 ?_
  refine e_icmp_ge (tgt := 31) dX3_countTo_9 (by decide) (fun hc => ?_) (fun hc => ?_)
  · replace h := h.1 hc
    refine e_iload_n dX3_countTo_31 rfl ?_
    exact e_ret_i dX3_countTo_32 rfl (Nat.le_of_ble_eq_true rfl) (Nat.le_of_ble_eq_true rfl) h
  · replace h := h.2 hc
    refine e_aload_n dX3_countTo_12 rfl trivial ?_
    obtain ⟨b2, hb2, h⟩ := h
    refine e_getr1 dX3_countTo_13 fk_X3_15 rfl hK1 hb2 ?_
    refine e_iload_n dX3_countTo_16 rfl ?_
    obtain ⟨hK3, h⟩ := h
    obtain ⟨⟨h0, h1⟩, h⟩ := h
    refine e_iald dX3_countTo_17 hK3 h0 h1 ?_
    refine e_iload_n dX3_countTo_18 rfl ?_
    refine e_icmp_ne (tgt := 25) dX3_countTo_19 (by decide) (fun hc => ?_) (fun hc => ?_)
    · replace h := h.1 hc
      refine e_iinc dX3_countTo_25 rfl ?_
      refine e_goto (tgt := 4) dX3_countTo_28 (by decide) ?_
      exact e_forget (am_sub_k (am_sub_k (am_sub_k (am_sub_k am_sub_nil)))) h
    · replace h := h.2 hc
      refine e_iinc dX3_countTo_22 rfl ?_
      refine e_iinc dX3_countTo_25 rfl ?_
      refine e_goto (tgt := 4) dX3_countTo_28 (by decide) ?_
      exact e_forget (am_sub_k (am_sub_k (am_sub_k (am_sub_k am_sub_nil)))) h
set_option maxRecDepth 100000 in
set_option maxHeartbeats 4000000 in
theorem wf_X3_codeAndLane {d : Nat} {s : Nat} {a1 : Int} {K N : Nat → Nat} {I : Nat → Nat → Int} {P : Nat → Nat → Option Nat} {z : Nat} {Q : am_V → am_T} (h :
  ((a1 < 0 →
    Q (am_i (-1)) K N I P z) ∧
    (¬ (a1 < 0) →
    K s = 3 ∧ ((I s 2 ≤ a1 →
      Q (am_i (-1)) K N I P z) ∧
      (¬ (I s 2 ≤ a1) →
      ∃ b2, P s 0 = some b2 ∧ K b2 = 10 ∧ (0 ≤ a1 ∧ a1 < N b2) ∧ ∃ b4, P s 1 = some b4 ∧ K b4 = 10 ∧ (0 ≤ a1 ∧ a1 < N b4) ∧ Q (am_i (am_wr ((am_wr (10 * I b2 (Int.toNat a1))) + I b4 (Int.toNat a1)))) K N I P z))))) :
  am_C d m_X3_codeAndLane [am_r s, am_i a1] K N I P z Q am_nx := by
  refine am_C_of ok_X3_codeAndLane (fun v hv => am_v1all _ rfl v hv) (Nat.le_of_ble_eq_true rfl) ?_
  show am_E d m_X3_codeAndLane 0 0 0 [some (am_r s), some (am_i a1)] [] K N I P z Q am_nx
  refine e_iload_n dX3_codeAndLane_0 rfl ?_
  refine e_if_lt (tgt := 31) dX3_codeAndLane_1 (by decide) (fun hc => ?_) (fun hc => ?_)
  · replace h := h.1 hc
    refine e_iconst dX3_codeAndLane_31 ?_
    exact e_ret_i dX3_codeAndLane_32 rfl (Nat.le_of_ble_eq_true rfl) (Nat.le_of_ble_eq_true rfl) h
  · replace h := h.2 hc
    refine e_iload_n dX3_codeAndLane_4 rfl ?_
    refine e_aload_n dX3_codeAndLane_5 rfl trivial ?_
    obtain ⟨hK1, h⟩ := h
    refine e_geti dX3_codeAndLane_6 fk_X3_24 rfl hK1 ?_
    refine e_icmp_ge (tgt := 31) dX3_codeAndLane_9 (by decide) (fun hc => ?_) (fun hc => ?_)
    · replace h := h.1 hc
      refine e_iconst dX3_codeAndLane_31 ?_
      exact e_ret_i dX3_codeAndLane_32 rfl (Nat.le_of_ble_eq_true rfl) (Nat.le_of_ble_eq_true rfl) h
    · replace h := h.2 hc
      refine e_bipush dX3_codeAndLane_12 ?_
      refine e_aload_n dX3_codeAndLane_14 rfl trivial ?_
      obtain ⟨b2, hb2, h⟩ := h
      refine e_getr1 dX3_codeAndLane_15 fk_X3_9 rfl hK1 hb2 ?_
      refine e_iload_n dX3_codeAndLane_18 rfl ?_
      obtain ⟨hK3, h⟩ := h
      obtain ⟨⟨h0, h1⟩, h⟩ := h
      refine e_iald dX3_codeAndLane_19 hK3 h0 h1 ?_
      refine e_imul dX3_codeAndLane_20 ?_
      refine e_aload_n dX3_codeAndLane_21 rfl trivial ?_
      obtain ⟨b4, hb4, h⟩ := h
      refine e_getr1 dX3_codeAndLane_22 fk_X3_15 rfl hK1 hb4 ?_
      refine e_iload_n dX3_codeAndLane_25 rfl ?_
      obtain ⟨hK5, h⟩ := h
      obtain ⟨⟨h0, h1⟩, h⟩ := h
      refine e_iald dX3_codeAndLane_26 hK5 h0 h1 ?_
      refine e_iadd dX3_codeAndLane_27 ?_
      refine e_goto (tgt := 32) dX3_codeAndLane_28 (by decide) ?_
      exact e_ret_i dX3_codeAndLane_32 rfl (Nat.le_of_ble_eq_true rfl) (Nat.le_of_ble_eq_true rfl) h
set_option maxRecDepth 100000 in
set_option maxHeartbeats 4000000 in
theorem wf_X4_init {d : Nat} (hd : 1 ≤ d) {s : Nat} {K N : Nat → Nat} {I : Nat → Nat → Int} {P : Nat → Nat → Option Nat} {z : Nat} {Q : am_V → am_T} (h :
  (0 + 1 ≤ 4 ∧ 0 + 80 ≤ 320) ∧ ∀ K1 N2 b3 z4, K1 = am_u1 K (z + 4) 9 → N2 = am_u1 N (z + 4) (Int.toNat 80) → b3 = z + 4 → z4 = z + 1 → K1 s = 4 ∧ ∀ P7, P7 = am_p2 P s 0 (some b3) → (0 + 1 + 1 ≤ 4 ∧ 0 + 80 + 80 ≤ 320) ∧ ∀ K8 N9 b10 z11, K8 = am_u1 K1 (z4 + 4) 10 → N9 = am_u1 N2 (z4 + 4) (Int.toNat 80) → b10 = z4 + 4 → z11 = z4 + 1 → K8 s = 4 ∧ ∀ P14, P14 = am_p2 P7 s 1 (some b10) → (0 + 1 + 1 + 1 ≤ 4 ∧ 0 + 80 + 80 + 80 ≤ 320) ∧ ∀ K15 N16 b17 z18, K15 = am_u1 K8 (z11 + 4) 10 → N16 = am_u1 N9 (z11 + 4) (Int.toNat 80) → b17 = z11 + 4 → z18 = z11 + 1 → K15 s = 4 ∧ ∀ P21, P21 = am_p2 P14 s 2 (some b17) → (0 + 1 + 1 + 1 + 1 ≤ 4 ∧ 0 + 80 + 80 + 80 + 80 ≤ 320) ∧ ∀ K22 N23 b24 z25, K22 = am_u1 K15 (z18 + 4) 10 → N23 = am_u1 N16 (z18 + 4) (Int.toNat 80) → b24 = z18 + 4 → z25 = z18 + 1 → K22 s = 4 ∧ ∀ P28, P28 = am_p2 P21 s 3 (some b24) → (0 + 1 + 1 + 1 + 1 ≤ 4 ∧ 0 + 80 + 80 + 80 + 80 ≤ 320) ∧ Q am_nl K22 N23 I P28 z25) :
  am_C d m_X4_init [am_r s] K N I P z Q am_nx := by
  refine am_C_of ok_X4_init (fun v hv => am_v1all _ rfl v hv) (Nat.le_of_ble_eq_true rfl) ?_
  show am_E d m_X4_init 0 0 0 [some (am_r s)] [] K N I P z Q am_nx
  refine e_aload_n dX4_init_0 rfl trivial ?_
  refine e_oinit dX4_init_1 mk_X4_3 oi oc (by omega) (Nat.le_of_ble_eq_true rfl) ?_
  refine e_aload_n dX4_init_4 rfl trivial ?_
  refine e_bipush dX4_init_5 ?_
  obtain ⟨⟨hk9, hn9⟩, h⟩ := h
  refine e_newa_char dX4_init_7 ac_char (by decide) (by decide) hk9 hn9 ?_
  replace h := h _ _ _ _ rfl rfl rfl rfl
  have hK5 : (am_u1 K (z + 4) 9) (z + 4) = 9 := by simp [am_u1]
  generalize eK1 : am_u1 K (z + 4) 9 = K1 at h hK5 ⊢
  generalize eN2 : am_u1 N (z + 4) (Int.toNat 80) = N2 at h ⊢
  generalize eb3 : z + 4 = b3 at h hK5 ⊢
  generalize ez4 : z + 1 = z4 at h ⊢
  obtain ⟨hK6, h⟩ := h
  refine e_putrF1 dX4_init_9 fk_X4_9 rfl rfl rfl rfl hK6 ?_
  replace h := h _ rfl
  generalize am_p2 P s 0 (some b3) = P7 at h ⊢
  refine e_aload_n dX4_init_12 rfl trivial ?_
  refine e_bipush dX4_init_13 ?_
  obtain ⟨⟨hk9, hn9⟩, h⟩ := h
  refine e_newa_int dX4_init_15 ac_int (by decide) (by decide) hk9 hn9 ?_
  replace h := h _ _ _ _ rfl rfl rfl rfl
  have hK12 : (am_u1 K1 (z4 + 4) 10) (z4 + 4) = 10 := by simp [am_u1]
  generalize eK8 : am_u1 K1 (z4 + 4) 10 = K8 at h hK12 ⊢
  generalize eN9 : am_u1 N2 (z4 + 4) (Int.toNat 80) = N9 at h ⊢
  generalize eb10 : z4 + 4 = b10 at h hK12 ⊢
  generalize ez11 : z4 + 1 = z11 at h ⊢
  obtain ⟨hK13, h⟩ := h
  refine e_putrF1 dX4_init_17 fk_X4_15 rfl rfl rfl rfl hK13 ?_
  replace h := h _ rfl
  generalize am_p2 P7 s 1 (some b10) = P14 at h ⊢
  refine e_aload_n dX4_init_20 rfl trivial ?_
  refine e_bipush dX4_init_21 ?_
  obtain ⟨⟨hk9, hn9⟩, h⟩ := h
  refine e_newa_int dX4_init_23 ac_int (by decide) (by decide) hk9 hn9 ?_
  replace h := h _ _ _ _ rfl rfl rfl rfl
  have hK19 : (am_u1 K8 (z11 + 4) 10) (z11 + 4) = 10 := by simp [am_u1]
  generalize eK15 : am_u1 K8 (z11 + 4) 10 = K15 at h hK19 ⊢
  generalize eN16 : am_u1 N9 (z11 + 4) (Int.toNat 80) = N16 at h ⊢
  generalize eb17 : z11 + 4 = b17 at h hK19 ⊢
  generalize ez18 : z11 + 1 = z18 at h ⊢
  obtain ⟨hK20, h⟩ := h
  refine e_putrF1 dX4_init_25 fk_X4_19 rfl rfl rfl rfl hK20 ?_
  replace h := h _ rfl
  generalize am_p2 P14 s 2 (some b17) = P21 at h ⊢
  refine e_aload_n dX4_init_28 rfl trivial ?_
  refine e_bipush dX4_init_29 ?_
  obtain ⟨⟨hk9, hn9⟩, h⟩ := h
  refine e_newa_int dX4_init_31 ac_int (by decide) (by decide) hk9 hn9 ?_
  replace h := h _ _ _ _ rfl rfl rfl rfl
  have hK26 : (am_u1 K15 (z18 + 4) 10) (z18 + 4) = 10 := by simp [am_u1]
  generalize eK22 : am_u1 K15 (z18 + 4) 10 = K22 at h hK26 ⊢
  generalize eN23 : am_u1 N16 (z18 + 4) (Int.toNat 80) = N23 at h ⊢
  generalize eb24 : z18 + 4 = b24 at h hK26 ⊢
  generalize ez25 : z18 + 1 = z25 at h ⊢
  obtain ⟨hK27, h⟩ := h
  refine e_putrF1 dX4_init_33 fk_X4_22 rfl rfl rfl rfl hK27 ?_
  replace h := h _ rfl
  generalize am_p2 P21 s 3 (some b24) = P28 at h ⊢
  obtain ⟨⟨hk9, hn9⟩, h⟩ := h
  exact e_ret_v dX4_init_36 rfl hk9 hn9 h
set_option maxRecDepth 100000 in
set_option maxHeartbeats 4000000 in
theorem wf_X4_restart {d : Nat} {s : Nat} {K N : Nat → Nat} {I : Nat → Nat → Int} {P : Nat → Nat → Option Nat} {z : Nat} {Q : am_V → am_T} (h :
  K s = 4 ∧ ∀ I2, I2 = am_u2 I s 4 0 → ∀ I3, I3 = am_u2 I2 s 5 0 → Q am_nl K N I3 P z) :
  am_C d m_X4_restart [am_r s] K N I P z Q am_nx := by
  refine am_C_of ok_X4_restart (fun v hv => am_v1all _ rfl v hv) (Nat.le_of_ble_eq_true rfl) ?_
  show am_E d m_X4_restart 0 0 0 [some (am_r s)] [] K N I P z Q am_nx
  refine e_aload_n dX4_restart_0 rfl trivial ?_
  refine e_iconst dX4_restart_1 ?_
  obtain ⟨hK1, h⟩ := h
  refine e_puti dX4_restart_2 fk_X4_25 rfl (Or.inl rfl) hK1 ?_
  replace h := h _ rfl
  generalize am_u2 I s 4 0 = I2 at h ⊢
  refine e_aload_n dX4_restart_5 rfl trivial ?_
  refine e_iconst dX4_restart_6 ?_
  refine e_puti dX4_restart_7 fk_X4_29 rfl (Or.inl rfl) hK1 ?_
  replace h := h _ rfl
  generalize am_u2 I2 s 5 0 = I3 at h ⊢
  exact e_ret_v dX4_restart_10 rfl (Nat.le_of_ble_eq_true rfl) (Nat.le_of_ble_eq_true rfl) h
set_option maxRecDepth 100000 in
set_option maxHeartbeats 4000000 in
theorem wf_X4_addLeaf {d : Nat} (hd : 1 ≤ d) {s : Nat} {a1 : Int} {K N : Nat → Nat} {I : Nat → Nat → Int} {P : Nat → Nat → Option Nat} {z : Nat} {Q : am_V → am_T} (h :
  K s = 4 ∧ am_C (d - 1) m_X4_addNode [am_r s, am_i 120, am_i a1, am_i 0] K N I P z (fun v K1 N2 I3 P4 z5 => am_iv v fun x7 =>
    Q am_nl K1 N2 I3 P4 z5) am_nx) :
  am_C d m_X4_addLeaf [am_r s, am_i a1] K N I P z Q am_nx := by
  refine am_C_of ok_X4_addLeaf (fun v hv => am_v1all _ rfl v hv) (Nat.le_of_ble_eq_true rfl) ?_
  show am_E d m_X4_addLeaf 0 0 0 [some (am_r s), some (am_i a1)] [] K N I P z Q am_nx
  refine e_aload_n dX4_addLeaf_0 rfl trivial ?_
  refine e_bipush dX4_addLeaf_1 ?_
  refine e_iload_n dX4_addLeaf_3 rfl ?_
  refine e_iconst dX4_addLeaf_4 ?_
  obtain ⟨hK6, h⟩ := h
  refine e_callV (Mc := m_X4_addNode) (vs := [am_i 120, am_i a1, am_i 0]) (st := []) dX4_addLeaf_5 ok_X4_addNode rfl ⟨by decide, rfl⟩ mk_X4_32 im_X4_addNode sl_X4_addNode rfl rfl hK6 (by omega) (Nat.le_of_ble_eq_true rfl) (Nat.le_of_ble_eq_true rfl) (Nat.le_of_ble_eq_true rfl) am_xh_nx (am_C_mono h (fun v K1 N2 I3 P4 z5 h => ?_) (fun _ _ _ _ _ _ h => h))
  replace h := am_iv_or h
  obtain ⟨x7, rfl, h⟩ := h
  show am_E d m_X4_addLeaf 8 _ _ _ [am_i x7] K1 N2 I3 P4 z5 Q am_nx
  refine e_pop dX4_addLeaf_8 rfl ?_
  exact e_ret_v dX4_addLeaf_9 rfl (Nat.le_of_ble_eq_true rfl) (Nat.le_of_ble_eq_true rfl) h
set_option maxRecDepth 100000 in
set_option maxHeartbeats 4000000 in
theorem wf_X4_addCondition {d : Nat} (hd : 1 ≤ d) {s : Nat} {a1 : Int} {a2 : Int} {a3 : Int} {K N : Nat → Nat} {I : Nat → Nat → Int} {P : Nat → Nat → Option Nat} {z : Nat} {Q : am_V → am_T} (h :
  K s = 4 ∧ ∀ I2, I2 = am_u2 I s 5 (am_wr (I s 5 + 1)) → am_C (d - 1) m_X4_addNode [am_r s, am_i (am_wr ((Int32.ofInt a1).toUInt32 % 65536).toInt32.toInt), am_i a2, am_i a3] K N I2 P z (fun v K3 N4 I5 P6 z7 => am_iv v fun x8 =>
    Q (am_i x8) K3 N4 I5 P6 z7) am_nx) :
  am_C d m_X4_addCondition [am_r s, am_i a1, am_i a2, am_i a3] K N I P z Q am_nx := by
  refine am_C_of ok_X4_addCondition (fun v hv => am_v1all _ rfl v hv) (Nat.le_of_ble_eq_true rfl) ?_
  show am_E d m_X4_addCondition 0 0 0 [some (am_r s), some (am_i a1), some (am_i a2), some (am_i a3)] [] K N I P z Q am_nx
  refine e_aload_n dX4_addCondition_0 rfl trivial ?_
  refine e_dup dX4_addCondition_1 rfl ?_
  obtain ⟨hK1, h⟩ := h
  refine e_geti dX4_addCondition_2 fk_X4_29 rfl hK1 ?_
  refine e_iconst dX4_addCondition_5 ?_
  refine e_iadd dX4_addCondition_6 ?_
  refine e_puti dX4_addCondition_7 fk_X4_29 rfl (Or.inl rfl) hK1 ?_
  replace h := h _ rfl
  generalize am_u2 I s 5 (am_wr (I s 5 + 1)) = I2 at h ⊢
  refine e_aload_n dX4_addCondition_10 rfl trivial ?_
  refine e_iload_n dX4_addCondition_11 rfl ?_
  refine e_i2c dX4_addCondition_12 ?_
  refine e_iload_n dX4_addCondition_13 rfl ?_
  refine e_iload_n dX4_addCondition_14 rfl ?_
  refine e_callV (Mc := m_X4_addNode) (vs := [am_i (am_wr ((Int32.ofInt a1).toUInt32 % 65536).toInt32.toInt), am_i a2, am_i a3]) (st := []) dX4_addCondition_15 ok_X4_addNode rfl ⟨by decide, rfl⟩ mk_X4_32 im_X4_addNode sl_X4_addNode rfl rfl hK1 (by omega) (Nat.le_of_ble_eq_true rfl) (Nat.le_of_ble_eq_true rfl) (Nat.le_of_ble_eq_true rfl) am_xh_nx (am_C_mono h (fun v K3 N4 I5 P6 z7 h => ?_) (fun _ _ _ _ _ _ h => h))
  replace h := am_iv_or h
  obtain ⟨x8, rfl, h⟩ := h
  show am_E d m_X4_addCondition 18 _ _ _ [am_i x8] K3 N4 I5 P6 z7 Q am_nx
  exact e_ret_i dX4_addCondition_18 rfl (Nat.le_of_ble_eq_true rfl) (Nat.le_of_ble_eq_true rfl) h
set_option maxRecDepth 100000 in
set_option maxHeartbeats 4000000 in
theorem wf_X4_addNode {d : Nat} {s : Nat} {a1 : Int} {a2 : Int} {a3 : Int} {K N : Nat → Nat} {I : Nat → Nat → Int} {P : Nat → Nat → Option Nat} {z : Nat} {Q : am_V → am_T} (h :
  K s = 4 ∧ ((I s 4 < 80 →
    ∃ b2, P s 0 = some b2 ∧ K b2 = 9 ∧ (0 ≤ I s 4 ∧ I s 4 < N b2) ∧ (0 ≤ a1 ∧ a1 < 65536) ∧ ∀ I4, I4 = am_u2 I b2 (Int.toNat (I s 4)) a1 → ∃ b5, P s 1 = some b5 ∧ K b5 = 10 ∧ (0 ≤ I4 s 4 ∧ I4 s 4 < N b5) ∧ ∀ I7, I7 = am_u2 I4 b5 (Int.toNat (I4 s 4)) a2 → ∃ b8, P s 2 = some b8 ∧ K b8 = 10 ∧ (0 ≤ I7 s 4 ∧ I7 s 4 < N b8) ∧ ∀ I10, I10 = am_u2 I7 b8 (Int.toNat (I7 s 4)) a3 → ∃ b11, P s 3 = some b11 ∧ K b11 = 10 ∧ (0 ≤ I10 s 4 ∧ I10 s 4 < N b11) ∧ ∀ I13, I13 = am_u2 I10 b11 (Int.toNat (I10 s 4)) (-1) → ∀ I14, I14 = am_u2 I13 s 4 (am_wr (I13 s 4 + 1)) → Q (am_i (am_wr (I14 s 4 - 1))) K N I14 P z) ∧
    (¬ (I s 4 < 80) →
    Q (am_i (-1)) K N I P z))) :
  am_C d m_X4_addNode [am_r s, am_i a1, am_i a2, am_i a3] K N I P z Q am_nx := by
  refine am_C_of ok_X4_addNode (fun v hv => am_v1all _ rfl v hv) (Nat.le_of_ble_eq_true rfl) ?_
  show am_E d m_X4_addNode 0 0 0 [some (am_r s), some (am_i a1), some (am_i a2), some (am_i a3)] [] K N I P z Q am_nx
  refine e_aload_n dX4_addNode_0 rfl trivial ?_
  obtain ⟨hK1, h⟩ := h
  refine e_geti dX4_addNode_1 fk_X4_25 rfl hK1 ?_
  refine e_bipush dX4_addNode_4 ?_
  refine e_icmp_lt (tgt := 11) dX4_addNode_6 (by decide) (fun hc => ?_) (fun hc => ?_)
  · replace h := h.1 hc
    refine e_aload_n dX4_addNode_11 rfl trivial ?_
    obtain ⟨b2, hb2, h⟩ := h
    refine e_getr1 dX4_addNode_12 fk_X4_9 rfl hK1 hb2 ?_
    refine e_aload_n dX4_addNode_15 rfl trivial ?_
    refine e_geti dX4_addNode_16 fk_X4_25 rfl hK1 ?_
    refine e_iload_n dX4_addNode_19 rfl ?_
    obtain ⟨hK3, h⟩ := h
    obtain ⟨⟨h0, h1⟩, h⟩ := h
    obtain ⟨hch, h⟩ := h
    refine e_cast dX4_addNode_20 hK3 h0 h1 hch ?_
    replace h := h _ rfl
    generalize am_u2 I b2 (Int.toNat (I s 4)) a1 = I4 at h ⊢
    refine e_aload_n dX4_addNode_21 rfl trivial ?_
    obtain ⟨b5, hb5, h⟩ := h
    refine e_getr1 dX4_addNode_22 fk_X4_15 rfl hK1 hb5 ?_
    refine e_aload_n dX4_addNode_25 rfl trivial ?_
    refine e_geti dX4_addNode_26 fk_X4_25 rfl hK1 ?_
    refine e_iload_n dX4_addNode_29 rfl ?_
    obtain ⟨hK6, h⟩ := h
    obtain ⟨⟨h0, h1⟩, h⟩ := h
    refine e_iast dX4_addNode_30 hK6 h0 h1 ?_
    replace h := h _ rfl
    generalize am_u2 I4 b5 (Int.toNat (I4 s 4)) a2 = I7 at h ⊢
    refine e_aload_n dX4_addNode_31 rfl trivial ?_
    obtain ⟨b8, hb8, h⟩ := h
    refine e_getr1 dX4_addNode_32 fk_X4_19 rfl hK1 hb8 ?_
    refine e_aload_n dX4_addNode_35 rfl trivial ?_
    refine e_geti dX4_addNode_36 fk_X4_25 rfl hK1 ?_
    refine e_iload_n dX4_addNode_39 rfl ?_
    obtain ⟨hK9, h⟩ := h
    obtain ⟨⟨h0, h1⟩, h⟩ := h
    refine e_iast dX4_addNode_40 hK9 h0 h1 ?_
    replace h := h _ rfl
    generalize am_u2 I7 b8 (Int.toNat (I7 s 4)) a3 = I10 at h ⊢
    refine e_aload_n dX4_addNode_41 rfl trivial ?_
    obtain ⟨b11, hb11, h⟩ := h
    refine e_getr1 dX4_addNode_42 fk_X4_22 rfl hK1 hb11 ?_
    refine e_aload_n dX4_addNode_45 rfl trivial ?_
    refine e_geti dX4_addNode_46 fk_X4_25 rfl hK1 ?_
    refine e_iconst dX4_addNode_49 ?_
    obtain ⟨hK12, h⟩ := h
    obtain ⟨⟨h0, h1⟩, h⟩ := h
    refine e_iast dX4_addNode_50 hK12 h0 h1 ?_
    replace h := h _ rfl
    generalize am_u2 I10 b11 (Int.toNat (I10 s 4)) (-1) = I13 at h ⊢
    refine e_aload_n dX4_addNode_51 rfl trivial ?_
    refine e_dup dX4_addNode_52 rfl ?_
    refine e_geti dX4_addNode_53 fk_X4_25 rfl hK1 ?_
    refine e_iconst dX4_addNode_56 ?_
    refine e_iadd dX4_addNode_57 ?_
    refine e_puti dX4_addNode_58 fk_X4_25 rfl (Or.inl rfl) hK1 ?_
    replace h := h _ rfl
    generalize am_u2 I13 s 4 (am_wr (I13 s 4 + 1)) = I14 at h ⊢
    refine e_aload_n dX4_addNode_61 rfl trivial ?_
    refine e_geti dX4_addNode_62 fk_X4_25 rfl hK1 ?_
    refine e_iconst dX4_addNode_65 ?_
    refine e_isub dX4_addNode_66 ?_
    exact e_ret_i dX4_addNode_67 rfl (Nat.le_of_ble_eq_true rfl) (Nat.le_of_ble_eq_true rfl) h
  · replace h := h.2 hc
    refine e_iconst dX4_addNode_9 ?_
    exact e_ret_i dX4_addNode_10 rfl (Nat.le_of_ble_eq_true rfl) (Nat.le_of_ble_eq_true rfl) h
set_option maxRecDepth 100000 in
set_option maxHeartbeats 4000000 in
theorem wf_X4_otherwise {d : Nat} {s : Nat} {a1 : Int} {K N : Nat → Nat} {I : Nat → Nat → Int} {P : Nat → Nat → Option Nat} {z : Nat} {Q : am_V → am_T} (h :
  ((a1 < 0 →
    Q am_nl K N I P z) ∧
    (¬ (a1 < 0) →
    K s = 4 ∧ ((I s 4 ≤ a1 →
      Q am_nl K N I P z) ∧
      (¬ (I s 4 ≤ a1) →
      ∃ b2, P s 3 = some b2 ∧ K b2 = 10 ∧ (0 ≤ a1 ∧ a1 < N b2) ∧ ∀ I4, I4 = am_u2 I b2 (Int.toNat a1) (I s 4) → Q am_nl K N I4 P z))))) :
  am_C d m_X4_otherwise [am_r s, am_i a1] K N I P z Q am_nx := by
  refine am_C_of ok_X4_otherwise (fun v hv => am_v1all _ rfl v hv) (Nat.le_of_ble_eq_true rfl) ?_
  show am_E d m_X4_otherwise 0 0 0 [some (am_r s), some (am_i a1)] [] K N I P z Q am_nx
  refine e_iload_n dX4_otherwise_0 rfl ?_
  refine e_if_lt (tgt := 22) dX4_otherwise_1 (by decide) (fun hc => ?_) (fun hc => ?_)
  · replace h := h.1 hc
    exact e_ret_v dX4_otherwise_22 rfl (Nat.le_of_ble_eq_true rfl) (Nat.le_of_ble_eq_true rfl) h
  · replace h := h.2 hc
    refine e_iload_n dX4_otherwise_4 rfl ?_
    refine e_aload_n dX4_otherwise_5 rfl trivial ?_
    obtain ⟨hK1, h⟩ := h
    refine e_geti dX4_otherwise_6 fk_X4_25 rfl hK1 ?_
    refine e_icmp_ge (tgt := 22) dX4_otherwise_9 (by decide) (fun hc => ?_) (fun hc => ?_)
    · replace h := h.1 hc
      exact e_ret_v dX4_otherwise_22 rfl (Nat.le_of_ble_eq_true rfl) (Nat.le_of_ble_eq_true rfl) h
    · replace h := h.2 hc
      refine e_aload_n dX4_otherwise_12 rfl trivial ?_
      obtain ⟨b2, hb2, h⟩ := h
      refine e_getr1 dX4_otherwise_13 fk_X4_22 rfl hK1 hb2 ?_
      refine e_iload_n dX4_otherwise_16 rfl ?_
      refine e_aload_n dX4_otherwise_17 rfl trivial ?_
      refine e_geti dX4_otherwise_18 fk_X4_25 rfl hK1 ?_
      obtain ⟨hK3, h⟩ := h
      obtain ⟨⟨h0, h1⟩, h⟩ := h
      refine e_iast dX4_otherwise_21 hK3 h0 h1 ?_
      replace h := h _ rfl
      generalize am_u2 I b2 (Int.toNat a1) (I s 4) = I4 at h ⊢
      exact e_ret_v dX4_otherwise_22 rfl (Nat.le_of_ble_eq_true rfl) (Nat.le_of_ble_eq_true rfl) h
def L_X4_laneBy_5 (d : Nat) (l0 : Nat) (l1 : Int) (l2 : Int) (l3 : Int) (l4 : Int) (K N : Nat → Nat) (I : Nat → Nat → Int) (P : Nat → Nat → Option Nat) (z : Nat) (Q : am_V → am_T) : Prop := am_E d m_X4_laneBy 5 0 0 [some (am_r l0), some (am_i l1), some (am_i l2), some (am_i l3), some (am_i l4)] [] K N I P z Q am_nx
set_option maxRecDepth 100000 in
set_option maxHeartbeats 4000000 in
theorem wf_X4_laneBy {d : Nat} {s : Nat} {a1 : Int} {a2 : Int} {K N : Nat → Nat} {I : Nat → Nat → Int} {P : Nat → Nat → Option Nat} {z : Nat} {Q : am_V → am_T} (h :
  L_X4_laneBy_5 d s a1 a2 0 0 K N I P z Q) :
  am_C d m_X4_laneBy [am_r s, am_i a1, am_i a2] K N I P z Q am_nx := by
  refine am_C_of ok_X4_laneBy (fun v hv => am_v1all _ rfl v hv) (Nat.le_of_ble_eq_true rfl) ?_
  show am_E d m_X4_laneBy 0 0 0 [some (am_r s), some (am_i a1), some (am_i a2), none, none] [] K N I P z Q am_nx
  refine e_iconst dX4_laneBy_0 ?_
  refine e_istore_n dX4_laneBy_1 ?_
  refine e_iconst dX4_laneBy_2 ?_
  refine e_istore dX4_laneBy_3 ?_
  exact e_forget (am_sub_k (am_sub_k (am_sub_k (am_sub_k (am_sub_k am_sub_nil))))) h
set_option maxRecDepth 100000 in
set_option maxHeartbeats 4000000 in
theorem wf_X4_laneBy_5 {d : Nat} (hd : 1 ≤ d) {l0 : Nat} {l1 : Int} {l2 : Int} {l3 : Int} {l4 : Int} {K N : Nat → Nat} {I : Nat → Nat → Int} {P : Nat → Nat → Option Nat} {z : Nat} {Q : am_V → am_T} (h :
  ((80 ≤ l4 →
    Q (am_i (-1)) K N I P z) ∧
    (¬ (80 ≤ l4) →
    ((l3 < 0 →
      Q (am_i (-1)) K N I P z) ∧
      (¬ (l3 < 0) →
      K l0 = 4 ∧ ((l3 < I l0 4 →
        ∃ b2, P l0 0 = some b2 ∧ K b2 = 9 ∧ (0 ≤ l3 ∧ l3 < N b2) ∧ ((¬ I b2 (Int.toNat l3) = 120 →
          (0 ≤ l3 ∧ l3 < N b2) ∧ ∃ b4, P l0 1 = some b4 ∧ K b4 = 10 ∧ (0 ≤ l3 ∧ l3 < N b4) ∧ ∃ b6, P l0 2 = some b6 ∧ K b6 = 10 ∧ (0 ≤ l3 ∧ l3 < N b6) ∧ am_C (d - 1) m_X4_holds [am_i (I b2 (Int.toNat l3)), am_i (I b4 (Int.toNat l3)), am_i (I b6 (Int.toNat l3)), am_i l1, am_i l2] K N I P z (fun v K8 N9 I10 P11 z12 => am_iv v fun x13 =>
            ((x13 = 0 →
            K8 l0 = 4 ∧ ∃ b15, P11 l0 3 = some b15 ∧ K8 b15 = 10 ∧ (0 ≤ l3 ∧ l3 < N9 b15) ∧ L_X4_laneBy_5 d l0 l1 l2 (I10 b15 (Int.toNat l3)) (am_wr (l4 + 1)) K8 N9 I10 P11 z12 Q) ∧
            (¬ (x13 = 0) →
            L_X4_laneBy_5 d l0 l1 l2 (am_wr (l3 + 1)) (am_wr (l4 + 1)) K8 N9 I10 P11 z12 Q))) am_nx) ∧
          (I b2 (Int.toNat l3) = 120 →
          ∃ b17, P l0 1 = some b17 ∧ K b17 = 10 ∧ (0 ≤ l3 ∧ l3 < N b17) ∧ Q (am_i (I b17 (Int.toNat l3))) K N I P z))) ∧
        (¬ (l3 < I l0 4) →
        Q (am_i (-1)) K N I P z))))))) :
  L_X4_laneBy_5 d l0 l1 l2 l3 l4 K N I P z Q := by
  unfold L_X4_laneBy_5
  refine e_iload dX4_laneBy_5 rfl ?_
  refine e_bipush dX4_laneBy_7 ?_
  refine e_icmp_ge (tgt := 89) dX4_laneBy_9 (by decide) (fun hc => ?_) (fun hc => ?_)
  · replace h := h.1 hc
    refine e_iconst dX4_laneBy_89 ?_
    exact e_ret_i dX4_laneBy_90 rfl (Nat.le_of_ble_eq_true rfl) (Nat.le_of_ble_eq_true rfl) h
  · replace h := h.2 hc
    refine e_iload_n dX4_laneBy_12 rfl ?_
    refine e_if_lt (tgt := 24) dX4_laneBy_13 (by decide) (fun hc => ?_) (fun hc => ?_)
    · replace h := h.1 hc
      refine e_iconst dX4_laneBy_24 ?_
      exact e_ret_i dX4_laneBy_25 rfl (Nat.le_of_ble_eq_true rfl) (Nat.le_of_ble_eq_true rfl) h
    · replace h := h.2 hc
      refine e_iload_n dX4_laneBy_16 rfl ?_
      refine e_aload_n dX4_laneBy_17 rfl trivial ?_
      obtain ⟨hK1, h⟩ := h
      refine e_geti dX4_laneBy_18 fk_X4_25 rfl hK1 ?_
      refine e_icmp_lt (tgt := 26) dX4_laneBy_21 (by decide) (fun hc => ?_) (fun hc => ?_)
      · replace h := h.1 hc
        refine e_aload_n dX4_laneBy_26 rfl trivial ?_
        obtain ⟨b2, hb2, h⟩ := h
        refine e_getr1 dX4_laneBy_27 fk_X4_9 rfl hK1 hb2 ?_
        refine e_iload_n dX4_laneBy_30 rfl ?_
        obtain ⟨hK3, h⟩ := h
        obtain ⟨⟨h0, h1⟩, h⟩ := h
        refine e_cald dX4_laneBy_31 hK3 h0 h1 ?_
        refine e_bipush dX4_laneBy_32 ?_
        refine e_icmp_ne (tgt := 44) dX4_laneBy_34 (by decide) (fun hc => ?_) (fun hc => ?_)
        · replace h := h.1 hc
          refine e_aload_n dX4_laneBy_44 rfl trivial ?_
          refine e_getr1 dX4_laneBy_45 fk_X4_9 rfl hK1 hb2 ?_
          refine e_iload_n dX4_laneBy_48 rfl ?_
          obtain ⟨⟨h0, h1⟩, h⟩ := h
          refine e_cald dX4_laneBy_49 hK3 h0 h1 ?_
          refine e_aload_n dX4_laneBy_50 rfl trivial ?_
          obtain ⟨b4, hb4, h⟩ := h
          refine e_getr1 dX4_laneBy_51 fk_X4_15 rfl hK1 hb4 ?_
          refine e_iload_n dX4_laneBy_54 rfl ?_
          obtain ⟨hK5, h⟩ := h
          obtain ⟨⟨h0, h1⟩, h⟩ := h
          refine e_iald dX4_laneBy_55 hK5 h0 h1 ?_
          refine e_aload_n dX4_laneBy_56 rfl trivial ?_
          obtain ⟨b6, hb6, h⟩ := h
          refine e_getr1 dX4_laneBy_57 fk_X4_19 rfl hK1 hb6 ?_
          refine e_iload_n dX4_laneBy_60 rfl ?_
          obtain ⟨hK7, h⟩ := h
          obtain ⟨⟨h0, h1⟩, h⟩ := h
          refine e_iald dX4_laneBy_61 hK7 h0 h1 ?_
          refine e_iload_n dX4_laneBy_62 rfl ?_
          refine e_iload_n dX4_laneBy_63 rfl ?_
          refine e_callS (Mc := m_X4_holds) (vs := [am_i (I b2 (Int.toNat l3)), am_i (I b4 (Int.toNat l3)), am_i (I b6 (Int.toNat l3)), am_i l1, am_i l2]) (st := []) dX4_laneBy_64 ok_X4_holds rfl mk_X4_36 sm_X4_holds rfl rfl (by omega) (Nat.le_of_ble_eq_true rfl) (Nat.le_of_ble_eq_true rfl) (Nat.le_of_ble_eq_true rfl) am_xh_nx (am_C_mono h (fun v K8 N9 I10 P11 z12 h => ?_) (fun _ _ _ _ _ _ h => h))
          replace h := am_iv_or h
          obtain ⟨x13, rfl, h⟩ := h
          show am_E d m_X4_laneBy 67 _ _ _ [am_i x13] K8 N9 I10 P11 z12 Q am_nx
          refine e_if_eq (tgt := 76) dX4_laneBy_67 (by decide) (fun hc => ?_) (fun hc => ?_)
          · replace h := h.1 hc
            refine e_aload_n dX4_laneBy_76 rfl trivial ?_
            obtain ⟨hK14, h⟩ := h
            obtain ⟨b15, hb15, h⟩ := h
            refine e_getr1 dX4_laneBy_77 fk_X4_22 rfl hK14 hb15 ?_
            refine e_iload_n dX4_laneBy_80 rfl ?_
            obtain ⟨hK16, h⟩ := h
            obtain ⟨⟨h0, h1⟩, h⟩ := h
            refine e_iald dX4_laneBy_81 hK16 h0 h1 ?_
            refine e_istore_n dX4_laneBy_82 ?_
            refine e_iinc dX4_laneBy_83 rfl ?_
            refine e_goto (tgt := 5) dX4_laneBy_86 (by decide) ?_
            exact e_forget (am_sub_k (am_sub_k (am_sub_k (am_sub_k (am_sub_k am_sub_nil))))) h
          · replace h := h.2 hc
            refine e_iload_n dX4_laneBy_70 rfl ?_
            refine e_iconst dX4_laneBy_71 ?_
            refine e_iadd dX4_laneBy_72 ?_
            refine e_goto (tgt := 82) dX4_laneBy_73 (by decide) ?_
            refine e_istore_n dX4_laneBy_82 ?_
            refine e_iinc dX4_laneBy_83 rfl ?_
            refine e_goto (tgt := 5) dX4_laneBy_86 (by decide) ?_
            exact e_forget (am_sub_k (am_sub_k (am_sub_k (am_sub_k (am_sub_k am_sub_nil))))) h
        · replace h := h.2 hc
          refine e_aload_n dX4_laneBy_37 rfl trivial ?_
          obtain ⟨b17, hb17, h⟩ := h
          refine e_getr1 dX4_laneBy_38 fk_X4_15 rfl hK1 hb17 ?_
          refine e_iload_n dX4_laneBy_41 rfl ?_
          obtain ⟨hK18, h⟩ := h
          obtain ⟨⟨h0, h1⟩, h⟩ := h
          refine e_iald dX4_laneBy_42 hK18 h0 h1 ?_
          exact e_ret_i dX4_laneBy_43 rfl (Nat.le_of_ble_eq_true rfl) (Nat.le_of_ble_eq_true rfl) h
      · replace h := h.2 hc
        refine e_iconst dX4_laneBy_24 ?_
        exact e_ret_i dX4_laneBy_25 rfl (Nat.le_of_ble_eq_true rfl) (Nat.le_of_ble_eq_true rfl) h
set_option maxRecDepth 100000 in
set_option maxHeartbeats 4000000 in
theorem wf_X4_holds {d : Nat} {a1 : Int} {a2 : Int} {a3 : Int} {a4 : Int} {a5 : Int} {K N : Nat → Nat} {I : Nat → Nat → Int} {P : Nat → Nat → Option Nat} {z : Nat} {Q : am_V → am_T} (h :
  ((a1 = 99 →
    ((a2 ≤ a4 →
      Q (am_i 0) K N I P z) ∧
      (¬ (a2 ≤ a4) →
      Q (am_i 1) K N I P z))) ∧
    (¬ a1 = 99 →
    ((a1 = 108 →
    ((a2 ≤ a5 →
      Q (am_i 0) K N I P z) ∧
      (¬ (a2 ≤ a5) →
      Q (am_i 1) K N I P z))) ∧
    (¬ a1 = 108 →
    ((a1 = 109 →
    ((a2 = 0 →
      Q (am_i 0) K N I P z) ∧
      (¬ (a2 = 0) →
      ¬ a2 = 0 ∧ ((¬ am_wr (a4 - Int.tdiv a4 a2 * a2) = a3 →
        Q (am_i 0) K N I P z) ∧
        (am_wr (a4 - Int.tdiv a4 a2 * a2) = a3 →
        Q (am_i 1) K N I P z))))) ∧
    (¬ a1 = 109 →
    Q (am_i 0) K N I P z))))))) :
  am_C d m_X4_holds [am_i a1, am_i a2, am_i a3, am_i a4, am_i a5] K N I P z Q am_nx := by
  refine am_C_of ok_X4_holds (fun v hv => am_v1all _ rfl v hv) (Nat.le_of_ble_eq_true rfl) ?_
  show am_E d m_X4_holds 0 0 0 [some (am_i a1), some (am_i a2), some (am_i a3), some (am_i a4), some (am_i a5)] [] K N I P z Q am_nx
  refine e_iload_n dX4_holds_0 rfl ?_
  refine e_lsw dX4_holds_1 (by decide) (by decide) ?_
  refine ⟨fun hc => ?_, fun hc => ?_⟩
  · replace h := h.1 hc
    show am_E _ _ 36 _ _ _ _ _ _ _ _ _ _ _
    refine e_iload_n dX4_holds_36 rfl ?_
    refine e_iload_n dX4_holds_37 rfl ?_
    refine e_icmp_ge (tgt := 45) dX4_holds_38 (by decide) (fun hc => ?_) (fun hc => ?_)
    · replace h := h.1 hc
      refine e_iconst dX4_holds_45 ?_
      exact e_ret_z dX4_holds_46 rfl (by decide) (Nat.le_of_ble_eq_true rfl) (Nat.le_of_ble_eq_true rfl) h
    · replace h := h.2 hc
      refine e_iconst dX4_holds_41 ?_
      refine e_goto (tgt := 46) dX4_holds_42 (by decide) ?_
      exact e_ret_z dX4_holds_46 rfl (by decide) (Nat.le_of_ble_eq_true rfl) (Nat.le_of_ble_eq_true rfl) h
  replace h := h.2 hc
  refine ⟨fun hc => ?_, fun hc => ?_⟩
  · replace h := h.1 hc
    show am_E _ _ 47 _ _ _ _ _ _ _ _ _ _ _
    refine e_iload dX4_holds_47 rfl ?_
    refine e_iload_n dX4_holds_49 rfl ?_
    refine e_icmp_ge (tgt := 57) dX4_holds_50 (by decide) (fun hc => ?_) (fun hc => ?_)
    · replace h := h.1 hc
      refine e_iconst dX4_holds_57 ?_
      exact e_ret_z dX4_holds_58 rfl (by decide) (Nat.le_of_ble_eq_true rfl) (Nat.le_of_ble_eq_true rfl) h
    · replace h := h.2 hc
      refine e_iconst dX4_holds_53 ?_
      refine e_goto (tgt := 58) dX4_holds_54 (by decide) ?_
      exact e_ret_z dX4_holds_58 rfl (by decide) (Nat.le_of_ble_eq_true rfl) (Nat.le_of_ble_eq_true rfl) h
  replace h := h.2 hc
  refine ⟨fun hc => ?_, fun hc => ?_⟩
  · replace h := h.1 hc
    show am_E _ _ 59 _ _ _ _ _ _ _ _ _ _ _
    refine e_iload_n dX4_holds_59 rfl ?_
    refine e_if_eq (tgt := 74) dX4_holds_60 (by decide) (fun hc => ?_) (fun hc => ?_)
    · replace h := h.1 hc
      refine e_iconst dX4_holds_74 ?_
      exact e_ret_z dX4_holds_75 rfl (by decide) (Nat.le_of_ble_eq_true rfl) (Nat.le_of_ble_eq_true rfl) h
    · replace h := h.2 hc
      refine e_iload_n dX4_holds_63 rfl ?_
      refine e_iload_n dX4_holds_64 rfl ?_
      obtain ⟨hnz, h⟩ := h
      refine e_irem dX4_holds_65 hnz ?_
      refine e_iload_n dX4_holds_66 rfl ?_
      refine e_icmp_ne (tgt := 74) dX4_holds_67 (by decide) (fun hc => ?_) (fun hc => ?_)
      · replace h := h.1 hc
        refine e_iconst dX4_holds_74 ?_
        exact e_ret_z dX4_holds_75 rfl (by decide) (Nat.le_of_ble_eq_true rfl) (Nat.le_of_ble_eq_true rfl) h
      · replace h := h.2 hc
        refine e_iconst dX4_holds_70 ?_
        refine e_goto (tgt := 75) dX4_holds_71 (by decide) ?_
        exact e_ret_z dX4_holds_75 rfl (by decide) (Nat.le_of_ble_eq_true rfl) (Nat.le_of_ble_eq_true rfl) h
  replace h := h.2 hc
  show am_E _ _ 76 _ _ _ _ _ _ _ _ _ _ _
  refine e_iconst dX4_holds_76 ?_
  exact e_ret_z dX4_holds_77 rfl (by decide) (Nat.le_of_ble_eq_true rfl) (Nat.le_of_ble_eq_true rfl) h
set_option maxRecDepth 100000 in
set_option maxHeartbeats 4000000 in
theorem wf_X5_init {d : Nat} (hd : 1 ≤ d) {s : Nat} {K N : Nat → Nat} {I : Nat → Nat → Int} {P : Nat → Nat → Option Nat} {z : Nat} {Q : am_V → am_T} (h :
  (0 + 1 ≤ 1 ∧ 0 + 80 ≤ 80) ∧ ∀ K1 N2 b3 z4, K1 = am_u1 K (z + 4) 9 → N2 = am_u1 N (z + 4) (Int.toNat 80) → b3 = z + 4 → z4 = z + 1 → K1 s = 5 ∧ ∀ P7, P7 = am_p2 P s 0 (some b3) → (0 + 1 ≤ 1 ∧ 0 + 80 ≤ 80) ∧ Q am_nl K1 N2 I P7 z4) :
  am_C d m_X5_init [am_r s] K N I P z Q am_nx := by
  refine am_C_of ok_X5_init (fun v hv => am_v1all _ rfl v hv) (Nat.le_of_ble_eq_true rfl) ?_
  show am_E d m_X5_init 0 0 0 [some (am_r s)] [] K N I P z Q am_nx
  refine e_aload_n dX5_init_0 rfl trivial ?_
  refine e_oinit dX5_init_1 mk_X5_3 oi oc (by omega) (Nat.le_of_ble_eq_true rfl) ?_
  refine e_aload_n dX5_init_4 rfl trivial ?_
  refine e_bipush dX5_init_5 ?_
  obtain ⟨⟨hk9, hn9⟩, h⟩ := h
  refine e_newa_char dX5_init_7 ac_char (by decide) (by decide) hk9 hn9 ?_
  replace h := h _ _ _ _ rfl rfl rfl rfl
  have hK5 : (am_u1 K (z + 4) 9) (z + 4) = 9 := by simp [am_u1]
  generalize eK1 : am_u1 K (z + 4) 9 = K1 at h hK5 ⊢
  generalize eN2 : am_u1 N (z + 4) (Int.toNat 80) = N2 at h ⊢
  generalize eb3 : z + 4 = b3 at h hK5 ⊢
  generalize ez4 : z + 1 = z4 at h ⊢
  obtain ⟨hK6, h⟩ := h
  refine e_putrF1 dX5_init_9 fk_X5_9 rfl rfl rfl rfl hK6 ?_
  replace h := h _ rfl
  generalize am_p2 P s 0 (some b3) = P7 at h ⊢
  obtain ⟨⟨hk9, hn9⟩, h⟩ := h
  exact e_ret_v dX5_init_12 rfl hk9 hn9 h
set_option maxRecDepth 100000 in
set_option maxHeartbeats 4000000 in
theorem wf_X5_parseInto {d : Nat} (hd : 1 ≤ d) {s : Nat} {a1 : Nat} {K N : Nat → Nat} {I : Nat → Nat → Int} {P : Nat → Nat → Option Nat} {z : Nat} {Q : am_V → am_T} (h :
  K s = 5 ∧ ∀ I2, I2 = am_u2 I s 2 0 → K a1 = 4 ∧ am_C (d - 1) m_X4_restart [am_r a1] K N I2 P z (fun _ K3 N4 I5 P6 z7 =>
    K3 s = 5 ∧ am_C (d - 1) m_X5_takesRule [am_r s, am_r a1, am_i 0] K3 N4 I5 P6 z7 (fun v K9 N10 I11 P12 z13 => am_iv v fun x15 =>
    ((x15 = 0 →
    K9 s = 5 ∧ Q (am_i (I11 s 2)) K9 N10 I11 P12 z13) ∧
    (¬ (x15 = 0) →
    K9 s = 5 ∧ ((¬ I11 s 2 = I11 s 1 →
      Q (am_i (I11 s 2)) K9 N10 I11 P12 z13) ∧
      (I11 s 2 = I11 s 1 →
      Q (am_i (-1)) K9 N10 I11 P12 z13))))) am_nx) am_nx) :
  am_C d m_X5_parseInto [am_r s, am_r a1] K N I P z Q am_nx := by
  refine am_C_of ok_X5_parseInto (fun v hv => am_v1all _ rfl v hv) (Nat.le_of_ble_eq_true rfl) ?_
  show am_E d m_X5_parseInto 0 0 0 [some (am_r s), some (am_r a1)] [] K N I P z Q am_nx
  refine e_aload_n dX5_parseInto_0 rfl trivial ?_
  refine e_iconst dX5_parseInto_1 ?_
  obtain ⟨hK1, h⟩ := h
  refine e_puti dX5_parseInto_2 fk_X5_19 rfl (Or.inl rfl) hK1 ?_
  replace h := h _ rfl
  generalize am_u2 I s 2 0 = I2 at h ⊢
  refine e_aload_n dX5_parseInto_5 rfl trivial ?_
  obtain ⟨hK8, h⟩ := h
  refine e_callV (Mc := m_X4_restart) (vs := []) (st := []) dX5_parseInto_6 ok_X4_restart rfl ⟨by decide, rfl⟩ mk_X5_22 im_X4_restart sl_X4_restart rfl rfl hK8 (by omega) (Nat.le_of_ble_eq_true rfl) (Nat.le_of_ble_eq_true rfl) (Nat.le_of_ble_eq_true rfl) am_xh_nx (am_C_mono h (fun v K3 N4 I5 P6 z7 h => ?_) (fun _ _ _ _ _ _ h => h))
  show am_E d m_X5_parseInto 9 _ _ _ [] K3 N4 I5 P6 z7 Q am_nx
  refine e_aload_n dX5_parseInto_9 rfl trivial ?_
  refine e_aload_n dX5_parseInto_10 rfl trivial ?_
  refine e_iconst dX5_parseInto_11 ?_
  obtain ⟨hK14, h⟩ := h
  refine e_callV (Mc := m_X5_takesRule) (vs := [am_r a1, am_i 0]) (st := []) dX5_parseInto_12 ok_X5_takesRule rfl ⟨by decide, rfl⟩ mk_X5_27 im_X5_takesRule sl_X5_takesRule rfl rfl hK14 (by omega) (Nat.le_of_ble_eq_true rfl) (Nat.le_of_ble_eq_true rfl) (Nat.le_of_ble_eq_true rfl) am_xh_nx (am_C_mono h (fun v K9 N10 I11 P12 z13 h => ?_) (fun _ _ _ _ _ _ h => h))
  replace h := am_iv_or h
  obtain ⟨x15, rfl, h⟩ := h
  show am_E d m_X5_parseInto 15 _ _ _ [am_i x15] K9 N10 I11 P12 z13 Q am_nx
  refine e_if_eq (tgt := 33) dX5_parseInto_15 (by decide) (fun hc => ?_) (fun hc => ?_)
  · replace h := h.1 hc
    refine e_aload_n dX5_parseInto_33 rfl trivial ?_
    obtain ⟨hK16, h⟩ := h
    refine e_geti dX5_parseInto_34 fk_X5_19 rfl hK16 ?_
    exact e_ret_i dX5_parseInto_37 rfl (Nat.le_of_ble_eq_true rfl) (Nat.le_of_ble_eq_true rfl) h
  · replace h := h.2 hc
    refine e_aload_n dX5_parseInto_18 rfl trivial ?_
    obtain ⟨hK17, h⟩ := h
    refine e_geti dX5_parseInto_19 fk_X5_19 rfl hK17 ?_
    refine e_aload_n dX5_parseInto_22 rfl trivial ?_
    refine e_geti dX5_parseInto_23 fk_X5_15 rfl hK17 ?_
    refine e_icmp_ne (tgt := 33) dX5_parseInto_26 (by decide) (fun hc => ?_) (fun hc => ?_)
    · replace h := h.1 hc
      refine e_aload_n dX5_parseInto_33 rfl trivial ?_
      refine e_geti dX5_parseInto_34 fk_X5_19 rfl hK17 ?_
      exact e_ret_i dX5_parseInto_37 rfl (Nat.le_of_ble_eq_true rfl) (Nat.le_of_ble_eq_true rfl) h
    · replace h := h.2 hc
      refine e_iconst dX5_parseInto_29 ?_
      refine e_goto (tgt := 37) dX5_parseInto_30 (by decide) ?_
      exact e_ret_i dX5_parseInto_37 rfl (Nat.le_of_ble_eq_true rfl) (Nat.le_of_ble_eq_true rfl) h
set_option maxRecDepth 100000 in
set_option maxHeartbeats 4000000 in
theorem wf_X5_takesRule {d : Nat} (hd : 1 ≤ d) {s : Nat} {a1 : Nat} {a2 : Int} {K N : Nat → Nat} {I : Nat → Nat → Int} {P : Nat → Nat → Option Nat} {z : Nat} {Q : am_V → am_T} (h :
  K s = 5 ∧ am_C (d - 1) m_X5_nextSign [am_r s] K N I P z (fun v K1 N2 I3 P4 z5 => am_iv v fun x7 =>
    ((x7 = 120 →
    ((¬ x7 = 120 →
      K1 a1 = 4 ∧ am_C (d - 1) m_X4_addLeaf [am_r a1, am_i (am_wr (x7 - 48))] K1 N2 I3 P4 z5 (fun _ K8 N9 I10 P11 z12 =>
        K8 s = 5 ∧ ∀ I15, I15 = am_u2 I10 s 2 (am_wr (I10 s 2 + 1)) → Q (am_i 1) K8 N9 I15 P11 z12) am_nx) ∧
      (x7 = 120 →
      K1 a1 = 4 ∧ am_C (d - 1) m_X4_addLeaf [am_r a1, am_i (-1)] K1 N2 I3 P4 z5 (fun _ K16 N17 I18 P19 z20 =>
        K16 s = 5 ∧ ∀ I23, I23 = am_u2 I18 s 2 (am_wr (I18 s 2 + 1)) → Q (am_i 1) K16 N17 I23 P19 z20) am_nx))) ∧
    (¬ (x7 = 120) →
    ((x7 < 48 →
      ((6 ≤ a2 →
        Q (am_i 0) K1 N2 I3 P4 z5) ∧
        (¬ (6 ≤ a2) →
        K1 s = 5 ∧ am_C (d - 1) m_X5_takesChoice [am_r s, am_r a1, am_i a2] K1 N2 I3 P4 z5 (fun v K24 N25 I26 P27 z28 => am_iv v fun x30 =>
          ((x30 = 0 →
          Q (am_i 0) K24 N25 I26 P27 z28) ∧
          (¬ (x30 = 0) →
          Q (am_i 1) K24 N25 I26 P27 z28))) am_nx))) ∧
      (¬ (x7 < 48) →
      ((54 ≤ x7 →
        ((6 ≤ a2 →
          Q (am_i 0) K1 N2 I3 P4 z5) ∧
          (¬ (6 ≤ a2) →
          K1 s = 5 ∧ am_C (d - 1) m_X5_takesChoice [am_r s, am_r a1, am_i a2] K1 N2 I3 P4 z5 (fun v K31 N32 I33 P34 z35 => am_iv v fun x37 =>
            ((x37 = 0 →
            Q (am_i 0) K31 N32 I33 P34 z35) ∧
            (¬ (x37 = 0) →
            Q (am_i 1) K31 N32 I33 P34 z35))) am_nx))) ∧
        (¬ (54 ≤ x7) →
        ((¬ x7 = 120 →
          K1 a1 = 4 ∧ am_C (d - 1) m_X4_addLeaf [am_r a1, am_i (am_wr (x7 - 48))] K1 N2 I3 P4 z5 (fun _ K38 N39 I40 P41 z42 =>
            K38 s = 5 ∧ ∀ I45, I45 = am_u2 I40 s 2 (am_wr (I40 s 2 + 1)) → Q (am_i 1) K38 N39 I45 P41 z42) am_nx) ∧
          (x7 = 120 →
          K1 a1 = 4 ∧ am_C (d - 1) m_X4_addLeaf [am_r a1, am_i (-1)] K1 N2 I3 P4 z5 (fun _ K46 N47 I48 P49 z50 =>
            K46 s = 5 ∧ ∀ I53, I53 = am_u2 I48 s 2 (am_wr (I48 s 2 + 1)) → Q (am_i 1) K46 N47 I53 P49 z50) am_nx))))))))) am_nx) :
  am_C d m_X5_takesRule [am_r s, am_r a1, am_i a2] K N I P z Q am_nx := by
  refine am_C_of ok_X5_takesRule (fun v hv => am_v1all _ rfl v hv) (Nat.le_of_ble_eq_true rfl) ?_
  show am_E d m_X5_takesRule 0 0 0 [some (am_r s), some (am_r a1), some (am_i a2), none] [] K N I P z Q am_nx
  refine e_aload_n dX5_takesRule_0 rfl trivial ?_
  obtain ⟨hK6, h⟩ := h
  refine e_callV (Mc := m_X5_nextSign) (vs := []) (st := []) dX5_takesRule_1 ok_X5_nextSign rfl ⟨by decide, rfl⟩ mk_X5_31 im_X5_nextSign sl_X5_nextSign rfl rfl hK6 (by omega) (Nat.le_of_ble_eq_true rfl) (Nat.le_of_ble_eq_true rfl) (Nat.le_of_ble_eq_true rfl) am_xh_nx (am_C_mono h (fun v K1 N2 I3 P4 z5 h => ?_) (fun _ _ _ _ _ _ h => h))
  replace h := am_iv_or h
  obtain ⟨x7, rfl, h⟩ := h
  show am_E d m_X5_takesRule 4 _ _ _ [am_i x7] K1 N2 I3 P4 z5 Q am_nx
  refine e_istore_n dX5_takesRule_4 ?_
  refine e_iload_n dX5_takesRule_5 rfl ?_
  refine e_bipush dX5_takesRule_6 ?_
  refine e_icmp_eq (tgt := 23) dX5_takesRule_8 (by decide) (fun hc => ?_) (fun hc => ?_)
  · replace h := h.1 hc
    refine e_aload_n dX5_takesRule_23 rfl trivial ?_
    refine e_iload_n dX5_takesRule_24 rfl ?_
    refine e_bipush dX5_takesRule_25 ?_
    refine e_icmp_ne (tgt := 34) dX5_takesRule_27 (by decide) (fun hc => ?_) (fun hc => ?_)
    · replace h := h.1 hc
      refine e_iload_n dX5_takesRule_34 rfl ?_
      refine e_bipush dX5_takesRule_35 ?_
      refine e_isub dX5_takesRule_37 ?_
      obtain ⟨hK13, h⟩ := h
      refine e_callV (Mc := m_X4_addLeaf) (vs := [am_i (am_wr (x7 - 48))]) (st := []) dX5_takesRule_38 ok_X4_addLeaf rfl ⟨by decide, rfl⟩ mk_X5_35 im_X4_addLeaf sl_X4_addLeaf rfl rfl hK13 (by omega) (Nat.le_of_ble_eq_true rfl) (Nat.le_of_ble_eq_true rfl) (Nat.le_of_ble_eq_true rfl) am_xh_nx (am_C_mono h (fun v K8 N9 I10 P11 z12 h => ?_) (fun _ _ _ _ _ _ h => h))
      show am_E d m_X5_takesRule 41 _ _ _ [] K8 N9 I10 P11 z12 Q am_nx
      refine e_aload_n dX5_takesRule_41 rfl trivial ?_
      refine e_dup dX5_takesRule_42 rfl ?_
      obtain ⟨hK14, h⟩ := h
      refine e_geti dX5_takesRule_43 fk_X5_19 rfl hK14 ?_
      refine e_iconst dX5_takesRule_46 ?_
      refine e_iadd dX5_takesRule_47 ?_
      refine e_puti dX5_takesRule_48 fk_X5_19 rfl (Or.inl rfl) hK14 ?_
      replace h := h _ rfl
      generalize am_u2 I10 s 2 (am_wr (I10 s 2 + 1)) = I15 at h ⊢
      refine e_iconst dX5_takesRule_51 ?_
      exact e_ret_z dX5_takesRule_52 rfl (by decide) (Nat.le_of_ble_eq_true rfl) (Nat.le_of_ble_eq_true rfl) h
    · replace h := h.2 hc
      refine e_iconst dX5_takesRule_30 ?_
      refine e_goto (tgt := 38) dX5_takesRule_31 (by decide) ?_
      obtain ⟨hK21, h⟩ := h
      refine e_callV (Mc := m_X4_addLeaf) (vs := [am_i (-1)]) (st := []) dX5_takesRule_38 ok_X4_addLeaf rfl ⟨by decide, rfl⟩ mk_X5_35 im_X4_addLeaf sl_X4_addLeaf rfl rfl hK21 (by omega) (Nat.le_of_ble_eq_true rfl) (Nat.le_of_ble_eq_true rfl) (Nat.le_of_ble_eq_true rfl) am_xh_nx (am_C_mono h (fun v K16 N17 I18 P19 z20 h => ?_) (fun _ _ _ _ _ _ h => h))
      show am_E d m_X5_takesRule 41 _ _ _ [] K16 N17 I18 P19 z20 Q am_nx
      refine e_aload_n dX5_takesRule_41 rfl trivial ?_
      refine e_dup dX5_takesRule_42 rfl ?_
      obtain ⟨hK22, h⟩ := h
      refine e_geti dX5_takesRule_43 fk_X5_19 rfl hK22 ?_
      refine e_iconst dX5_takesRule_46 ?_
      refine e_iadd dX5_takesRule_47 ?_
      refine e_puti dX5_takesRule_48 fk_X5_19 rfl (Or.inl rfl) hK22 ?_
      replace h := h _ rfl
      generalize am_u2 I18 s 2 (am_wr (I18 s 2 + 1)) = I23 at h ⊢
      refine e_iconst dX5_takesRule_51 ?_
      exact e_ret_z dX5_takesRule_52 rfl (by decide) (Nat.le_of_ble_eq_true rfl) (Nat.le_of_ble_eq_true rfl) h
  · replace h := h.2 hc
    refine e_iload_n dX5_takesRule_11 rfl ?_
    refine e_bipush dX5_takesRule_12 ?_
    refine e_icmp_lt (tgt := 53) dX5_takesRule_14 (by decide) (fun hc => ?_) (fun hc => ?_)
    · replace h := h.1 hc
      refine e_iload_n dX5_takesRule_53 rfl ?_
      refine e_bipush dX5_takesRule_54 ?_
      refine e_icmp_ge (tgt := 72) dX5_takesRule_56 (by decide) (fun hc => ?_) (fun hc => ?_)
      · replace h := h.1 hc
        refine e_iconst dX5_takesRule_72 ?_
        exact e_ret_z dX5_takesRule_73 rfl (by decide) (Nat.le_of_ble_eq_true rfl) (Nat.le_of_ble_eq_true rfl) h
      · replace h := h.2 hc
        refine e_aload_n dX5_takesRule_59 rfl trivial ?_
        refine e_aload_n dX5_takesRule_60 rfl trivial ?_
        refine e_iload_n dX5_takesRule_61 rfl ?_
        obtain ⟨hK29, h⟩ := h
        refine e_callV (Mc := m_X5_takesChoice) (vs := [am_r a1, am_i a2]) (st := []) dX5_takesRule_62 ok_X5_takesChoice rfl ⟨by decide, rfl⟩ mk_X5_39 im_X5_takesChoice sl_X5_takesChoice rfl rfl hK29 (by omega) (Nat.le_of_ble_eq_true rfl) (Nat.le_of_ble_eq_true rfl) (Nat.le_of_ble_eq_true rfl) am_xh_nx (am_C_mono h (fun v K24 N25 I26 P27 z28 h => ?_) (fun _ _ _ _ _ _ h => h))
        replace h := am_iv_or h
        obtain ⟨x30, rfl, h⟩ := h
        show am_E d m_X5_takesRule 65 _ _ _ [am_i x30] K24 N25 I26 P27 z28 Q am_nx
        refine e_if_eq (tgt := 72) dX5_takesRule_65 (by decide) (fun hc => ?_) (fun hc => ?_)
        · replace h := h.1 hc
          refine e_iconst dX5_takesRule_72 ?_
          exact e_ret_z dX5_takesRule_73 rfl (by decide) (Nat.le_of_ble_eq_true rfl) (Nat.le_of_ble_eq_true rfl) h
        · replace h := h.2 hc
          refine e_iconst dX5_takesRule_68 ?_
          refine e_goto (tgt := 73) dX5_takesRule_69 (by decide) ?_
          exact e_ret_z dX5_takesRule_73 rfl (by decide) (Nat.le_of_ble_eq_true rfl) (Nat.le_of_ble_eq_true rfl) h
    · replace h := h.2 hc
      refine e_iload_n dX5_takesRule_17 rfl ?_
      refine e_bipush dX5_takesRule_18 ?_
      refine e_icmp_ge (tgt := 53) dX5_takesRule_20 (by decide) (fun hc => ?_) (fun hc => ?_)
      · replace h := h.1 hc
        refine e_iload_n dX5_takesRule_53 rfl ?_
        refine e_bipush dX5_takesRule_54 ?_
        refine e_icmp_ge (tgt := 72) dX5_takesRule_56 (by decide) (fun hc => ?_) (fun hc => ?_)
        · replace h := h.1 hc
          refine e_iconst dX5_takesRule_72 ?_
          exact e_ret_z dX5_takesRule_73 rfl (by decide) (Nat.le_of_ble_eq_true rfl) (Nat.le_of_ble_eq_true rfl) h
        · replace h := h.2 hc
          refine e_aload_n dX5_takesRule_59 rfl trivial ?_
          refine e_aload_n dX5_takesRule_60 rfl trivial ?_
          refine e_iload_n dX5_takesRule_61 rfl ?_
          obtain ⟨hK36, h⟩ := h
          refine e_callV (Mc := m_X5_takesChoice) (vs := [am_r a1, am_i a2]) (st := []) dX5_takesRule_62 ok_X5_takesChoice rfl ⟨by decide, rfl⟩ mk_X5_39 im_X5_takesChoice sl_X5_takesChoice rfl rfl hK36 (by omega) (Nat.le_of_ble_eq_true rfl) (Nat.le_of_ble_eq_true rfl) (Nat.le_of_ble_eq_true rfl) am_xh_nx (am_C_mono h (fun v K31 N32 I33 P34 z35 h => ?_) (fun _ _ _ _ _ _ h => h))
          replace h := am_iv_or h
          obtain ⟨x37, rfl, h⟩ := h
          show am_E d m_X5_takesRule 65 _ _ _ [am_i x37] K31 N32 I33 P34 z35 Q am_nx
          refine e_if_eq (tgt := 72) dX5_takesRule_65 (by decide) (fun hc => ?_) (fun hc => ?_)
          · replace h := h.1 hc
            refine e_iconst dX5_takesRule_72 ?_
            exact e_ret_z dX5_takesRule_73 rfl (by decide) (Nat.le_of_ble_eq_true rfl) (Nat.le_of_ble_eq_true rfl) h
          · replace h := h.2 hc
            refine e_iconst dX5_takesRule_68 ?_
            refine e_goto (tgt := 73) dX5_takesRule_69 (by decide) ?_
            exact e_ret_z dX5_takesRule_73 rfl (by decide) (Nat.le_of_ble_eq_true rfl) (Nat.le_of_ble_eq_true rfl) h
      · replace h := h.2 hc
        refine e_aload_n dX5_takesRule_23 rfl trivial ?_
        refine e_iload_n dX5_takesRule_24 rfl ?_
        refine e_bipush dX5_takesRule_25 ?_
        refine e_icmp_ne (tgt := 34) dX5_takesRule_27 (by decide) (fun hc => ?_) (fun hc => ?_)
        · replace h := h.1 hc
          refine e_iload_n dX5_takesRule_34 rfl ?_
          refine e_bipush dX5_takesRule_35 ?_
          refine e_isub dX5_takesRule_37 ?_
          obtain ⟨hK43, h⟩ := h
          refine e_callV (Mc := m_X4_addLeaf) (vs := [am_i (am_wr (x7 - 48))]) (st := []) dX5_takesRule_38 ok_X4_addLeaf rfl ⟨by decide, rfl⟩ mk_X5_35 im_X4_addLeaf sl_X4_addLeaf rfl rfl hK43 (by omega) (Nat.le_of_ble_eq_true rfl) (Nat.le_of_ble_eq_true rfl) (Nat.le_of_ble_eq_true rfl) am_xh_nx (am_C_mono h (fun v K38 N39 I40 P41 z42 h => ?_) (fun _ _ _ _ _ _ h => h))
          show am_E d m_X5_takesRule 41 _ _ _ [] K38 N39 I40 P41 z42 Q am_nx
          refine e_aload_n dX5_takesRule_41 rfl trivial ?_
          refine e_dup dX5_takesRule_42 rfl ?_
          obtain ⟨hK44, h⟩ := h
          refine e_geti dX5_takesRule_43 fk_X5_19 rfl hK44 ?_
          refine e_iconst dX5_takesRule_46 ?_
          refine e_iadd dX5_takesRule_47 ?_
          refine e_puti dX5_takesRule_48 fk_X5_19 rfl (Or.inl rfl) hK44 ?_
          replace h := h _ rfl
          generalize am_u2 I40 s 2 (am_wr (I40 s 2 + 1)) = I45 at h ⊢
          refine e_iconst dX5_takesRule_51 ?_
          exact e_ret_z dX5_takesRule_52 rfl (by decide) (Nat.le_of_ble_eq_true rfl) (Nat.le_of_ble_eq_true rfl) h
        · replace h := h.2 hc
          refine e_iconst dX5_takesRule_30 ?_
          refine e_goto (tgt := 38) dX5_takesRule_31 (by decide) ?_
          obtain ⟨hK51, h⟩ := h
          refine e_callV (Mc := m_X4_addLeaf) (vs := [am_i (-1)]) (st := []) dX5_takesRule_38 ok_X4_addLeaf rfl ⟨by decide, rfl⟩ mk_X5_35 im_X4_addLeaf sl_X4_addLeaf rfl rfl hK51 (by omega) (Nat.le_of_ble_eq_true rfl) (Nat.le_of_ble_eq_true rfl) (Nat.le_of_ble_eq_true rfl) am_xh_nx (am_C_mono h (fun v K46 N47 I48 P49 z50 h => ?_) (fun _ _ _ _ _ _ h => h))
          show am_E d m_X5_takesRule 41 _ _ _ [] K46 N47 I48 P49 z50 Q am_nx
          refine e_aload_n dX5_takesRule_41 rfl trivial ?_
          refine e_dup dX5_takesRule_42 rfl ?_
          obtain ⟨hK52, h⟩ := h
          refine e_geti dX5_takesRule_43 fk_X5_19 rfl hK52 ?_
          refine e_iconst dX5_takesRule_46 ?_
          refine e_iadd dX5_takesRule_47 ?_
          refine e_puti dX5_takesRule_48 fk_X5_19 rfl (Or.inl rfl) hK52 ?_
          replace h := h _ rfl
          generalize am_u2 I48 s 2 (am_wr (I48 s 2 + 1)) = I53 at h ⊢
          refine e_iconst dX5_takesRule_51 ?_
          exact e_ret_z dX5_takesRule_52 rfl (by decide) (Nat.le_of_ble_eq_true rfl) (Nat.le_of_ble_eq_true rfl) h
set_option maxRecDepth 100000 in
set_option maxHeartbeats 4000000 in
theorem wf_X5_takesChoice {d : Nat} (hd : 1 ≤ d) {s : Nat} {a1 : Nat} {a2 : Int} {K N : Nat → Nat} {I : Nat → Nat → Int} {P : Nat → Nat → Option Nat} {z : Nat} {Q : am_V → am_T} (h :
  K s = 5 ∧ am_C (d - 1) m_X5_takesSign [am_r s, am_i 63] K N I P z (fun v K1 N2 I3 P4 z5 => am_iv v fun x7 =>
    ((¬ x7 = 0 →
    K1 s = 5 ∧ am_C (d - 1) m_X5_takeCondition [am_r s, am_r a1] K1 N2 I3 P4 z5 (fun v K8 N9 I10 P11 z12 => am_iv v fun x14 =>
      ((x14 = (-1) →
      Q (am_i 0) K8 N9 I10 P11 z12) ∧
      (¬ (x14 = (-1)) →
      K8 s = 5 ∧ am_C (d - 1) m_X5_takesRule [am_r s, am_r a1, am_i (am_wr (a2 + 1))] K8 N9 I10 P11 z12 (fun v K15 N16 I17 P18 z19 => am_iv v fun x21 =>
        ((¬ x21 = 0 →
        K15 a1 = 4 ∧ am_C (d - 1) m_X4_otherwise [am_r a1, am_i x14] K15 N16 I17 P18 z19 (fun _ K22 N23 I24 P25 z26 =>
          K22 s = 5 ∧ am_C (d - 1) m_X5_takesRule [am_r s, am_r a1, am_i (am_wr (a2 + 1))] K22 N23 I24 P25 z26 (fun v K28 N29 I30 P31 z32 => am_iv v fun x34 =>
          (x34 = 0 ∨ x34 = 1) ∧ Q (am_i x34) K28 N29 I30 P31 z32) am_nx) am_nx) ∧
        (x21 = 0 →
        Q (am_i 0) K15 N16 I17 P18 z19))) am_nx))) am_nx) ∧
    (x7 = 0 →
    Q (am_i 0) K1 N2 I3 P4 z5))) am_nx) :
  am_C d m_X5_takesChoice [am_r s, am_r a1, am_i a2] K N I P z Q am_nx := by
  refine am_C_of ok_X5_takesChoice (fun v hv => am_v1all _ rfl v hv) (Nat.le_of_ble_eq_true rfl) ?_
  show am_E d m_X5_takesChoice 0 0 0 [some (am_r s), some (am_r a1), some (am_i a2), none] [] K N I P z Q am_nx
  refine e_aload_n dX5_takesChoice_0 rfl trivial ?_
  refine e_bipush dX5_takesChoice_1 ?_
  obtain ⟨hK6, h⟩ := h
  refine e_callV (Mc := m_X5_takesSign) (vs := [am_i 63]) (st := []) dX5_takesChoice_3 ok_X5_takesSign rfl ⟨by decide, rfl⟩ mk_X5_42 im_X5_takesSign sl_X5_takesSign rfl rfl hK6 (by omega) (Nat.le_of_ble_eq_true rfl) (Nat.le_of_ble_eq_true rfl) (Nat.le_of_ble_eq_true rfl) am_xh_nx (am_C_mono h (fun v K1 N2 I3 P4 z5 h => ?_) (fun _ _ _ _ _ _ h => h))
  replace h := am_iv_or h
  obtain ⟨x7, rfl, h⟩ := h
  show am_E d m_X5_takesChoice 6 _ _ _ [am_i x7] K1 N2 I3 P4 z5 Q am_nx
  refine e_if_ne (tgt := 11) dX5_takesChoice_6 (by decide) (fun hc => ?_) (fun hc => ?_)
  · replace h := h.1 hc
    refine e_aload_n dX5_takesChoice_11 rfl trivial ?_
    refine e_aload_n dX5_takesChoice_12 rfl trivial ?_
    obtain ⟨hK13, h⟩ := h
    refine e_callV (Mc := m_X5_takeCondition) (vs := [am_r a1]) (st := []) dX5_takesChoice_13 ok_X5_takeCondition rfl ⟨by decide, rfl⟩ mk_X5_46 im_X5_takeCondition sl_X5_takeCondition rfl rfl hK13 (by omega) (Nat.le_of_ble_eq_true rfl) (Nat.le_of_ble_eq_true rfl) (Nat.le_of_ble_eq_true rfl) am_xh_nx (am_C_mono h (fun v K8 N9 I10 P11 z12 h => ?_) (fun _ _ _ _ _ _ h => h))
    replace h := am_iv_or h
    obtain ⟨x14, rfl, h⟩ := h
    show am_E d m_X5_takesChoice 16 _ _ _ [am_i x14] K8 N9 I10 P11 z12 Q am_nx
    refine e_istore_n dX5_takesChoice_16 ?_
    refine e_iload_n dX5_takesChoice_17 rfl ?_
    refine e_iconst dX5_takesChoice_18 ?_
    refine e_icmp_eq (tgt := 33) dX5_takesChoice_19 (by decide) (fun hc => ?_) (fun hc => ?_)
    · replace h := h.1 hc
      refine e_iconst dX5_takesChoice_33 ?_
      exact e_ret_z dX5_takesChoice_34 rfl (by decide) (Nat.le_of_ble_eq_true rfl) (Nat.le_of_ble_eq_true rfl) h
    · replace h := h.2 hc
      refine e_aload_n dX5_takesChoice_22 rfl trivial ?_
      refine e_aload_n dX5_takesChoice_23 rfl trivial ?_
      refine e_iload_n dX5_takesChoice_24 rfl ?_
      refine e_iconst dX5_takesChoice_25 ?_
      refine e_iadd dX5_takesChoice_26 ?_
      obtain ⟨hK20, h⟩ := h
      refine e_callV (Mc := m_X5_takesRule) (vs := [am_r a1, am_i (am_wr (a2 + 1))]) (st := []) dX5_takesChoice_27 ok_X5_takesRule rfl ⟨by decide, rfl⟩ mk_X5_27 im_X5_takesRule sl_X5_takesRule rfl rfl hK20 (by omega) (Nat.le_of_ble_eq_true rfl) (Nat.le_of_ble_eq_true rfl) (Nat.le_of_ble_eq_true rfl) am_xh_nx (am_C_mono h (fun v K15 N16 I17 P18 z19 h => ?_) (fun _ _ _ _ _ _ h => h))
      replace h := am_iv_or h
      obtain ⟨x21, rfl, h⟩ := h
      show am_E d m_X5_takesChoice 30 _ _ _ [am_i x21] K15 N16 I17 P18 z19 Q am_nx
      refine e_if_ne (tgt := 35) dX5_takesChoice_30 (by decide) (fun hc => ?_) (fun hc => ?_)
      · replace h := h.1 hc
        refine e_aload_n dX5_takesChoice_35 rfl trivial ?_
        refine e_iload_n dX5_takesChoice_36 rfl ?_
        obtain ⟨hK27, h⟩ := h
        refine e_callV (Mc := m_X4_otherwise) (vs := [am_i x14]) (st := []) dX5_takesChoice_37 ok_X4_otherwise rfl ⟨by decide, rfl⟩ mk_X5_50 im_X4_otherwise sl_X4_otherwise rfl rfl hK27 (by omega) (Nat.le_of_ble_eq_true rfl) (Nat.le_of_ble_eq_true rfl) (Nat.le_of_ble_eq_true rfl) am_xh_nx (am_C_mono h (fun v K22 N23 I24 P25 z26 h => ?_) (fun _ _ _ _ _ _ h => h))
        show am_E d m_X5_takesChoice 40 _ _ _ [] K22 N23 I24 P25 z26 Q am_nx
        refine e_aload_n dX5_takesChoice_40 rfl trivial ?_
        refine e_aload_n dX5_takesChoice_41 rfl trivial ?_
        refine e_iload_n dX5_takesChoice_42 rfl ?_
        refine e_iconst dX5_takesChoice_43 ?_
        refine e_iadd dX5_takesChoice_44 ?_
        obtain ⟨hK33, h⟩ := h
        refine e_callV (Mc := m_X5_takesRule) (vs := [am_r a1, am_i (am_wr (a2 + 1))]) (st := []) dX5_takesChoice_45 ok_X5_takesRule rfl ⟨by decide, rfl⟩ mk_X5_27 im_X5_takesRule sl_X5_takesRule rfl rfl hK33 (by omega) (Nat.le_of_ble_eq_true rfl) (Nat.le_of_ble_eq_true rfl) (Nat.le_of_ble_eq_true rfl) am_xh_nx (am_C_mono h (fun v K28 N29 I30 P31 z32 h => ?_) (fun _ _ _ _ _ _ h => h))
        replace h := am_iv_or h
        obtain ⟨x34, rfl, h⟩ := h
        show am_E d m_X5_takesChoice 48 _ _ _ [am_i x34] K28 N29 I30 P31 z32 Q am_nx
        obtain ⟨hz01, h⟩ := h
        exact e_ret_z dX5_takesChoice_48 rfl hz01 (Nat.le_of_ble_eq_true rfl) (Nat.le_of_ble_eq_true rfl) h
      · replace h := h.2 hc
        refine e_iconst dX5_takesChoice_33 ?_
        exact e_ret_z dX5_takesChoice_34 rfl (by decide) (Nat.le_of_ble_eq_true rfl) (Nat.le_of_ble_eq_true rfl) h
  · replace h := h.2 hc
    refine e_iconst dX5_takesChoice_9 ?_
    exact e_ret_z dX5_takesChoice_10 rfl (by decide) (Nat.le_of_ble_eq_true rfl) (Nat.le_of_ble_eq_true rfl) h
set_option maxRecDepth 100000 in
set_option maxHeartbeats 4000000 in
theorem wf_X5_takeCondition {d : Nat} (hd : 1 ≤ d) {s : Nat} {a1 : Nat} {K N : Nat → Nat} {I : Nat → Nat → Int} {P : Nat → Nat → Option Nat} {z : Nat} {Q : am_V → am_T} (h :
  K s = 5 ∧ am_C (d - 1) m_X5_nextSign [am_r s] K N I P z (fun v K1 N2 I3 P4 z5 => am_iv v fun x7 =>
    K1 s = 5 ∧ am_C (d - 1) m_X5_takesSign [am_r s, am_i 99] K1 N2 I3 P4 z5 (fun v K8 N9 I10 P11 z12 => am_iv v fun x14 =>
    ((¬ x14 = 0 →
    K8 s = 5 ∧ am_C (d - 1) m_X5_takeNumber [am_r s] K8 N9 I10 P11 z12 (fun v K15 N16 I17 P18 z19 => am_iv v fun x21 =>
      ((¬ x7 = 109 →
      ((x21 = (-1) →
        Q (am_i (-1)) K15 N16 I17 P18 z19) ∧
        (¬ (x21 = (-1)) →
        K15 s = 5 ∧ am_C (d - 1) m_X5_takesSign [am_r s, am_i 59] K15 N16 I17 P18 z19 (fun v K22 N23 I24 P25 z26 => am_iv v fun x28 =>
          ((¬ x28 = 0 →
          K22 a1 = 4 ∧ am_C (d - 1) m_X4_addCondition [am_r a1, am_i x7, am_i x21, am_i 0] K22 N23 I24 P25 z26 (fun v K29 N30 I31 P32 z33 => am_iv v fun x35 =>
            Q (am_i x35) K29 N30 I31 P32 z33) am_nx) ∧
          (x28 = 0 →
          Q (am_i (-1)) K22 N23 I24 P25 z26))) am_nx))) ∧
      (x7 = 109 →
      ((x21 = 0 →
        Q (am_i (-1)) K15 N16 I17 P18 z19) ∧
        (¬ (x21 = 0) →
        ((x21 = (-1) →
          Q (am_i (-1)) K15 N16 I17 P18 z19) ∧
          (¬ (x21 = (-1)) →
          K15 s = 5 ∧ am_C (d - 1) m_X5_takesSign [am_r s, am_i 44] K15 N16 I17 P18 z19 (fun v K36 N37 I38 P39 z40 => am_iv v fun x42 =>
            ((¬ x42 = 0 →
            K36 s = 5 ∧ am_C (d - 1) m_X5_takeNumber [am_r s] K36 N37 I38 P39 z40 (fun v K43 N44 I45 P46 z47 => am_iv v fun x49 =>
              ((x21 = (-1) →
              Q (am_i (-1)) K43 N44 I45 P46 z47) ∧
              (¬ (x21 = (-1)) →
              ((x49 = (-1) →
                Q (am_i (-1)) K43 N44 I45 P46 z47) ∧
                (¬ (x49 = (-1)) →
                K43 s = 5 ∧ am_C (d - 1) m_X5_takesSign [am_r s, am_i 59] K43 N44 I45 P46 z47 (fun v K50 N51 I52 P53 z54 => am_iv v fun x56 =>
                  ((¬ x56 = 0 →
                  K50 a1 = 4 ∧ am_C (d - 1) m_X4_addCondition [am_r a1, am_i x7, am_i x21, am_i x49] K50 N51 I52 P53 z54 (fun v K57 N58 I59 P60 z61 => am_iv v fun x63 =>
                    Q (am_i x63) K57 N58 I59 P60 z61) am_nx) ∧
                  (x56 = 0 →
                  Q (am_i (-1)) K50 N51 I52 P53 z54))) am_nx))))) am_nx) ∧
            (x42 = 0 →
            Q (am_i (-1)) K36 N37 I38 P39 z40))) am_nx))))))) am_nx) ∧
    (x14 = 0 →
    K8 s = 5 ∧ am_C (d - 1) m_X5_takesSign [am_r s, am_i 108] K8 N9 I10 P11 z12 (fun v K64 N65 I66 P67 z68 => am_iv v fun x70 =>
      ((¬ x70 = 0 →
      K64 s = 5 ∧ am_C (d - 1) m_X5_takeNumber [am_r s] K64 N65 I66 P67 z68 (fun v K71 N72 I73 P74 z75 => am_iv v fun x77 =>
        ((¬ x7 = 109 →
        ((x77 = (-1) →
          Q (am_i (-1)) K71 N72 I73 P74 z75) ∧
          (¬ (x77 = (-1)) →
          K71 s = 5 ∧ am_C (d - 1) m_X5_takesSign [am_r s, am_i 59] K71 N72 I73 P74 z75 (fun v K78 N79 I80 P81 z82 => am_iv v fun x84 =>
            ((¬ x84 = 0 →
            K78 a1 = 4 ∧ am_C (d - 1) m_X4_addCondition [am_r a1, am_i x7, am_i x77, am_i 0] K78 N79 I80 P81 z82 (fun v K85 N86 I87 P88 z89 => am_iv v fun x91 =>
              Q (am_i x91) K85 N86 I87 P88 z89) am_nx) ∧
            (x84 = 0 →
            Q (am_i (-1)) K78 N79 I80 P81 z82))) am_nx))) ∧
        (x7 = 109 →
        ((x77 = 0 →
          Q (am_i (-1)) K71 N72 I73 P74 z75) ∧
          (¬ (x77 = 0) →
          ((x77 = (-1) →
            Q (am_i (-1)) K71 N72 I73 P74 z75) ∧
            (¬ (x77 = (-1)) →
            K71 s = 5 ∧ am_C (d - 1) m_X5_takesSign [am_r s, am_i 44] K71 N72 I73 P74 z75 (fun v K92 N93 I94 P95 z96 => am_iv v fun x98 =>
              ((¬ x98 = 0 →
              K92 s = 5 ∧ am_C (d - 1) m_X5_takeNumber [am_r s] K92 N93 I94 P95 z96 (fun v K99 N100 I101 P102 z103 => am_iv v fun x105 =>
                ((x77 = (-1) →
                Q (am_i (-1)) K99 N100 I101 P102 z103) ∧
                (¬ (x77 = (-1)) →
                ((x105 = (-1) →
                  Q (am_i (-1)) K99 N100 I101 P102 z103) ∧
                  (¬ (x105 = (-1)) →
                  K99 s = 5 ∧ am_C (d - 1) m_X5_takesSign [am_r s, am_i 59] K99 N100 I101 P102 z103 (fun v K106 N107 I108 P109 z110 => am_iv v fun x112 =>
                    ((¬ x112 = 0 →
                    K106 a1 = 4 ∧ am_C (d - 1) m_X4_addCondition [am_r a1, am_i x7, am_i x77, am_i x105] K106 N107 I108 P109 z110 (fun v K113 N114 I115 P116 z117 => am_iv v fun x119 =>
                      Q (am_i x119) K113 N114 I115 P116 z117) am_nx) ∧
                    (x112 = 0 →
                    Q (am_i (-1)) K106 N107 I108 P109 z110))) am_nx))))) am_nx) ∧
              (x98 = 0 →
              Q (am_i (-1)) K92 N93 I94 P95 z96))) am_nx))))))) am_nx) ∧
      (x70 = 0 →
      K64 s = 5 ∧ am_C (d - 1) m_X5_takesSign [am_r s, am_i 109] K64 N65 I66 P67 z68 (fun v K120 N121 I122 P123 z124 => am_iv v fun x126 =>
        ((¬ x126 = 0 →
        K120 s = 5 ∧ am_C (d - 1) m_X5_takeNumber [am_r s] K120 N121 I122 P123 z124 (fun v K127 N128 I129 P130 z131 => am_iv v fun x133 =>
          ((¬ x7 = 109 →
          ((x133 = (-1) →
            Q (am_i (-1)) K127 N128 I129 P130 z131) ∧
            (¬ (x133 = (-1)) →
            K127 s = 5 ∧ am_C (d - 1) m_X5_takesSign [am_r s, am_i 59] K127 N128 I129 P130 z131 (fun v K134 N135 I136 P137 z138 => am_iv v fun x140 =>
              ((¬ x140 = 0 →
              K134 a1 = 4 ∧ am_C (d - 1) m_X4_addCondition [am_r a1, am_i x7, am_i x133, am_i 0] K134 N135 I136 P137 z138 (fun v K141 N142 I143 P144 z145 => am_iv v fun x147 =>
                Q (am_i x147) K141 N142 I143 P144 z145) am_nx) ∧
              (x140 = 0 →
              Q (am_i (-1)) K134 N135 I136 P137 z138))) am_nx))) ∧
          (x7 = 109 →
          ((x133 = 0 →
            Q (am_i (-1)) K127 N128 I129 P130 z131) ∧
            (¬ (x133 = 0) →
            ((x133 = (-1) →
              Q (am_i (-1)) K127 N128 I129 P130 z131) ∧
              (¬ (x133 = (-1)) →
              K127 s = 5 ∧ am_C (d - 1) m_X5_takesSign [am_r s, am_i 44] K127 N128 I129 P130 z131 (fun v K148 N149 I150 P151 z152 => am_iv v fun x154 =>
                ((¬ x154 = 0 →
                K148 s = 5 ∧ am_C (d - 1) m_X5_takeNumber [am_r s] K148 N149 I150 P151 z152 (fun v K155 N156 I157 P158 z159 => am_iv v fun x161 =>
                  ((x133 = (-1) →
                  Q (am_i (-1)) K155 N156 I157 P158 z159) ∧
                  (¬ (x133 = (-1)) →
                  ((x161 = (-1) →
                    Q (am_i (-1)) K155 N156 I157 P158 z159) ∧
                    (¬ (x161 = (-1)) →
                    K155 s = 5 ∧ am_C (d - 1) m_X5_takesSign [am_r s, am_i 59] K155 N156 I157 P158 z159 (fun v K162 N163 I164 P165 z166 => am_iv v fun x168 =>
                      ((¬ x168 = 0 →
                      K162 a1 = 4 ∧ am_C (d - 1) m_X4_addCondition [am_r a1, am_i x7, am_i x133, am_i x161] K162 N163 I164 P165 z166 (fun v K169 N170 I171 P172 z173 => am_iv v fun x175 =>
                        Q (am_i x175) K169 N170 I171 P172 z173) am_nx) ∧
                      (x168 = 0 →
                      Q (am_i (-1)) K162 N163 I164 P165 z166))) am_nx))))) am_nx) ∧
                (x154 = 0 →
                Q (am_i (-1)) K148 N149 I150 P151 z152))) am_nx))))))) am_nx) ∧
        (x126 = 0 →
        Q (am_i (-1)) K120 N121 I122 P123 z124))) am_nx))) am_nx))) am_nx) am_nx) :
  am_C d m_X5_takeCondition [am_r s, am_r a1] K N I P z Q am_nx := by
  refine am_C_of ok_X5_takeCondition (fun v hv => am_v1all _ rfl v hv) (Nat.le_of_ble_eq_true rfl) ?_
  show am_E d m_X5_takeCondition 0 0 0 [some (am_r s), some (am_r a1), none, none, none] [] K N I P z Q am_nx
  refine e_aload_n dX5_takeCondition_0 rfl trivial ?_
  obtain ⟨hK6, h⟩ := h
  refine e_callV (Mc := m_X5_nextSign) (vs := []) (st := []) dX5_takeCondition_1 ok_X5_nextSign rfl ⟨by decide, rfl⟩ mk_X5_31 im_X5_nextSign sl_X5_nextSign rfl rfl hK6 (by omega) (Nat.le_of_ble_eq_true rfl) (Nat.le_of_ble_eq_true rfl) (Nat.le_of_ble_eq_true rfl) am_xh_nx (am_C_mono h (fun v K1 N2 I3 P4 z5 h => ?_) (fun _ _ _ _ _ _ h => h))
  replace h := am_iv_or h
  obtain ⟨x7, rfl, h⟩ := h
  show am_E d m_X5_takeCondition 4 _ _ _ [am_i x7] K1 N2 I3 P4 z5 Q am_nx
  refine e_istore_n dX5_takeCondition_4 ?_
  refine e_aload_n dX5_takeCondition_5 rfl trivial ?_
  refine e_bipush dX5_takeCondition_6 ?_
  obtain ⟨hK13, h⟩ := h
  refine e_callV (Mc := m_X5_takesSign) (vs := [am_i 99]) (st := []) dX5_takeCondition_8 ok_X5_takesSign rfl ⟨by decide, rfl⟩ mk_X5_42 im_X5_takesSign sl_X5_takesSign rfl rfl hK13 (by omega) (Nat.le_of_ble_eq_true rfl) (Nat.le_of_ble_eq_true rfl) (Nat.le_of_ble_eq_true rfl) am_xh_nx (am_C_mono h (fun v K8 N9 I10 P11 z12 h => ?_) (fun _ _ _ _ _ _ h => h))
  replace h := am_iv_or h
  obtain ⟨x14, rfl, h⟩ := h
  show am_E d m_X5_takeCondition 11 _ _ _ [am_i x14] K8 N9 I10 P11 z12 Q am_nx
  refine e_if_ne (tgt := 34) dX5_takeCondition_11 (by decide) (fun hc => ?_) (fun hc => ?_)
  · replace h := h.1 hc
    refine e_aload_n dX5_takeCondition_34 rfl trivial ?_
    obtain ⟨hK20, h⟩ := h
    refine e_callV (Mc := m_X5_takeNumber) (vs := []) (st := []) dX5_takeCondition_35 ok_X5_takeNumber rfl ⟨by decide, rfl⟩ mk_X5_53 im_X5_takeNumber sl_X5_takeNumber rfl rfl hK20 (by omega) (Nat.le_of_ble_eq_true rfl) (Nat.le_of_ble_eq_true rfl) (Nat.le_of_ble_eq_true rfl) am_xh_nx (am_C_mono h (fun v K15 N16 I17 P18 z19 h => ?_) (fun _ _ _ _ _ _ h => h))
    replace h := am_iv_or h
    obtain ⟨x21, rfl, h⟩ := h
    show am_E d m_X5_takeCondition 38 _ _ _ [am_i x21] K15 N16 I17 P18 z19 Q am_nx
    refine e_istore_n dX5_takeCondition_38 ?_
    refine e_iconst dX5_takeCondition_39 ?_
    refine e_istore dX5_takeCondition_40 ?_
    refine e_iload_n dX5_takeCondition_42 rfl ?_
    refine e_bipush dX5_takeCondition_43 ?_
    refine e_icmp_ne (tgt := 74) dX5_takeCondition_45 (by decide) (fun hc => ?_) (fun hc => ?_)
    · replace h := h.1 hc
      refine e_iload_n dX5_takeCondition_74 rfl ?_
      refine e_iconst dX5_takeCondition_75 ?_
      refine e_icmp_eq (tgt := 94) dX5_takeCondition_76 (by decide) (fun hc => ?_) (fun hc => ?_)
      · replace h := h.1 hc
        refine e_iconst dX5_takeCondition_94 ?_
        exact e_ret_i dX5_takeCondition_95 rfl (Nat.le_of_ble_eq_true rfl) (Nat.le_of_ble_eq_true rfl) h
      · replace h := h.2 hc
        refine e_iload dX5_takeCondition_79 rfl ?_
        refine e_iconst dX5_takeCondition_81 ?_
        refine e_icmp_eq (tgt := 94) dX5_takeCondition_82 (by decide) (fun q => absurd q (by decide)) (fun _ => ?_)
        refine e_aload_n dX5_takeCondition_85 rfl trivial ?_
        refine e_bipush dX5_takeCondition_86 ?_
        obtain ⟨hK27, h⟩ := h
        refine e_callV (Mc := m_X5_takesSign) (vs := [am_i 59]) (st := []) dX5_takeCondition_88 ok_X5_takesSign rfl ⟨by decide, rfl⟩ mk_X5_42 im_X5_takesSign sl_X5_takesSign rfl rfl hK27 (by omega) (Nat.le_of_ble_eq_true rfl) (Nat.le_of_ble_eq_true rfl) (Nat.le_of_ble_eq_true rfl) am_xh_nx (am_C_mono h (fun v K22 N23 I24 P25 z26 h => ?_) (fun _ _ _ _ _ _ h => h))
        replace h := am_iv_or h
        obtain ⟨x28, rfl, h⟩ := h
        show am_E d m_X5_takeCondition 91 _ _ _ [am_i x28] K22 N23 I24 P25 z26 Q am_nx
        refine e_if_ne (tgt := 96) dX5_takeCondition_91 (by decide) (fun hc => ?_) (fun hc => ?_)
        · replace h := h.1 hc
          refine e_aload_n dX5_takeCondition_96 rfl trivial ?_
          refine e_iload_n dX5_takeCondition_97 rfl ?_
          refine e_iload_n dX5_takeCondition_98 rfl ?_
          refine e_iload dX5_takeCondition_99 rfl ?_
          obtain ⟨hK34, h⟩ := h
          refine e_callV (Mc := m_X4_addCondition) (vs := [am_i x7, am_i x21, am_i 0]) (st := []) dX5_takeCondition_101 ok_X4_addCondition rfl ⟨by decide, rfl⟩ mk_X5_56 im_X4_addCondition sl_X4_addCondition rfl rfl hK34 (by omega) (Nat.le_of_ble_eq_true rfl) (Nat.le_of_ble_eq_true rfl) (Nat.le_of_ble_eq_true rfl) am_xh_nx (am_C_mono h (fun v K29 N30 I31 P32 z33 h => ?_) (fun _ _ _ _ _ _ h => h))
          replace h := am_iv_or h
          obtain ⟨x35, rfl, h⟩ := h
          show am_E d m_X5_takeCondition 104 _ _ _ [am_i x35] K29 N30 I31 P32 z33 Q am_nx
          exact e_ret_i dX5_takeCondition_104 rfl (Nat.le_of_ble_eq_true rfl) (Nat.le_of_ble_eq_true rfl) h
        · replace h := h.2 hc
          refine e_iconst dX5_takeCondition_94 ?_
          exact e_ret_i dX5_takeCondition_95 rfl (Nat.le_of_ble_eq_true rfl) (Nat.le_of_ble_eq_true rfl) h
    · replace h := h.2 hc
      refine e_iload_n dX5_takeCondition_48 rfl ?_
      refine e_if_eq (tgt := 66) dX5_takeCondition_49 (by decide) (fun hc => ?_) (fun hc => ?_)
      · replace h := h.1 hc
        refine e_iconst dX5_takeCondition_66 ?_
        exact e_ret_i dX5_takeCondition_67 rfl (Nat.le_of_ble_eq_true rfl) (Nat.le_of_ble_eq_true rfl) h
      · replace h := h.2 hc
        refine e_iload_n dX5_takeCondition_52 rfl ?_
        refine e_iconst dX5_takeCondition_53 ?_
        refine e_icmp_eq (tgt := 66) dX5_takeCondition_54 (by decide) (fun hc => ?_) (fun hc => ?_)
        · replace h := h.1 hc
          refine e_iconst dX5_takeCondition_66 ?_
          exact e_ret_i dX5_takeCondition_67 rfl (Nat.le_of_ble_eq_true rfl) (Nat.le_of_ble_eq_true rfl) h
        · replace h := h.2 hc
          refine e_aload_n dX5_takeCondition_57 rfl trivial ?_
          refine e_bipush dX5_takeCondition_58 ?_
          obtain ⟨hK41, h⟩ := h
          refine e_callV (Mc := m_X5_takesSign) (vs := [am_i 44]) (st := []) dX5_takeCondition_60 ok_X5_takesSign rfl ⟨by decide, rfl⟩ mk_X5_42 im_X5_takesSign sl_X5_takesSign rfl rfl hK41 (by omega) (Nat.le_of_ble_eq_true rfl) (Nat.le_of_ble_eq_true rfl) (Nat.le_of_ble_eq_true rfl) am_xh_nx (am_C_mono h (fun v K36 N37 I38 P39 z40 h => ?_) (fun _ _ _ _ _ _ h => h))
          replace h := am_iv_or h
          obtain ⟨x42, rfl, h⟩ := h
          show am_E d m_X5_takeCondition 63 _ _ _ [am_i x42] K36 N37 I38 P39 z40 Q am_nx
          refine e_if_ne (tgt := 68) dX5_takeCondition_63 (by decide) (fun hc => ?_) (fun hc => ?_)
          · replace h := h.1 hc
            refine e_aload_n dX5_takeCondition_68 rfl trivial ?_
            obtain ⟨hK48, h⟩ := h
            refine e_callV (Mc := m_X5_takeNumber) (vs := []) (st := []) dX5_takeCondition_69 ok_X5_takeNumber rfl ⟨by decide, rfl⟩ mk_X5_53 im_X5_takeNumber sl_X5_takeNumber rfl rfl hK48 (by omega) (Nat.le_of_ble_eq_true rfl) (Nat.le_of_ble_eq_true rfl) (Nat.le_of_ble_eq_true rfl) am_xh_nx (am_C_mono h (fun v K43 N44 I45 P46 z47 h => ?_) (fun _ _ _ _ _ _ h => h))
            replace h := am_iv_or h
            obtain ⟨x49, rfl, h⟩ := h
            show am_E d m_X5_takeCondition 72 _ _ _ [am_i x49] K43 N44 I45 P46 z47 Q am_nx
            refine e_istore dX5_takeCondition_72 ?_
            refine e_iload_n dX5_takeCondition_74 rfl ?_
            refine e_iconst dX5_takeCondition_75 ?_
            refine e_icmp_eq (tgt := 94) dX5_takeCondition_76 (by decide) (fun hc => ?_) (fun hc => ?_)
            · replace h := h.1 hc
              refine e_iconst dX5_takeCondition_94 ?_
              exact e_ret_i dX5_takeCondition_95 rfl (Nat.le_of_ble_eq_true rfl) (Nat.le_of_ble_eq_true rfl) h
            · replace h := h.2 hc
              refine e_iload dX5_takeCondition_79 rfl ?_
              refine e_iconst dX5_takeCondition_81 ?_
              refine e_icmp_eq (tgt := 94) dX5_takeCondition_82 (by decide) (fun hc => ?_) (fun hc => ?_)
              · replace h := h.1 hc
                refine e_iconst dX5_takeCondition_94 ?_
                exact e_ret_i dX5_takeCondition_95 rfl (Nat.le_of_ble_eq_true rfl) (Nat.le_of_ble_eq_true rfl) h
              · replace h := h.2 hc
                refine e_aload_n dX5_takeCondition_85 rfl trivial ?_
                refine e_bipush dX5_takeCondition_86 ?_
                obtain ⟨hK55, h⟩ := h
                refine e_callV (Mc := m_X5_takesSign) (vs := [am_i 59]) (st := []) dX5_takeCondition_88 ok_X5_takesSign rfl ⟨by decide, rfl⟩ mk_X5_42 im_X5_takesSign sl_X5_takesSign rfl rfl hK55 (by omega) (Nat.le_of_ble_eq_true rfl) (Nat.le_of_ble_eq_true rfl) (Nat.le_of_ble_eq_true rfl) am_xh_nx (am_C_mono h (fun v K50 N51 I52 P53 z54 h => ?_) (fun _ _ _ _ _ _ h => h))
                replace h := am_iv_or h
                obtain ⟨x56, rfl, h⟩ := h
                show am_E d m_X5_takeCondition 91 _ _ _ [am_i x56] K50 N51 I52 P53 z54 Q am_nx
                refine e_if_ne (tgt := 96) dX5_takeCondition_91 (by decide) (fun hc => ?_) (fun hc => ?_)
                · replace h := h.1 hc
                  refine e_aload_n dX5_takeCondition_96 rfl trivial ?_
                  refine e_iload_n dX5_takeCondition_97 rfl ?_
                  refine e_iload_n dX5_takeCondition_98 rfl ?_
                  refine e_iload dX5_takeCondition_99 rfl ?_
                  obtain ⟨hK62, h⟩ := h
                  refine e_callV (Mc := m_X4_addCondition) (vs := [am_i x7, am_i x21, am_i x49]) (st := []) dX5_takeCondition_101 ok_X4_addCondition rfl ⟨by decide, rfl⟩ mk_X5_56 im_X4_addCondition sl_X4_addCondition rfl rfl hK62 (by omega) (Nat.le_of_ble_eq_true rfl) (Nat.le_of_ble_eq_true rfl) (Nat.le_of_ble_eq_true rfl) am_xh_nx (am_C_mono h (fun v K57 N58 I59 P60 z61 h => ?_) (fun _ _ _ _ _ _ h => h))
                  replace h := am_iv_or h
                  obtain ⟨x63, rfl, h⟩ := h
                  show am_E d m_X5_takeCondition 104 _ _ _ [am_i x63] K57 N58 I59 P60 z61 Q am_nx
                  exact e_ret_i dX5_takeCondition_104 rfl (Nat.le_of_ble_eq_true rfl) (Nat.le_of_ble_eq_true rfl) h
                · replace h := h.2 hc
                  refine e_iconst dX5_takeCondition_94 ?_
                  exact e_ret_i dX5_takeCondition_95 rfl (Nat.le_of_ble_eq_true rfl) (Nat.le_of_ble_eq_true rfl) h
          · replace h := h.2 hc
            refine e_iconst dX5_takeCondition_66 ?_
            exact e_ret_i dX5_takeCondition_67 rfl (Nat.le_of_ble_eq_true rfl) (Nat.le_of_ble_eq_true rfl) h
  · replace h := h.2 hc
    refine e_aload_n dX5_takeCondition_14 rfl trivial ?_
    refine e_bipush dX5_takeCondition_15 ?_
    obtain ⟨hK69, h⟩ := h
    refine e_callV (Mc := m_X5_takesSign) (vs := [am_i 108]) (st := []) dX5_takeCondition_17 ok_X5_takesSign rfl ⟨by decide, rfl⟩ mk_X5_42 im_X5_takesSign sl_X5_takesSign rfl rfl hK69 (by omega) (Nat.le_of_ble_eq_true rfl) (Nat.le_of_ble_eq_true rfl) (Nat.le_of_ble_eq_true rfl) am_xh_nx (am_C_mono h (fun v K64 N65 I66 P67 z68 h => ?_) (fun _ _ _ _ _ _ h => h))
    replace h := am_iv_or h
    obtain ⟨x70, rfl, h⟩ := h
    show am_E d m_X5_takeCondition 20 _ _ _ [am_i x70] K64 N65 I66 P67 z68 Q am_nx
    refine e_if_ne (tgt := 34) dX5_takeCondition_20 (by decide) (fun hc => ?_) (fun hc => ?_)
    · replace h := h.1 hc
      refine e_aload_n dX5_takeCondition_34 rfl trivial ?_
      obtain ⟨hK76, h⟩ := h
      refine e_callV (Mc := m_X5_takeNumber) (vs := []) (st := []) dX5_takeCondition_35 ok_X5_takeNumber rfl ⟨by decide, rfl⟩ mk_X5_53 im_X5_takeNumber sl_X5_takeNumber rfl rfl hK76 (by omega) (Nat.le_of_ble_eq_true rfl) (Nat.le_of_ble_eq_true rfl) (Nat.le_of_ble_eq_true rfl) am_xh_nx (am_C_mono h (fun v K71 N72 I73 P74 z75 h => ?_) (fun _ _ _ _ _ _ h => h))
      replace h := am_iv_or h
      obtain ⟨x77, rfl, h⟩ := h
      show am_E d m_X5_takeCondition 38 _ _ _ [am_i x77] K71 N72 I73 P74 z75 Q am_nx
      refine e_istore_n dX5_takeCondition_38 ?_
      refine e_iconst dX5_takeCondition_39 ?_
      refine e_istore dX5_takeCondition_40 ?_
      refine e_iload_n dX5_takeCondition_42 rfl ?_
      refine e_bipush dX5_takeCondition_43 ?_
      refine e_icmp_ne (tgt := 74) dX5_takeCondition_45 (by decide) (fun hc => ?_) (fun hc => ?_)
      · replace h := h.1 hc
        refine e_iload_n dX5_takeCondition_74 rfl ?_
        refine e_iconst dX5_takeCondition_75 ?_
        refine e_icmp_eq (tgt := 94) dX5_takeCondition_76 (by decide) (fun hc => ?_) (fun hc => ?_)
        · replace h := h.1 hc
          refine e_iconst dX5_takeCondition_94 ?_
          exact e_ret_i dX5_takeCondition_95 rfl (Nat.le_of_ble_eq_true rfl) (Nat.le_of_ble_eq_true rfl) h
        · replace h := h.2 hc
          refine e_iload dX5_takeCondition_79 rfl ?_
          refine e_iconst dX5_takeCondition_81 ?_
          refine e_icmp_eq (tgt := 94) dX5_takeCondition_82 (by decide) (fun q => absurd q (by decide)) (fun _ => ?_)
          refine e_aload_n dX5_takeCondition_85 rfl trivial ?_
          refine e_bipush dX5_takeCondition_86 ?_
          obtain ⟨hK83, h⟩ := h
          refine e_callV (Mc := m_X5_takesSign) (vs := [am_i 59]) (st := []) dX5_takeCondition_88 ok_X5_takesSign rfl ⟨by decide, rfl⟩ mk_X5_42 im_X5_takesSign sl_X5_takesSign rfl rfl hK83 (by omega) (Nat.le_of_ble_eq_true rfl) (Nat.le_of_ble_eq_true rfl) (Nat.le_of_ble_eq_true rfl) am_xh_nx (am_C_mono h (fun v K78 N79 I80 P81 z82 h => ?_) (fun _ _ _ _ _ _ h => h))
          replace h := am_iv_or h
          obtain ⟨x84, rfl, h⟩ := h
          show am_E d m_X5_takeCondition 91 _ _ _ [am_i x84] K78 N79 I80 P81 z82 Q am_nx
          refine e_if_ne (tgt := 96) dX5_takeCondition_91 (by decide) (fun hc => ?_) (fun hc => ?_)
          · replace h := h.1 hc
            refine e_aload_n dX5_takeCondition_96 rfl trivial ?_
            refine e_iload_n dX5_takeCondition_97 rfl ?_
            refine e_iload_n dX5_takeCondition_98 rfl ?_
            refine e_iload dX5_takeCondition_99 rfl ?_
            obtain ⟨hK90, h⟩ := h
            refine e_callV (Mc := m_X4_addCondition) (vs := [am_i x7, am_i x77, am_i 0]) (st := []) dX5_takeCondition_101 ok_X4_addCondition rfl ⟨by decide, rfl⟩ mk_X5_56 im_X4_addCondition sl_X4_addCondition rfl rfl hK90 (by omega) (Nat.le_of_ble_eq_true rfl) (Nat.le_of_ble_eq_true rfl) (Nat.le_of_ble_eq_true rfl) am_xh_nx (am_C_mono h (fun v K85 N86 I87 P88 z89 h => ?_) (fun _ _ _ _ _ _ h => h))
            replace h := am_iv_or h
            obtain ⟨x91, rfl, h⟩ := h
            show am_E d m_X5_takeCondition 104 _ _ _ [am_i x91] K85 N86 I87 P88 z89 Q am_nx
            exact e_ret_i dX5_takeCondition_104 rfl (Nat.le_of_ble_eq_true rfl) (Nat.le_of_ble_eq_true rfl) h
          · replace h := h.2 hc
            refine e_iconst dX5_takeCondition_94 ?_
            exact e_ret_i dX5_takeCondition_95 rfl (Nat.le_of_ble_eq_true rfl) (Nat.le_of_ble_eq_true rfl) h
      · replace h := h.2 hc
        refine e_iload_n dX5_takeCondition_48 rfl ?_
        refine e_if_eq (tgt := 66) dX5_takeCondition_49 (by decide) (fun hc => ?_) (fun hc => ?_)
        · replace h := h.1 hc
          refine e_iconst dX5_takeCondition_66 ?_
          exact e_ret_i dX5_takeCondition_67 rfl (Nat.le_of_ble_eq_true rfl) (Nat.le_of_ble_eq_true rfl) h
        · replace h := h.2 hc
          refine e_iload_n dX5_takeCondition_52 rfl ?_
          refine e_iconst dX5_takeCondition_53 ?_
          refine e_icmp_eq (tgt := 66) dX5_takeCondition_54 (by decide) (fun hc => ?_) (fun hc => ?_)
          · replace h := h.1 hc
            refine e_iconst dX5_takeCondition_66 ?_
            exact e_ret_i dX5_takeCondition_67 rfl (Nat.le_of_ble_eq_true rfl) (Nat.le_of_ble_eq_true rfl) h
          · replace h := h.2 hc
            refine e_aload_n dX5_takeCondition_57 rfl trivial ?_
            refine e_bipush dX5_takeCondition_58 ?_
            obtain ⟨hK97, h⟩ := h
            refine e_callV (Mc := m_X5_takesSign) (vs := [am_i 44]) (st := []) dX5_takeCondition_60 ok_X5_takesSign rfl ⟨by decide, rfl⟩ mk_X5_42 im_X5_takesSign sl_X5_takesSign rfl rfl hK97 (by omega) (Nat.le_of_ble_eq_true rfl) (Nat.le_of_ble_eq_true rfl) (Nat.le_of_ble_eq_true rfl) am_xh_nx (am_C_mono h (fun v K92 N93 I94 P95 z96 h => ?_) (fun _ _ _ _ _ _ h => h))
            replace h := am_iv_or h
            obtain ⟨x98, rfl, h⟩ := h
            show am_E d m_X5_takeCondition 63 _ _ _ [am_i x98] K92 N93 I94 P95 z96 Q am_nx
            refine e_if_ne (tgt := 68) dX5_takeCondition_63 (by decide) (fun hc => ?_) (fun hc => ?_)
            · replace h := h.1 hc
              refine e_aload_n dX5_takeCondition_68 rfl trivial ?_
              obtain ⟨hK104, h⟩ := h
              refine e_callV (Mc := m_X5_takeNumber) (vs := []) (st := []) dX5_takeCondition_69 ok_X5_takeNumber rfl ⟨by decide, rfl⟩ mk_X5_53 im_X5_takeNumber sl_X5_takeNumber rfl rfl hK104 (by omega) (Nat.le_of_ble_eq_true rfl) (Nat.le_of_ble_eq_true rfl) (Nat.le_of_ble_eq_true rfl) am_xh_nx (am_C_mono h (fun v K99 N100 I101 P102 z103 h => ?_) (fun _ _ _ _ _ _ h => h))
              replace h := am_iv_or h
              obtain ⟨x105, rfl, h⟩ := h
              show am_E d m_X5_takeCondition 72 _ _ _ [am_i x105] K99 N100 I101 P102 z103 Q am_nx
              refine e_istore dX5_takeCondition_72 ?_
              refine e_iload_n dX5_takeCondition_74 rfl ?_
              refine e_iconst dX5_takeCondition_75 ?_
              refine e_icmp_eq (tgt := 94) dX5_takeCondition_76 (by decide) (fun hc => ?_) (fun hc => ?_)
              · replace h := h.1 hc
                refine e_iconst dX5_takeCondition_94 ?_
                exact e_ret_i dX5_takeCondition_95 rfl (Nat.le_of_ble_eq_true rfl) (Nat.le_of_ble_eq_true rfl) h
              · replace h := h.2 hc
                refine e_iload dX5_takeCondition_79 rfl ?_
                refine e_iconst dX5_takeCondition_81 ?_
                refine e_icmp_eq (tgt := 94) dX5_takeCondition_82 (by decide) (fun hc => ?_) (fun hc => ?_)
                · replace h := h.1 hc
                  refine e_iconst dX5_takeCondition_94 ?_
                  exact e_ret_i dX5_takeCondition_95 rfl (Nat.le_of_ble_eq_true rfl) (Nat.le_of_ble_eq_true rfl) h
                · replace h := h.2 hc
                  refine e_aload_n dX5_takeCondition_85 rfl trivial ?_
                  refine e_bipush dX5_takeCondition_86 ?_
                  obtain ⟨hK111, h⟩ := h
                  refine e_callV (Mc := m_X5_takesSign) (vs := [am_i 59]) (st := []) dX5_takeCondition_88 ok_X5_takesSign rfl ⟨by decide, rfl⟩ mk_X5_42 im_X5_takesSign sl_X5_takesSign rfl rfl hK111 (by omega) (Nat.le_of_ble_eq_true rfl) (Nat.le_of_ble_eq_true rfl) (Nat.le_of_ble_eq_true rfl) am_xh_nx (am_C_mono h (fun v K106 N107 I108 P109 z110 h => ?_) (fun _ _ _ _ _ _ h => h))
                  replace h := am_iv_or h
                  obtain ⟨x112, rfl, h⟩ := h
                  show am_E d m_X5_takeCondition 91 _ _ _ [am_i x112] K106 N107 I108 P109 z110 Q am_nx
                  refine e_if_ne (tgt := 96) dX5_takeCondition_91 (by decide) (fun hc => ?_) (fun hc => ?_)
                  · replace h := h.1 hc
                    refine e_aload_n dX5_takeCondition_96 rfl trivial ?_
                    refine e_iload_n dX5_takeCondition_97 rfl ?_
                    refine e_iload_n dX5_takeCondition_98 rfl ?_
                    refine e_iload dX5_takeCondition_99 rfl ?_
                    obtain ⟨hK118, h⟩ := h
                    refine e_callV (Mc := m_X4_addCondition) (vs := [am_i x7, am_i x77, am_i x105]) (st := []) dX5_takeCondition_101 ok_X4_addCondition rfl ⟨by decide, rfl⟩ mk_X5_56 im_X4_addCondition sl_X4_addCondition rfl rfl hK118 (by omega) (Nat.le_of_ble_eq_true rfl) (Nat.le_of_ble_eq_true rfl) (Nat.le_of_ble_eq_true rfl) am_xh_nx (am_C_mono h (fun v K113 N114 I115 P116 z117 h => ?_) (fun _ _ _ _ _ _ h => h))
                    replace h := am_iv_or h
                    obtain ⟨x119, rfl, h⟩ := h
                    show am_E d m_X5_takeCondition 104 _ _ _ [am_i x119] K113 N114 I115 P116 z117 Q am_nx
                    exact e_ret_i dX5_takeCondition_104 rfl (Nat.le_of_ble_eq_true rfl) (Nat.le_of_ble_eq_true rfl) h
                  · replace h := h.2 hc
                    refine e_iconst dX5_takeCondition_94 ?_
                    exact e_ret_i dX5_takeCondition_95 rfl (Nat.le_of_ble_eq_true rfl) (Nat.le_of_ble_eq_true rfl) h
            · replace h := h.2 hc
              refine e_iconst dX5_takeCondition_66 ?_
              exact e_ret_i dX5_takeCondition_67 rfl (Nat.le_of_ble_eq_true rfl) (Nat.le_of_ble_eq_true rfl) h
    · replace h := h.2 hc
      refine e_aload_n dX5_takeCondition_23 rfl trivial ?_
      refine e_bipush dX5_takeCondition_24 ?_
      obtain ⟨hK125, h⟩ := h
      refine e_callV (Mc := m_X5_takesSign) (vs := [am_i 109]) (st := []) dX5_takeCondition_26 ok_X5_takesSign rfl ⟨by decide, rfl⟩ mk_X5_42 im_X5_takesSign sl_X5_takesSign rfl rfl hK125 (by omega) (Nat.le_of_ble_eq_true rfl) (Nat.le_of_ble_eq_true rfl) (Nat.le_of_ble_eq_true rfl) am_xh_nx (am_C_mono h (fun v K120 N121 I122 P123 z124 h => ?_) (fun _ _ _ _ _ _ h => h))
      replace h := am_iv_or h
      obtain ⟨x126, rfl, h⟩ := h
      show am_E d m_X5_takeCondition 29 _ _ _ [am_i x126] K120 N121 I122 P123 z124 Q am_nx
      refine e_if_ne (tgt := 34) dX5_takeCondition_29 (by decide) (fun hc => ?_) (fun hc => ?_)
      · replace h := h.1 hc
        refine e_aload_n dX5_takeCondition_34 rfl trivial ?_
        obtain ⟨hK132, h⟩ := h
        refine e_callV (Mc := m_X5_takeNumber) (vs := []) (st := []) dX5_takeCondition_35 ok_X5_takeNumber rfl ⟨by decide, rfl⟩ mk_X5_53 im_X5_takeNumber sl_X5_takeNumber rfl rfl hK132 (by omega) (Nat.le_of_ble_eq_true rfl) (Nat.le_of_ble_eq_true rfl) (Nat.le_of_ble_eq_true rfl) am_xh_nx (am_C_mono h (fun v K127 N128 I129 P130 z131 h => ?_) (fun _ _ _ _ _ _ h => h))
        replace h := am_iv_or h
        obtain ⟨x133, rfl, h⟩ := h
        show am_E d m_X5_takeCondition 38 _ _ _ [am_i x133] K127 N128 I129 P130 z131 Q am_nx
        refine e_istore_n dX5_takeCondition_38 ?_
        refine e_iconst dX5_takeCondition_39 ?_
        refine e_istore dX5_takeCondition_40 ?_
        refine e_iload_n dX5_takeCondition_42 rfl ?_
        refine e_bipush dX5_takeCondition_43 ?_
        refine e_icmp_ne (tgt := 74) dX5_takeCondition_45 (by decide) (fun hc => ?_) (fun hc => ?_)
        · replace h := h.1 hc
          refine e_iload_n dX5_takeCondition_74 rfl ?_
          refine e_iconst dX5_takeCondition_75 ?_
          refine e_icmp_eq (tgt := 94) dX5_takeCondition_76 (by decide) (fun hc => ?_) (fun hc => ?_)
          · replace h := h.1 hc
            refine e_iconst dX5_takeCondition_94 ?_
            exact e_ret_i dX5_takeCondition_95 rfl (Nat.le_of_ble_eq_true rfl) (Nat.le_of_ble_eq_true rfl) h
          · replace h := h.2 hc
            refine e_iload dX5_takeCondition_79 rfl ?_
            refine e_iconst dX5_takeCondition_81 ?_
            refine e_icmp_eq (tgt := 94) dX5_takeCondition_82 (by decide) (fun q => absurd q (by decide)) (fun _ => ?_)
            refine e_aload_n dX5_takeCondition_85 rfl trivial ?_
            refine e_bipush dX5_takeCondition_86 ?_
            obtain ⟨hK139, h⟩ := h
            refine e_callV (Mc := m_X5_takesSign) (vs := [am_i 59]) (st := []) dX5_takeCondition_88 ok_X5_takesSign rfl ⟨by decide, rfl⟩ mk_X5_42 im_X5_takesSign sl_X5_takesSign rfl rfl hK139 (by omega) (Nat.le_of_ble_eq_true rfl) (Nat.le_of_ble_eq_true rfl) (Nat.le_of_ble_eq_true rfl) am_xh_nx (am_C_mono h (fun v K134 N135 I136 P137 z138 h => ?_) (fun _ _ _ _ _ _ h => h))
            replace h := am_iv_or h
            obtain ⟨x140, rfl, h⟩ := h
            show am_E d m_X5_takeCondition 91 _ _ _ [am_i x140] K134 N135 I136 P137 z138 Q am_nx
            refine e_if_ne (tgt := 96) dX5_takeCondition_91 (by decide) (fun hc => ?_) (fun hc => ?_)
            · replace h := h.1 hc
              refine e_aload_n dX5_takeCondition_96 rfl trivial ?_
              refine e_iload_n dX5_takeCondition_97 rfl ?_
              refine e_iload_n dX5_takeCondition_98 rfl ?_
              refine e_iload dX5_takeCondition_99 rfl ?_
              obtain ⟨hK146, h⟩ := h
              refine e_callV (Mc := m_X4_addCondition) (vs := [am_i x7, am_i x133, am_i 0]) (st := []) dX5_takeCondition_101 ok_X4_addCondition rfl ⟨by decide, rfl⟩ mk_X5_56 im_X4_addCondition sl_X4_addCondition rfl rfl hK146 (by omega) (Nat.le_of_ble_eq_true rfl) (Nat.le_of_ble_eq_true rfl) (Nat.le_of_ble_eq_true rfl) am_xh_nx (am_C_mono h (fun v K141 N142 I143 P144 z145 h => ?_) (fun _ _ _ _ _ _ h => h))
              replace h := am_iv_or h
              obtain ⟨x147, rfl, h⟩ := h
              show am_E d m_X5_takeCondition 104 _ _ _ [am_i x147] K141 N142 I143 P144 z145 Q am_nx
              exact e_ret_i dX5_takeCondition_104 rfl (Nat.le_of_ble_eq_true rfl) (Nat.le_of_ble_eq_true rfl) h
            · replace h := h.2 hc
              refine e_iconst dX5_takeCondition_94 ?_
              exact e_ret_i dX5_takeCondition_95 rfl (Nat.le_of_ble_eq_true rfl) (Nat.le_of_ble_eq_true rfl) h
        · replace h := h.2 hc
          refine e_iload_n dX5_takeCondition_48 rfl ?_
          refine e_if_eq (tgt := 66) dX5_takeCondition_49 (by decide) (fun hc => ?_) (fun hc => ?_)
          · replace h := h.1 hc
            refine e_iconst dX5_takeCondition_66 ?_
            exact e_ret_i dX5_takeCondition_67 rfl (Nat.le_of_ble_eq_true rfl) (Nat.le_of_ble_eq_true rfl) h
          · replace h := h.2 hc
            refine e_iload_n dX5_takeCondition_52 rfl ?_
            refine e_iconst dX5_takeCondition_53 ?_
            refine e_icmp_eq (tgt := 66) dX5_takeCondition_54 (by decide) (fun hc => ?_) (fun hc => ?_)
            · replace h := h.1 hc
              refine e_iconst dX5_takeCondition_66 ?_
              exact e_ret_i dX5_takeCondition_67 rfl (Nat.le_of_ble_eq_true rfl) (Nat.le_of_ble_eq_true rfl) h
            · replace h := h.2 hc
              refine e_aload_n dX5_takeCondition_57 rfl trivial ?_
              refine e_bipush dX5_takeCondition_58 ?_
              obtain ⟨hK153, h⟩ := h
              refine e_callV (Mc := m_X5_takesSign) (vs := [am_i 44]) (st := []) dX5_takeCondition_60 ok_X5_takesSign rfl ⟨by decide, rfl⟩ mk_X5_42 im_X5_takesSign sl_X5_takesSign rfl rfl hK153 (by omega) (Nat.le_of_ble_eq_true rfl) (Nat.le_of_ble_eq_true rfl) (Nat.le_of_ble_eq_true rfl) am_xh_nx (am_C_mono h (fun v K148 N149 I150 P151 z152 h => ?_) (fun _ _ _ _ _ _ h => h))
              replace h := am_iv_or h
              obtain ⟨x154, rfl, h⟩ := h
              show am_E d m_X5_takeCondition 63 _ _ _ [am_i x154] K148 N149 I150 P151 z152 Q am_nx
              refine e_if_ne (tgt := 68) dX5_takeCondition_63 (by decide) (fun hc => ?_) (fun hc => ?_)
              · replace h := h.1 hc
                refine e_aload_n dX5_takeCondition_68 rfl trivial ?_
                obtain ⟨hK160, h⟩ := h
                refine e_callV (Mc := m_X5_takeNumber) (vs := []) (st := []) dX5_takeCondition_69 ok_X5_takeNumber rfl ⟨by decide, rfl⟩ mk_X5_53 im_X5_takeNumber sl_X5_takeNumber rfl rfl hK160 (by omega) (Nat.le_of_ble_eq_true rfl) (Nat.le_of_ble_eq_true rfl) (Nat.le_of_ble_eq_true rfl) am_xh_nx (am_C_mono h (fun v K155 N156 I157 P158 z159 h => ?_) (fun _ _ _ _ _ _ h => h))
                replace h := am_iv_or h
                obtain ⟨x161, rfl, h⟩ := h
                show am_E d m_X5_takeCondition 72 _ _ _ [am_i x161] K155 N156 I157 P158 z159 Q am_nx
                refine e_istore dX5_takeCondition_72 ?_
                refine e_iload_n dX5_takeCondition_74 rfl ?_
                refine e_iconst dX5_takeCondition_75 ?_
                refine e_icmp_eq (tgt := 94) dX5_takeCondition_76 (by decide) (fun hc => ?_) (fun hc => ?_)
                · replace h := h.1 hc
                  refine e_iconst dX5_takeCondition_94 ?_
                  exact e_ret_i dX5_takeCondition_95 rfl (Nat.le_of_ble_eq_true rfl) (Nat.le_of_ble_eq_true rfl) h
                · replace h := h.2 hc
                  refine e_iload dX5_takeCondition_79 rfl ?_
                  refine e_iconst dX5_takeCondition_81 ?_
                  refine e_icmp_eq (tgt := 94) dX5_takeCondition_82 (by decide) (fun hc => ?_) (fun hc => ?_)
                  · replace h := h.1 hc
                    refine e_iconst dX5_takeCondition_94 ?_
                    exact e_ret_i dX5_takeCondition_95 rfl (Nat.le_of_ble_eq_true rfl) (Nat.le_of_ble_eq_true rfl) h
                  · replace h := h.2 hc
                    refine e_aload_n dX5_takeCondition_85 rfl trivial ?_
                    refine e_bipush dX5_takeCondition_86 ?_
                    obtain ⟨hK167, h⟩ := h
                    refine e_callV (Mc := m_X5_takesSign) (vs := [am_i 59]) (st := []) dX5_takeCondition_88 ok_X5_takesSign rfl ⟨by decide, rfl⟩ mk_X5_42 im_X5_takesSign sl_X5_takesSign rfl rfl hK167 (by omega) (Nat.le_of_ble_eq_true rfl) (Nat.le_of_ble_eq_true rfl) (Nat.le_of_ble_eq_true rfl) am_xh_nx (am_C_mono h (fun v K162 N163 I164 P165 z166 h => ?_) (fun _ _ _ _ _ _ h => h))
                    replace h := am_iv_or h
                    obtain ⟨x168, rfl, h⟩ := h
                    show am_E d m_X5_takeCondition 91 _ _ _ [am_i x168] K162 N163 I164 P165 z166 Q am_nx
                    refine e_if_ne (tgt := 96) dX5_takeCondition_91 (by decide) (fun hc => ?_) (fun hc => ?_)
                    · replace h := h.1 hc
                      refine e_aload_n dX5_takeCondition_96 rfl trivial ?_
                      refine e_iload_n dX5_takeCondition_97 rfl ?_
                      refine e_iload_n dX5_takeCondition_98 rfl ?_
                      refine e_iload dX5_takeCondition_99 rfl ?_
                      obtain ⟨hK174, h⟩ := h
                      refine e_callV (Mc := m_X4_addCondition) (vs := [am_i x7, am_i x133, am_i x161]) (st := []) dX5_takeCondition_101 ok_X4_addCondition rfl ⟨by decide, rfl⟩ mk_X5_56 im_X4_addCondition sl_X4_addCondition rfl rfl hK174 (by omega) (Nat.le_of_ble_eq_true rfl) (Nat.le_of_ble_eq_true rfl) (Nat.le_of_ble_eq_true rfl) am_xh_nx (am_C_mono h (fun v K169 N170 I171 P172 z173 h => ?_) (fun _ _ _ _ _ _ h => h))
                      replace h := am_iv_or h
                      obtain ⟨x175, rfl, h⟩ := h
                      show am_E d m_X5_takeCondition 104 _ _ _ [am_i x175] K169 N170 I171 P172 z173 Q am_nx
                      exact e_ret_i dX5_takeCondition_104 rfl (Nat.le_of_ble_eq_true rfl) (Nat.le_of_ble_eq_true rfl) h
                    · replace h := h.2 hc
                      refine e_iconst dX5_takeCondition_94 ?_
                      exact e_ret_i dX5_takeCondition_95 rfl (Nat.le_of_ble_eq_true rfl) (Nat.le_of_ble_eq_true rfl) h
              · replace h := h.2 hc
                refine e_iconst dX5_takeCondition_66 ?_
                exact e_ret_i dX5_takeCondition_67 rfl (Nat.le_of_ble_eq_true rfl) (Nat.le_of_ble_eq_true rfl) h
      · replace h := h.2 hc
        refine e_iconst dX5_takeCondition_32 ?_
        exact e_ret_i dX5_takeCondition_33 rfl (Nat.le_of_ble_eq_true rfl) (Nat.le_of_ble_eq_true rfl) h
def L_X5_takeNumber_4 (d : Nat) (l0 : Nat) (l1 : Int) (l2 : Int) (K N : Nat → Nat) (I : Nat → Nat → Int) (P : Nat → Nat → Option Nat) (z : Nat) (Q : am_V → am_T) : Prop := am_E d m_X5_takeNumber 4 0 0 [some (am_r l0), some (am_i l1), some (am_i l2), none] [] K N I P z Q am_nx
set_option maxRecDepth 100000 in
set_option maxHeartbeats 4000000 in
theorem wf_X5_takeNumber {d : Nat} {s : Nat} {K N : Nat → Nat} {I : Nat → Nat → Int} {P : Nat → Nat → Option Nat} {z : Nat} {Q : am_V → am_T} (h :
  L_X5_takeNumber_4 d s (-1) 0 K N I P z Q) :
  am_C d m_X5_takeNumber [am_r s] K N I P z Q am_nx := by
  refine am_C_of ok_X5_takeNumber (fun v hv => am_v1all _ rfl v hv) (Nat.le_of_ble_eq_true rfl) ?_
  show am_E d m_X5_takeNumber 0 0 0 [some (am_r s), none, none, none] [] K N I P z Q am_nx
  refine e_iconst dX5_takeNumber_0 ?_
  refine e_istore_n dX5_takeNumber_1 ?_
  refine e_iconst dX5_takeNumber_2 ?_
  refine e_istore_n dX5_takeNumber_3 ?_
  exact e_forget (am_sub_k (am_sub_k (am_sub_k (am_sub_d am_sub_nil)))) h
set_option maxRecDepth 100000 in
set_option maxHeartbeats 4000000 in
theorem wf_X5_takeNumber_4 {d : Nat} (hd : 1 ≤ d) {l0 : Nat} {l1 : Int} {l2 : Int} {K N : Nat → Nat} {I : Nat → Nat → Int} {P : Nat → Nat → Option Nat} {z : Nat} {Q : am_V → am_T} (h :
  ((3 ≤ l2 →
    Q (am_i l1) K N I P z) ∧
    (¬ (3 ≤ l2) →
    K l0 = 5 ∧ am_C (d - 1) m_X5_nextSign [am_r l0] K N I P z (fun v K1 N2 I3 P4 z5 => am_iv v fun x7 =>
      ((x7 < 48 →
      Q (am_i l1) K1 N2 I3 P4 z5) ∧
      (¬ (x7 < 48) →
      ((x7 ≤ 57 →
        ((¬ l2 = 0 →
          K1 l0 = 5 ∧ ∀ I9, I9 = am_u2 I3 l0 2 (am_wr (I3 l0 2 + 1)) → L_X5_takeNumber_4 d l0 (am_wr ((am_wr ((am_wr (10 * l1)) + x7)) - 48)) (am_wr (l2 + 1)) K1 N2 I9 P4 z5 Q) ∧
          (l2 = 0 →
          K1 l0 = 5 ∧ ∀ I11, I11 = am_u2 I3 l0 2 (am_wr (I3 l0 2 + 1)) → L_X5_takeNumber_4 d l0 (am_wr ((am_wr (0 + x7)) - 48)) (am_wr (l2 + 1)) K1 N2 I11 P4 z5 Q))) ∧
        (¬ (x7 ≤ 57) →
        Q (am_i l1) K1 N2 I3 P4 z5))))) am_nx))) :
  L_X5_takeNumber_4 d l0 l1 l2 K N I P z Q := by
  unfold L_X5_takeNumber_4
  refine e_iload_n dX5_takeNumber_4 rfl ?_
  refine e_iconst dX5_takeNumber_5 ?_
  refine e_icmp_ge (tgt := 63) dX5_takeNumber_6 (by decide) (fun hc => ?_) (fun hc => ?_)
  · replace h := h.1 hc
    refine e_iload_n dX5_takeNumber_63 rfl ?_
    exact e_ret_i dX5_takeNumber_64 rfl (Nat.le_of_ble_eq_true rfl) (Nat.le_of_ble_eq_true rfl) h
  · replace h := h.2 hc
    refine e_aload_n dX5_takeNumber_9 rfl trivial ?_
    obtain ⟨hK6, h⟩ := h
    refine e_callV (Mc := m_X5_nextSign) (vs := []) (st := []) dX5_takeNumber_10 ok_X5_nextSign rfl ⟨by decide, rfl⟩ mk_X5_31 im_X5_nextSign sl_X5_nextSign rfl rfl hK6 (by omega) (Nat.le_of_ble_eq_true rfl) (Nat.le_of_ble_eq_true rfl) (Nat.le_of_ble_eq_true rfl) am_xh_nx (am_C_mono h (fun v K1 N2 I3 P4 z5 h => ?_) (fun _ _ _ _ _ _ h => h))
    replace h := am_iv_or h
    obtain ⟨x7, rfl, h⟩ := h
    show am_E d m_X5_takeNumber 13 _ _ _ [am_i x7] K1 N2 I3 P4 z5 Q am_nx
    refine e_istore_n dX5_takeNumber_13 ?_
    refine e_iload_n dX5_takeNumber_14 rfl ?_
    refine e_bipush dX5_takeNumber_15 ?_
    refine e_icmp_lt (tgt := 63) dX5_takeNumber_17 (by decide) (fun hc => ?_) (fun hc => ?_)
    · replace h := h.1 hc
      refine e_iload_n dX5_takeNumber_63 rfl ?_
      exact e_ret_i dX5_takeNumber_64 rfl (Nat.le_of_ble_eq_true rfl) (Nat.le_of_ble_eq_true rfl) h
    · replace h := h.2 hc
      refine e_iload_n dX5_takeNumber_20 rfl ?_
      refine e_bipush dX5_takeNumber_21 ?_
      refine e_icmp_le (tgt := 29) dX5_takeNumber_23 (by decide) (fun hc => ?_) (fun hc => ?_)
      · replace h := h.1 hc
        refine e_iload_n dX5_takeNumber_29 rfl ?_
        refine e_if_ne (tgt := 37) dX5_takeNumber_30 (by decide) (fun hc => ?_) (fun hc => ?_)
        · replace h := h.1 hc
          refine e_bipush dX5_takeNumber_37 ?_
          refine e_iload_n dX5_takeNumber_39 rfl ?_
          refine e_imul dX5_takeNumber_40 ?_
          refine e_iload_n dX5_takeNumber_41 rfl ?_
          refine e_iadd dX5_takeNumber_42 ?_
          refine e_bipush dX5_takeNumber_43 ?_
          refine e_isub dX5_takeNumber_45 ?_
          refine e_istore_n dX5_takeNumber_46 ?_
          refine e_aload_n dX5_takeNumber_47 rfl trivial ?_
          refine e_dup dX5_takeNumber_48 rfl ?_
          obtain ⟨hK8, h⟩ := h
          refine e_geti dX5_takeNumber_49 fk_X5_19 rfl hK8 ?_
          refine e_iconst dX5_takeNumber_52 ?_
          refine e_iadd dX5_takeNumber_53 ?_
          refine e_puti dX5_takeNumber_54 fk_X5_19 rfl (Or.inl rfl) hK8 ?_
          replace h := h _ rfl
          generalize am_u2 I3 l0 2 (am_wr (I3 l0 2 + 1)) = I9 at h ⊢
          refine e_iinc dX5_takeNumber_57 rfl ?_
          refine e_goto (tgt := 4) dX5_takeNumber_60 (by decide) ?_
          exact e_forget (am_sub_k (am_sub_k (am_sub_k (am_sub_d am_sub_nil)))) h
        · replace h := h.2 hc
          refine e_iconst dX5_takeNumber_33 ?_
          refine e_goto (tgt := 41) dX5_takeNumber_34 (by decide) ?_
          refine e_iload_n dX5_takeNumber_41 rfl ?_
          refine e_iadd dX5_takeNumber_42 ?_
          refine e_bipush dX5_takeNumber_43 ?_
          refine e_isub dX5_takeNumber_45 ?_
          refine e_istore_n dX5_takeNumber_46 ?_
          refine e_aload_n dX5_takeNumber_47 rfl trivial ?_
          refine e_dup dX5_takeNumber_48 rfl ?_
          obtain ⟨hK10, h⟩ := h
          refine e_geti dX5_takeNumber_49 fk_X5_19 rfl hK10 ?_
          refine e_iconst dX5_takeNumber_52 ?_
          refine e_iadd dX5_takeNumber_53 ?_
          refine e_puti dX5_takeNumber_54 fk_X5_19 rfl (Or.inl rfl) hK10 ?_
          replace h := h _ rfl
          generalize am_u2 I3 l0 2 (am_wr (I3 l0 2 + 1)) = I11 at h ⊢
          refine e_iinc dX5_takeNumber_57 rfl ?_
          refine e_goto (tgt := 4) dX5_takeNumber_60 (by decide) ?_
          exact e_forget (am_sub_k (am_sub_k (am_sub_k (am_sub_d am_sub_nil)))) h
      · replace h := h.2 hc
        refine e_goto (tgt := 63) dX5_takeNumber_26 (by decide) ?_
        refine e_iload_n dX5_takeNumber_63 rfl ?_
        exact e_ret_i dX5_takeNumber_64 rfl (Nat.le_of_ble_eq_true rfl) (Nat.le_of_ble_eq_true rfl) h
set_option maxRecDepth 100000 in
set_option maxHeartbeats 4000000 in
theorem wf_X5_takesSign {d : Nat} (hd : 1 ≤ d) {s : Nat} {a1 : Int} {K N : Nat → Nat} {I : Nat → Nat → Int} {P : Nat → Nat → Option Nat} {z : Nat} {Q : am_V → am_T} (h :
  K s = 5 ∧ am_C (d - 1) m_X5_nextSign [am_r s] K N I P z (fun v K1 N2 I3 P4 z5 => am_iv v fun x7 =>
    ((x7 = a1 →
    K1 s = 5 ∧ ∀ I9, I9 = am_u2 I3 s 2 (am_wr (I3 s 2 + 1)) → Q (am_i 1) K1 N2 I9 P4 z5) ∧
    (¬ (x7 = a1) →
    Q (am_i 0) K1 N2 I3 P4 z5))) am_nx) :
  am_C d m_X5_takesSign [am_r s, am_i a1] K N I P z Q am_nx := by
  refine am_C_of ok_X5_takesSign (fun v hv => am_v1all _ rfl v hv) (Nat.le_of_ble_eq_true rfl) ?_
  show am_E d m_X5_takesSign 0 0 0 [some (am_r s), some (am_i a1)] [] K N I P z Q am_nx
  refine e_aload_n dX5_takesSign_0 rfl trivial ?_
  obtain ⟨hK6, h⟩ := h
  refine e_callV (Mc := m_X5_nextSign) (vs := []) (st := []) dX5_takesSign_1 ok_X5_nextSign rfl ⟨by decide, rfl⟩ mk_X5_31 im_X5_nextSign sl_X5_nextSign rfl rfl hK6 (by omega) (Nat.le_of_ble_eq_true rfl) (Nat.le_of_ble_eq_true rfl) (Nat.le_of_ble_eq_true rfl) am_xh_nx (am_C_mono h (fun v K1 N2 I3 P4 z5 h => ?_) (fun _ _ _ _ _ _ h => h))
  replace h := am_iv_or h
  obtain ⟨x7, rfl, h⟩ := h
  show am_E d m_X5_takesSign 4 _ _ _ [am_i x7] K1 N2 I3 P4 z5 Q am_nx
  refine e_iload_n dX5_takesSign_4 rfl ?_
  refine e_icmp_eq (tgt := 10) dX5_takesSign_5 (by decide) (fun hc => ?_) (fun hc => ?_)
  · replace h := h.1 hc
    refine e_aload_n dX5_takesSign_10 rfl trivial ?_
    refine e_dup dX5_takesSign_11 rfl ?_
    obtain ⟨hK8, h⟩ := h
    refine e_geti dX5_takesSign_12 fk_X5_19 rfl hK8 ?_
    refine e_iconst dX5_takesSign_15 ?_
    refine e_iadd dX5_takesSign_16 ?_
    refine e_puti dX5_takesSign_17 fk_X5_19 rfl (Or.inl rfl) hK8 ?_
    replace h := h _ rfl
    generalize am_u2 I3 s 2 (am_wr (I3 s 2 + 1)) = I9 at h ⊢
    refine e_iconst dX5_takesSign_20 ?_
    exact e_ret_z dX5_takesSign_21 rfl (by decide) (Nat.le_of_ble_eq_true rfl) (Nat.le_of_ble_eq_true rfl) h
  · replace h := h.2 hc
    refine e_iconst dX5_takesSign_8 ?_
    exact e_ret_z dX5_takesSign_9 rfl (by decide) (Nat.le_of_ble_eq_true rfl) (Nat.le_of_ble_eq_true rfl) h
set_option maxRecDepth 100000 in
set_option maxHeartbeats 4000000 in
theorem wf_X5_nextSign {d : Nat} {s : Nat} {K N : Nat → Nat} {I : Nat → Nat → Int} {P : Nat → Nat → Option Nat} {z : Nat} {Q : am_V → am_T} (h :
  K s = 5 ∧ ((I s 2 < 0 →
    Q (am_i (-1)) K N I P z) ∧
    (¬ (I s 2 < 0) →
    ((I s 1 ≤ I s 2 →
      Q (am_i (-1)) K N I P z) ∧
      (¬ (I s 1 ≤ I s 2) →
      ((80 ≤ I s 2 →
        Q (am_i (-1)) K N I P z) ∧
        (¬ (80 ≤ I s 2) →
        ∃ b2, P s 0 = some b2 ∧ K b2 = 9 ∧ (0 ≤ I s 2 ∧ I s 2 < N b2) ∧ Q (am_i (I b2 (Int.toNat (I s 2)))) K N I P z))))))) :
  am_C d m_X5_nextSign [am_r s] K N I P z Q am_nx := by
  refine am_C_of ok_X5_nextSign (fun v hv => am_v1all _ rfl v hv) (Nat.le_of_ble_eq_true rfl) ?_
  show am_E d m_X5_nextSign 0 0 0 [some (am_r s)] [] K N I P z Q am_nx
  refine e_aload_n dX5_nextSign_0 rfl trivial ?_
  obtain ⟨hK1, h⟩ := h
  refine e_geti dX5_nextSign_1 fk_X5_19 rfl hK1 ?_
  refine e_if_lt (tgt := 39) dX5_nextSign_4 (by decide) (fun hc => ?_) (fun hc => ?_)
  · replace h := h.1 hc
    refine e_iconst dX5_nextSign_39 ?_
    exact e_ret_i dX5_nextSign_40 rfl (Nat.le_of_ble_eq_true rfl) (Nat.le_of_ble_eq_true rfl) h
  · replace h := h.2 hc
    refine e_aload_n dX5_nextSign_7 rfl trivial ?_
    refine e_geti dX5_nextSign_8 fk_X5_19 rfl hK1 ?_
    refine e_aload_n dX5_nextSign_11 rfl trivial ?_
    refine e_geti dX5_nextSign_12 fk_X5_15 rfl hK1 ?_
    refine e_icmp_ge (tgt := 39) dX5_nextSign_15 (by decide) (fun hc => ?_) (fun hc => ?_)
    · replace h := h.1 hc
      refine e_iconst dX5_nextSign_39 ?_
      exact e_ret_i dX5_nextSign_40 rfl (Nat.le_of_ble_eq_true rfl) (Nat.le_of_ble_eq_true rfl) h
    · replace h := h.2 hc
      refine e_aload_n dX5_nextSign_18 rfl trivial ?_
      refine e_geti dX5_nextSign_19 fk_X5_19 rfl hK1 ?_
      refine e_bipush dX5_nextSign_22 ?_
      refine e_icmp_ge (tgt := 39) dX5_nextSign_24 (by decide) (fun hc => ?_) (fun hc => ?_)
      · replace h := h.1 hc
        refine e_iconst dX5_nextSign_39 ?_
        exact e_ret_i dX5_nextSign_40 rfl (Nat.le_of_ble_eq_true rfl) (Nat.le_of_ble_eq_true rfl) h
      · replace h := h.2 hc
        refine e_aload_n dX5_nextSign_27 rfl trivial ?_
        obtain ⟨b2, hb2, h⟩ := h
        refine e_getr1 dX5_nextSign_28 fk_X5_9 rfl hK1 hb2 ?_
        refine e_aload_n dX5_nextSign_31 rfl trivial ?_
        refine e_geti dX5_nextSign_32 fk_X5_19 rfl hK1 ?_
        obtain ⟨hK3, h⟩ := h
        obtain ⟨⟨h0, h1⟩, h⟩ := h
        refine e_cald dX5_nextSign_35 hK3 h0 h1 ?_
        refine e_goto (tgt := 40) dX5_nextSign_36 (by decide) ?_
        exact e_ret_i dX5_nextSign_40 rfl (Nat.le_of_ble_eq_true rfl) (Nat.le_of_ble_eq_true rfl) h
def L_X6_init_53 (d : Nat) (k n : Nat) (l0 : Nat) (l2 : Int) (K N : Nat → Nat) (I : Nat → Nat → Int) (P : Nat → Nat → Option Nat) (z : Nat) (Q : am_V → am_T) : Prop := am_E d m_X6_init 53 k n [some (am_r l0), none, some (am_i l2)] [] K N I P z Q am_nx
def L_X6_init_80 (d : Nat) (k n : Nat) (l0 : Nat) (l2 : Int) (K N : Nat → Nat) (I : Nat → Nat → Int) (P : Nat → Nat → Option Nat) (z : Nat) (Q : am_V → am_T) : Prop := am_E d m_X6_init 80 k n [some (am_r l0), none, some (am_i l2)] [] K N I P z Q am_nx
set_option maxRecDepth 100000 in
set_option maxHeartbeats 4000000 in
theorem wf_X6_init {d : Nat} (hd : 1 ≤ d) {s : Nat} {a1 : Nat} {K N : Nat → Nat} {I : Nat → Nat → Int} {P : Nat → Nat → Option Nat} {z : Nat} {Q : am_V → am_T} (h :
  (0 + 1 ≤ 32 ∧ 0 + N 0 ≤ 365) ∧ ∀ K1 N2 b3 z4, K1 = am_u1 K (z + 4) 10 → N2 = am_u1 N (z + 4) (N 0) → b3 = z + 4 → z4 = z + 1 → ∀ I5, I5 = am_z2 I (z + 4) 0 → K1 s = 6 ∧ ∀ P8, P8 = am_p2 P s 0 (some b3) → (0 + 1 + 1 ≤ 32 ∧ 0 + N 0 + 6 ≤ 365) ∧ ∀ K9 N10 b11 z12, K9 = am_u1 K1 (z4 + 4) 11 → N10 = am_u1 N2 (z4 + 4) (Int.toNat 6) → b11 = z4 + 4 → z12 = z4 + 1 → K9 s = 6 ∧ ∀ P15, P15 = am_p2 P8 s 1 (some b11) → (0 + 1 + 1 + 1 ≤ 32 ∧ 0 + N 0 + 6 + 3 ≤ 365) ∧ ∀ K16 N17 b18 z19, K16 = am_u1 K9 (z12 + 4) 3 → N17 = am_u1 N10 (z12 + 4) 0 → b18 = z12 + 4 → z19 = z12 + 1 → (0 + 1 + 1 + 1 + 2 ≤ 32 ∧ 0 + N 0 + 6 + 3 + 60 ≤ 365) ∧ am_C (d - 1) m_X3_init [am_r b18] K16 N17 I5 P15 z19 (fun _ K21 N22 I23 P24 z25 =>
    K21 s = 6 ∧ ∀ P27, P27 = am_p2 P24 s 3 (some b18) → (0 + 1 + 1 + 1 + 2 + 1 ≤ 32 ∧ 0 + N 0 + 6 + 3 + 60 + 20 ≤ 365) ∧ ∀ K28 N29 b30 z31, K28 = am_u1 K21 (z25 + 4) 12 → N29 = am_u1 N22 (z25 + 4) (Int.toNat 20) → b30 = z25 + 4 → z31 = z25 + 1 → K28 s = 6 ∧ ∀ P34, P34 = am_p2 P27 s 5 (some b30) → ∀ P35, P35 = am_p2 P34 s 4 (some a1) → L_X6_init_53 d (0 + 1 + 1 + 1 + 2 + 1) (0 + N 0 + 6 + 3 + 60 + 20) s 0 K28 N29 I23 P35 z31 Q) am_nx) :
  am_C d m_X6_init [am_r s, am_r a1] K N I P z Q am_nx := by
  refine am_C_of ok_X6_init (fun v hv => am_v1all _ rfl v hv) (Nat.le_of_ble_eq_true rfl) ?_
  show am_E d m_X6_init 0 0 0 [some (am_r s), some (am_r a1), none] [] K N I P z Q am_nx
  refine e_aload_n dX6_init_0 rfl trivial ?_
  refine e_oinit dX6_init_1 mk_X6_3 oi oc (by omega) (Nat.le_of_ble_eq_true rfl) ?_
  refine e_aload_n dX6_init_4 rfl trivial ?_
  refine e_getsN dX6_init_5 rfl ?_
  obtain ⟨⟨hk9, hn9⟩, h⟩ := h
  refine e_clone dX6_init_8 mk_X6_13 cls cln cli clx (by omega) (Nat.le_of_ble_eq_true rfl) hk9 hn9 ?_
  replace h := h _ _ _ _ rfl rfl rfl rfl _ rfl
  have hK6 : (am_u1 K (z + 4) 10) (z + 4) = 10 := by simp [am_u1]
  generalize eK1 : am_u1 K (z + 4) 10 = K1 at h hK6 ⊢
  generalize eN2 : am_u1 N (z + 4) (N 0) = N2 at h ⊢
  generalize am_z2 I (z + 4) 0 = I5 at h ⊢
  generalize eb3 : z + 4 = b3 at h hK6 ⊢
  generalize ez4 : z + 1 = z4 at h ⊢
  refine e_castA dX6_init_11 qk_X6_14 hK6 ?_
  obtain ⟨hK7, h⟩ := h
  refine e_putrF1 dX6_init_14 fk_X6_18 rfl rfl rfl rfl hK7 ?_
  replace h := h _ rfl
  generalize am_p2 P s 0 (some b3) = P8 at h ⊢
  refine e_aload_n dX6_init_17 rfl trivial ?_
  refine e_bipush dX6_init_18 ?_
  obtain ⟨⟨hk9, hn9⟩, h⟩ := h
  refine e_newq dX6_init_20 (Or.inl ⟨rfl, rfl⟩) qk_X6_23 (by decide) (by decide) hk9 hn9 ?_
  replace h := h _ _ _ _ rfl rfl rfl rfl
  have hK13 : (am_u1 K1 (z4 + 4) 11) (z4 + 4) = 11 := by simp [am_u1]
  generalize eK9 : am_u1 K1 (z4 + 4) 11 = K9 at h hK13 ⊢
  generalize eN10 : am_u1 N2 (z4 + 4) (Int.toNat 6) = N10 at h ⊢
  generalize eb11 : z4 + 4 = b11 at h hK13 ⊢
  generalize ez12 : z4 + 1 = z12 at h ⊢
  obtain ⟨hK14, h⟩ := h
  refine e_putrF1 dX6_init_23 fk_X6_25 rfl rfl rfl rfl hK14 ?_
  replace h := h _ rfl
  generalize am_p2 P8 s 1 (some b11) = P15 at h ⊢
  refine e_aload_n dX6_init_26 rfl trivial ?_
  obtain ⟨⟨hk9, hn9⟩, h⟩ := h
  refine e_new (cc := 3) dX6_init_27 (by decide) ck_X6_29 in_3 ii_3 hk9 hn9 ?_
  replace h := h _ _ _ _ rfl rfl rfl rfl
  have hK20 : (am_u1 K9 (z12 + 4) 3) (z12 + 4) = 3 := by simp [am_u1]
  generalize eK16 : am_u1 K9 (z12 + 4) 3 = K16 at h hK20 ⊢
  generalize eN17 : am_u1 N10 (z12 + 4) 0 = N17 at h ⊢
  generalize eb18 : z12 + 4 = b18 at h hK20 ⊢
  generalize ez19 : z12 + 1 = z19 at h ⊢
  refine e_dup dX6_init_30 rfl ?_
  obtain ⟨⟨hk9, hn9⟩, h⟩ := h
  refine e_callIN (host := "PickScanner") (Mc := m_X3_init) (vs := []) (st := [am_r b18, am_r s]) dX6_init_31 ok_X3_init rfl rfl (by decide) im_X3_init rfl rfl rfl (by omega) (Nat.le_of_ble_eq_true rfl) hk9 hn9 am_xh_nx (am_C_mono h (fun v K21 N22 I23 P24 z25 h => ?_) (fun _ _ _ _ _ _ h => h))
  show am_E d m_X6_init 34 (0 + 1 + 1 + 1 + 2) (0 + N 0 + 6 + 3 + 60) _ [am_r b18, am_r s] K21 N22 I23 P24 z25 Q am_nx
  obtain ⟨hK26, h⟩ := h
  refine e_putrF1 dX6_init_34 fk_X6_32 rfl rfl rfl rfl hK26 ?_
  replace h := h _ rfl
  generalize am_p2 P24 s 3 (some b18) = P27 at h ⊢
  refine e_aload_n dX6_init_37 rfl trivial ?_
  refine e_bipush dX6_init_38 ?_
  obtain ⟨⟨hk9, hn9⟩, h⟩ := h
  refine e_newq dX6_init_40 (Or.inr (Or.inl ⟨rfl, rfl⟩)) qk_X6_36 (by decide) (by decide) hk9 hn9 ?_
  replace h := h _ _ _ _ rfl rfl rfl rfl
  have hK32 : (am_u1 K21 (z25 + 4) 12) (z25 + 4) = 12 := by simp [am_u1]
  generalize eK28 : am_u1 K21 (z25 + 4) 12 = K28 at h hK32 ⊢
  generalize eN29 : am_u1 N22 (z25 + 4) (Int.toNat 20) = N29 at h ⊢
  generalize eb30 : z25 + 4 = b30 at h hK32 ⊢
  generalize ez31 : z25 + 1 = z31 at h ⊢
  obtain ⟨hK33, h⟩ := h
  refine e_putrF1 dX6_init_43 fk_X6_38 rfl rfl rfl rfl hK33 ?_
  replace h := h _ rfl
  generalize am_p2 P27 s 5 (some b30) = P34 at h ⊢
  refine e_aload_n dX6_init_46 rfl trivial ?_
  refine e_aload_n dX6_init_47 rfl trivial ?_
  refine e_putr1 dX6_init_48 fk_X6_42 rfl rfl hK33 ?_
  replace h := h _ rfl
  generalize am_p2 P34 s 4 (some a1) = P35 at h ⊢
  refine e_iconst dX6_init_51 ?_
  refine e_istore_n dX6_init_52 ?_
  exact e_forget (am_sub_k (am_sub_d (am_sub_k am_sub_nil))) h
set_option maxRecDepth 100000 in
set_option maxHeartbeats 4000000 in
theorem wf_X6_init_53 {d : Nat} (hd : 1 ≤ d) {k n : Nat} {l0 : Nat} {l2 : Int} {K N : Nat → Nat} {I : Nat → Nat → Int} {P : Nat → Nat → Option Nat} {z : Nat} {Q : am_V → am_T} (h :
  ((6 ≤ l2 →
    L_X6_init_80 d k n l0 0 K N I P z Q) ∧
    (¬ (6 ≤ l2) →
    K l0 = 6 ∧ ∃ b2, P l0 1 = some b2 ∧ (k + 1 ≤ 32 ∧ n + 5 ≤ 365) ∧ ∀ K3 N4 b5 z6, K3 = am_u1 K (z + 4) 0 → N4 = am_u1 N (z + 4) 0 → b5 = z + 4 → z6 = z + 1 → (k + 1 + 0 ≤ 32 ∧ n + 5 + 0 ≤ 365) ∧ am_C (d - 1) m_X0_init [am_r b5] K3 N4 I P z6 (fun _ K8 N9 I10 P11 z12 =>
      K8 b2 = 11 ∧ (0 ≤ l2 ∧ l2 < N9 b2) ∧ K8 b5 = 0 ∧ ∀ P15, P15 = am_p2 P11 b2 (Int.toNat l2) (some b5) → L_X6_init_53 d (k + 1) (n + 5) l0 (am_wr (l2 + 1)) K8 N9 I10 P15 z12 Q) am_nx))) :
  L_X6_init_53 d k n l0 l2 K N I P z Q := by
  unfold L_X6_init_53
  refine e_iload_n dX6_init_53 rfl ?_
  refine e_bipush dX6_init_54 ?_
  refine e_icmp_ge (tgt := 78) dX6_init_56 (by decide) (fun hc => ?_) (fun hc => ?_)
  · replace h := h.1 hc
    refine e_iconst dX6_init_78 ?_
    refine e_istore_n dX6_init_79 ?_
    exact e_forget (am_sub_k (am_sub_d (am_sub_k am_sub_nil))) h
  · replace h := h.2 hc
    refine e_aload_n dX6_init_59 rfl trivial ?_
    obtain ⟨hK1, h⟩ := h
    obtain ⟨b2, hb2, h⟩ := h
    refine e_getr1 dX6_init_60 fk_X6_25 rfl hK1 hb2 ?_
    refine e_iload_n dX6_init_63 rfl ?_
    obtain ⟨⟨hk9, hn9⟩, h⟩ := h
    refine e_new (cc := 0) dX6_init_64 (by decide) ck_X6_23 in_0 ii_0 hk9 hn9 ?_
    replace h := h _ _ _ _ rfl rfl rfl rfl
    have hK7 : (am_u1 K (z + 4) 0) (z + 4) = 0 := by simp [am_u1]
    generalize eK3 : am_u1 K (z + 4) 0 = K3 at h hK7 ⊢
    generalize eN4 : am_u1 N (z + 4) 0 = N4 at h ⊢
    generalize eb5 : z + 4 = b5 at h hK7 ⊢
    generalize ez6 : z + 1 = z6 at h ⊢
    refine e_dup dX6_init_67 rfl ?_
    obtain ⟨⟨hk9, hn9⟩, h⟩ := h
    refine e_callIN (host := "PickScanner") (Mc := m_X0_init) (vs := []) (st := [am_r b5, am_i l2, am_r b2]) dX6_init_68 ok_X0_init rfl rfl (by decide) im_X0_init rfl rfl rfl (by omega) (Nat.le_of_ble_eq_true rfl) hk9 hn9 am_xh_nx (am_C_mono h (fun v K8 N9 I10 P11 z12 h => ?_) (fun _ _ _ _ _ _ h => h))
    show am_E d m_X6_init 71 (k + 1) (n + 5) _ [am_r b5, am_i l2, am_r b2] K8 N9 I10 P11 z12 Q am_nx
    obtain ⟨hK13, h⟩ := h
    obtain ⟨⟨h0, h1⟩, h⟩ := h
    obtain ⟨hK14, h⟩ := h
    refine e_aast dX6_init_71 hK13 (Or.inl ⟨rfl, hK14⟩) h0 h1 ?_
    replace h := h _ rfl
    generalize am_p2 P11 b2 (Int.toNat l2) (some b5) = P15 at h ⊢
    refine e_iinc dX6_init_72 rfl ?_
    refine e_goto (tgt := 53) dX6_init_75 (by decide) ?_
    exact e_forget (am_sub_k (am_sub_d (am_sub_k am_sub_nil))) h
set_option maxRecDepth 100000 in
set_option maxHeartbeats 4000000 in
theorem wf_X6_init_80 {d : Nat} (hd : 1 ≤ d) {k n : Nat} {l0 : Nat} {l2 : Int} {K N : Nat → Nat} {I : Nat → Nat → Int} {P : Nat → Nat → Option Nat} {z : Nat} {Q : am_V → am_T} (h :
  ((20 ≤ l2 →
    (k ≤ 32 ∧ n ≤ 365) ∧ Q am_nl K N I P z) ∧
    (¬ (20 ≤ l2) →
    K l0 = 6 ∧ ∃ b2, P l0 5 = some b2 ∧ (k + 1 ≤ 32 ∧ n + 12 ≤ 365) ∧ ∀ K3 N4 b5 z6, K3 = am_u1 K (z + 4) 2 → N4 = am_u1 N (z + 4) 0 → b5 = z + 4 → z6 = z + 1 → (k + 1 + 0 ≤ 32 ∧ n + 12 + 0 ≤ 365) ∧ am_C (d - 1) m_X2_init [am_r b5] K3 N4 I P z6 (fun _ K8 N9 I10 P11 z12 =>
      K8 b2 = 12 ∧ (0 ≤ l2 ∧ l2 < N9 b2) ∧ K8 b5 = 2 ∧ ∀ P15, P15 = am_p2 P11 b2 (Int.toNat l2) (some b5) → L_X6_init_80 d (k + 1) (n + 12) l0 (am_wr (l2 + 1)) K8 N9 I10 P15 z12 Q) am_nx))) :
  L_X6_init_80 d k n l0 l2 K N I P z Q := by
  unfold L_X6_init_80
  refine e_iload_n dX6_init_80 rfl ?_
  refine e_bipush dX6_init_81 ?_
  refine e_icmp_ge (tgt := 105) dX6_init_83 (by decide) (fun hc => ?_) (fun hc => ?_)
  · replace h := h.1 hc
    obtain ⟨⟨hk9, hn9⟩, h⟩ := h
    exact e_ret_v dX6_init_105 rfl hk9 hn9 h
  · replace h := h.2 hc
    refine e_aload_n dX6_init_86 rfl trivial ?_
    obtain ⟨hK1, h⟩ := h
    obtain ⟨b2, hb2, h⟩ := h
    refine e_getr1 dX6_init_87 fk_X6_38 rfl hK1 hb2 ?_
    refine e_iload_n dX6_init_90 rfl ?_
    obtain ⟨⟨hk9, hn9⟩, h⟩ := h
    refine e_new (cc := 2) dX6_init_91 (by decide) ck_X6_36 in_2 ii_2 hk9 hn9 ?_
    replace h := h _ _ _ _ rfl rfl rfl rfl
    have hK7 : (am_u1 K (z + 4) 2) (z + 4) = 2 := by simp [am_u1]
    generalize eK3 : am_u1 K (z + 4) 2 = K3 at h hK7 ⊢
    generalize eN4 : am_u1 N (z + 4) 0 = N4 at h ⊢
    generalize eb5 : z + 4 = b5 at h hK7 ⊢
    generalize ez6 : z + 1 = z6 at h ⊢
    refine e_dup dX6_init_94 rfl ?_
    obtain ⟨⟨hk9, hn9⟩, h⟩ := h
    refine e_callIN (host := "PickScanner") (Mc := m_X2_init) (vs := []) (st := [am_r b5, am_i l2, am_r b2]) dX6_init_95 ok_X2_init rfl rfl (by decide) im_X2_init rfl rfl rfl (by omega) (Nat.le_of_ble_eq_true rfl) hk9 hn9 am_xh_nx (am_C_mono h (fun v K8 N9 I10 P11 z12 h => ?_) (fun _ _ _ _ _ _ h => h))
    show am_E d m_X6_init 98 (k + 1) (n + 12) _ [am_r b5, am_i l2, am_r b2] K8 N9 I10 P11 z12 Q am_nx
    obtain ⟨hK13, h⟩ := h
    obtain ⟨⟨h0, h1⟩, h⟩ := h
    obtain ⟨hK14, h⟩ := h
    refine e_aast dX6_init_98 hK13 (Or.inr (Or.inl ⟨rfl, hK14⟩)) h0 h1 ?_
    replace h := h _ rfl
    generalize am_p2 P11 b2 (Int.toNat l2) (some b5) = P15 at h ⊢
    refine e_iinc dX6_init_99 rfl ?_
    refine e_goto (tgt := 80) dX6_init_102 (by decide) ?_
    exact e_forget (am_sub_k (am_sub_d (am_sub_k am_sub_nil))) h
def L_X6_copyFrom_25 (d : Nat) (l0 : Nat) (l1 : Nat) (l2 : Int) (K N : Nat → Nat) (I : Nat → Nat → Int) (P : Nat → Nat → Option Nat) (z : Nat) (Q : am_V → am_T) : Prop := am_E d m_X6_copyFrom 25 0 0 [some (am_r l0), some (am_r l1), some (am_i l2)] [] K N I P z Q am_nx
def L_X6_copyFrom_81 (d : Nat) (l0 : Nat) (l1 : Nat) (l2 : Int) (K N : Nat → Nat) (I : Nat → Nat → Int) (P : Nat → Nat → Option Nat) (z : Nat) (Q : am_V → am_T) : Prop := am_E d m_X6_copyFrom 81 0 0 [some (am_r l0), some (am_r l1), some (am_i l2)] [] K N I P z Q am_nx
set_option maxRecDepth 100000 in
set_option maxHeartbeats 4000000 in
theorem wf_X6_copyFrom {d : Nat} (hd : 2 ≤ d) {s : Nat} {a1 : Nat} {K N : Nat → Nat} {I : Nat → Nat → Int} {P : Nat → Nat → Option Nat} {z : Nat} {Q : am_V → am_T} (h :
  K a1 = 6 ∧ ∃ b2, P a1 0 = some b2 ∧ K s = 6 ∧ ∃ b4, P s 0 = some b4 ∧ K b2 = 10 ∧ K b4 = 10 ∧ ((0 : Int) + 6 ≤ N b2 ∧ (0 : Int) + 6 ≤ N b4) ∧ ∀ I7, I7 = am_cp I b2 b4 (Int.toNat 0) (Int.toNat 0) (Int.toNat 6) → ∀ I8, I8 = am_u2 I7 s 2 (I7 a1 2) → L_X6_copyFrom_25 d s a1 0 K N I8 P z Q) :
  am_C d m_X6_copyFrom [am_r s, am_r a1] K N I P z Q am_nx := by
  refine am_C_of ok_X6_copyFrom (fun v hv => am_v1all _ rfl v hv) (Nat.le_of_ble_eq_true rfl) ?_
  show am_E d m_X6_copyFrom 0 0 0 [some (am_r s), some (am_r a1), none] [] K N I P z Q am_nx
  refine e_aload_n dX6_copyFrom_0 rfl trivial ?_
  obtain ⟨hK1, h⟩ := h
  obtain ⟨b2, hb2, h⟩ := h
  refine e_getr1 dX6_copyFrom_1 fk_X6_18 rfl hK1 hb2 ?_
  refine e_iconst dX6_copyFrom_4 ?_
  refine e_aload_n dX6_copyFrom_5 rfl trivial ?_
  obtain ⟨hK3, h⟩ := h
  obtain ⟨b4, hb4, h⟩ := h
  refine e_getr1 dX6_copyFrom_6 fk_X6_18 rfl hK3 hb4 ?_
  refine e_iconst dX6_copyFrom_9 ?_
  refine e_bipush dX6_copyFrom_10 ?_
  obtain ⟨hK5, h⟩ := h
  obtain ⟨hK6, h⟩ := h
  obtain ⟨⟨h4, h5⟩, h⟩ := h
  refine e_acopy dX6_copyFrom_12 mk_X6_48 acn acs aci hK5 hK6 (by decide) (by decide) (by decide) h4 h5 (by omega) (Nat.le_of_ble_eq_true rfl) ?_
  replace h := h _ rfl
  generalize am_cp I b2 b4 (Int.toNat 0) (Int.toNat 0) (Int.toNat 6) = I7 at h ⊢
  refine e_aload_n dX6_copyFrom_15 rfl trivial ?_
  refine e_aload_n dX6_copyFrom_16 rfl trivial ?_
  refine e_geti dX6_copyFrom_17 fk_X6_54 rfl hK1 ?_
  refine e_puti dX6_copyFrom_20 fk_X6_54 rfl (Or.inl rfl) hK3 ?_
  replace h := h _ rfl
  generalize am_u2 I7 s 2 (I7 a1 2) = I8 at h ⊢
  refine e_iconst dX6_copyFrom_23 ?_
  refine e_istore_n dX6_copyFrom_24 ?_
  exact e_forget (am_sub_k (am_sub_k (am_sub_k am_sub_nil))) h
set_option maxRecDepth 100000 in
set_option maxHeartbeats 4000000 in
theorem wf_X6_copyFrom_25 {d : Nat} (hd : 1 ≤ d) {l0 : Nat} {l1 : Nat} {l2 : Int} {K N : Nat → Nat} {I : Nat → Nat → Int} {P : Nat → Nat → Option Nat} {z : Nat} {Q : am_V → am_T} (h :
  ((6 ≤ l2 →
    K l0 = 6 ∧ ∃ b2, P l0 3 = some b2 ∧ K l1 = 6 ∧ ∃ b4, P l1 3 = some b4 ∧ K b2 = 3 ∧ am_C (d - 1) m_X3_copyFrom [am_r b2, am_r b4] K N I P z (fun _ K5 N6 I7 P8 z9 =>
      K5 l1 = 6 ∧ ∃ b12, P8 l1 4 = some b12 ∧ K5 l0 = 6 ∧ ∀ P14, P14 = am_p2 P8 l0 4 (some b12) → ∀ I15, I15 = am_u2 I7 l0 6 (I7 l1 6) → L_X6_copyFrom_81 d l0 l1 0 K5 N6 I15 P14 z9 Q) am_nx) ∧
    (¬ (6 ≤ l2) →
    K l0 = 6 ∧ ∃ b17, P l0 1 = some b17 ∧ K b17 = 11 ∧ (0 ≤ l2 ∧ l2 < N b17) ∧ ∃ b19, P b17 (Int.toNat l2) = some b19 ∧ K l1 = 6 ∧ ∃ b21, P l1 1 = some b21 ∧ K b21 = 11 ∧ (0 ≤ l2 ∧ l2 < N b21) ∧ ∃ b23, P b21 (Int.toNat l2) = some b23 ∧ K b19 = 0 ∧ am_C (d - 1) m_X0_copyFrom [am_r b19, am_r b23] K N I P z (fun _ K24 N25 I26 P27 z28 =>
      L_X6_copyFrom_25 d l0 l1 (am_wr (l2 + 1)) K24 N25 I26 P27 z28 Q) am_nx))) :
  L_X6_copyFrom_25 d l0 l1 l2 K N I P z Q := by
  unfold L_X6_copyFrom_25
  refine e_iload_n dX6_copyFrom_25 rfl ?_
  refine e_bipush dX6_copyFrom_26 ?_
  refine e_icmp_ge (tgt := 52) dX6_copyFrom_28 (by decide) (fun hc => ?_) (fun hc => ?_)
  · replace h := h.1 hc
    refine e_aload_n dX6_copyFrom_52 rfl trivial ?_
    obtain ⟨hK1, h⟩ := h
    obtain ⟨b2, hb2, h⟩ := h
    refine e_getr1 dX6_copyFrom_53 fk_X6_32 rfl hK1 hb2 ?_
    refine e_aload_n dX6_copyFrom_56 rfl trivial ?_
    obtain ⟨hK3, h⟩ := h
    obtain ⟨b4, hb4, h⟩ := h
    refine e_getr1 dX6_copyFrom_57 fk_X6_32 rfl hK3 hb4 ?_
    obtain ⟨hK10, h⟩ := h
    refine e_callV (Mc := m_X3_copyFrom) (vs := [am_r b4]) (st := []) dX6_copyFrom_60 ok_X3_copyFrom rfl ⟨by decide, rfl⟩ mk_X6_62 im_X3_copyFrom sl_X3_copyFrom rfl rfl hK10 (by omega) (Nat.le_of_ble_eq_true rfl) (Nat.le_of_ble_eq_true rfl) (Nat.le_of_ble_eq_true rfl) am_xh_nx (am_C_mono h (fun v K5 N6 I7 P8 z9 h => ?_) (fun _ _ _ _ _ _ h => h))
    show am_E d m_X6_copyFrom 63 _ _ _ [] K5 N6 I7 P8 z9 Q am_nx
    refine e_aload_n dX6_copyFrom_63 rfl trivial ?_
    refine e_aload_n dX6_copyFrom_64 rfl trivial ?_
    obtain ⟨hK11, h⟩ := h
    obtain ⟨b12, hb12, h⟩ := h
    refine e_getr1 dX6_copyFrom_65 fk_X6_42 rfl hK11 hb12 ?_
    obtain ⟨hK13, h⟩ := h
    refine e_putr1 dX6_copyFrom_68 fk_X6_42 rfl rfl hK13 ?_
    replace h := h _ rfl
    generalize am_p2 P8 l0 4 (some b12) = P14 at h ⊢
    refine e_aload_n dX6_copyFrom_71 rfl trivial ?_
    refine e_aload_n dX6_copyFrom_72 rfl trivial ?_
    refine e_geti dX6_copyFrom_73 fk_X6_65 rfl hK11 ?_
    refine e_puti dX6_copyFrom_76 fk_X6_65 rfl (Or.inl rfl) hK13 ?_
    replace h := h _ rfl
    generalize am_u2 I7 l0 6 (I7 l1 6) = I15 at h ⊢
    refine e_iconst dX6_copyFrom_79 ?_
    refine e_istore_n dX6_copyFrom_80 ?_
    exact e_forget (am_sub_k (am_sub_k (am_sub_k am_sub_nil))) h
  · replace h := h.2 hc
    refine e_aload_n dX6_copyFrom_31 rfl trivial ?_
    obtain ⟨hK16, h⟩ := h
    obtain ⟨b17, hb17, h⟩ := h
    refine e_getr1 dX6_copyFrom_32 fk_X6_25 rfl hK16 hb17 ?_
    refine e_iload_n dX6_copyFrom_35 rfl ?_
    obtain ⟨hK18, h⟩ := h
    obtain ⟨⟨h0, h1⟩, b19, hb19, h⟩ := h
    refine e_aald1 dX6_copyFrom_36 hK18 (by decide) h0 h1 hb19 ?_
    refine e_aload_n dX6_copyFrom_37 rfl trivial ?_
    obtain ⟨hK20, h⟩ := h
    obtain ⟨b21, hb21, h⟩ := h
    refine e_getr1 dX6_copyFrom_38 fk_X6_25 rfl hK20 hb21 ?_
    refine e_iload_n dX6_copyFrom_41 rfl ?_
    obtain ⟨hK22, h⟩ := h
    obtain ⟨⟨h0, h1⟩, b23, hb23, h⟩ := h
    refine e_aald1 dX6_copyFrom_42 hK22 (by decide) h0 h1 hb23 ?_
    obtain ⟨hK29, h⟩ := h
    refine e_callV (Mc := m_X0_copyFrom) (vs := [am_r b23]) (st := []) dX6_copyFrom_43 ok_X0_copyFrom rfl ⟨by decide, rfl⟩ mk_X6_58 im_X0_copyFrom sl_X0_copyFrom rfl rfl hK29 (by omega) (Nat.le_of_ble_eq_true rfl) (Nat.le_of_ble_eq_true rfl) (Nat.le_of_ble_eq_true rfl) am_xh_nx (am_C_mono h (fun v K24 N25 I26 P27 z28 h => ?_) (fun _ _ _ _ _ _ h => h))
    show am_E d m_X6_copyFrom 46 _ _ _ [] K24 N25 I26 P27 z28 Q am_nx
    refine e_iinc dX6_copyFrom_46 rfl ?_
    refine e_goto (tgt := 25) dX6_copyFrom_49 (by decide) ?_
    exact e_forget (am_sub_k (am_sub_k (am_sub_k am_sub_nil))) h
set_option maxRecDepth 100000 in
set_option maxHeartbeats 4000000 in
theorem wf_X6_copyFrom_81 {d : Nat} (hd : 1 ≤ d) {l0 : Nat} {l1 : Nat} {l2 : Int} {K N : Nat → Nat} {I : Nat → Nat → Int} {P : Nat → Nat → Option Nat} {z : Nat} {Q : am_V → am_T} (h :
  ((20 ≤ l2 →
    K l1 = 6 ∧ K l0 = 6 ∧ ∀ I3, I3 = am_u2 I l0 7 (I l1 7) → ∀ I4, I4 = am_u2 I3 l0 8 (I3 l1 8) → ∀ I5, I5 = am_u2 I4 l0 9 (I4 l1 9) → Q am_nl K N I5 P z) ∧
    (¬ (20 ≤ l2) →
    K l0 = 6 ∧ ∃ b7, P l0 5 = some b7 ∧ K b7 = 12 ∧ (0 ≤ l2 ∧ l2 < N b7) ∧ ∃ b9, P b7 (Int.toNat l2) = some b9 ∧ K l1 = 6 ∧ ∃ b11, P l1 5 = some b11 ∧ K b11 = 12 ∧ (0 ≤ l2 ∧ l2 < N b11) ∧ ∃ b13, P b11 (Int.toNat l2) = some b13 ∧ K b9 = 2 ∧ am_C (d - 1) m_X2_copyFrom [am_r b9, am_r b13] K N I P z (fun _ K14 N15 I16 P17 z18 =>
      L_X6_copyFrom_81 d l0 l1 (am_wr (l2 + 1)) K14 N15 I16 P17 z18 Q) am_nx))) :
  L_X6_copyFrom_81 d l0 l1 l2 K N I P z Q := by
  unfold L_X6_copyFrom_81
  refine e_iload_n dX6_copyFrom_81 rfl ?_
  refine e_bipush dX6_copyFrom_82 ?_
  refine e_icmp_ge (tgt := 108) dX6_copyFrom_84 (by decide) (fun hc => ?_) (fun hc => ?_)
  · replace h := h.1 hc
    refine e_aload_n dX6_copyFrom_108 rfl trivial ?_
    refine e_aload_n dX6_copyFrom_109 rfl trivial ?_
    obtain ⟨hK1, h⟩ := h
    refine e_geti dX6_copyFrom_110 fk_X6_71 rfl hK1 ?_
    obtain ⟨hK2, h⟩ := h
    refine e_puti dX6_copyFrom_113 fk_X6_71 rfl (Or.inl rfl) hK2 ?_
    replace h := h _ rfl
    generalize am_u2 I l0 7 (I l1 7) = I3 at h ⊢
    refine e_aload_n dX6_copyFrom_116 rfl trivial ?_
    refine e_aload_n dX6_copyFrom_117 rfl trivial ?_
    refine e_geti dX6_copyFrom_118 fk_X6_74 rfl hK1 ?_
    refine e_puti dX6_copyFrom_121 fk_X6_74 rfl (Or.inl rfl) hK2 ?_
    replace h := h _ rfl
    generalize am_u2 I3 l0 8 (I3 l1 8) = I4 at h ⊢
    refine e_aload_n dX6_copyFrom_124 rfl trivial ?_
    refine e_aload_n dX6_copyFrom_125 rfl trivial ?_
    refine e_geti dX6_copyFrom_126 fk_X6_77 rfl hK1 ?_
    refine e_puti dX6_copyFrom_129 fk_X6_77 rfl (Or.inl rfl) hK2 ?_
    replace h := h _ rfl
    generalize am_u2 I4 l0 9 (I4 l1 9) = I5 at h ⊢
    exact e_ret_v dX6_copyFrom_132 rfl (Nat.le_of_ble_eq_true rfl) (Nat.le_of_ble_eq_true rfl) h
  · replace h := h.2 hc
    refine e_aload_n dX6_copyFrom_87 rfl trivial ?_
    obtain ⟨hK6, h⟩ := h
    obtain ⟨b7, hb7, h⟩ := h
    refine e_getr1 dX6_copyFrom_88 fk_X6_38 rfl hK6 hb7 ?_
    refine e_iload_n dX6_copyFrom_91 rfl ?_
    obtain ⟨hK8, h⟩ := h
    obtain ⟨⟨h0, h1⟩, b9, hb9, h⟩ := h
    refine e_aald1 dX6_copyFrom_92 hK8 (by decide) h0 h1 hb9 ?_
    refine e_aload_n dX6_copyFrom_93 rfl trivial ?_
    obtain ⟨hK10, h⟩ := h
    obtain ⟨b11, hb11, h⟩ := h
    refine e_getr1 dX6_copyFrom_94 fk_X6_38 rfl hK10 hb11 ?_
    refine e_iload_n dX6_copyFrom_97 rfl ?_
    obtain ⟨hK12, h⟩ := h
    obtain ⟨⟨h0, h1⟩, b13, hb13, h⟩ := h
    refine e_aald1 dX6_copyFrom_98 hK12 (by decide) h0 h1 hb13 ?_
    obtain ⟨hK19, h⟩ := h
    refine e_callV (Mc := m_X2_copyFrom) (vs := [am_r b13]) (st := []) dX6_copyFrom_99 ok_X2_copyFrom rfl ⟨by decide, rfl⟩ mk_X6_68 im_X2_copyFrom sl_X2_copyFrom rfl rfl hK19 (by omega) (Nat.le_of_ble_eq_true rfl) (Nat.le_of_ble_eq_true rfl) (Nat.le_of_ble_eq_true rfl) am_xh_nx (am_C_mono h (fun v K14 N15 I16 P17 z18 h => ?_) (fun _ _ _ _ _ _ h => h))
    show am_E d m_X6_copyFrom 102 _ _ _ [] K14 N15 I16 P17 z18 Q am_nx
    refine e_iinc dX6_copyFrom_102 rfl ?_
    refine e_goto (tgt := 81) dX6_copyFrom_105 (by decide) ?_
    exact e_forget (am_sub_k (am_sub_k (am_sub_k am_sub_nil))) h
set_option maxRecDepth 100000 in
set_option maxHeartbeats 4000000 in
theorem wf_X6_hasLane {d : Nat} {s : Nat} {a1 : Int} {K N : Nat → Nat} {I : Nat → Nat → Int} {P : Nat → Nat → Option Nat} {z : Nat} {Q : am_V → am_T} (h :
  ((a1 < 0 →
    Q (am_i 0) K N I P z) ∧
    (¬ (a1 < 0) →
    K s = 6 ∧ ((I s 2 ≤ a1 →
      Q (am_i 0) K N I P z) ∧
      (¬ (I s 2 ≤ a1) →
      Q (am_i 1) K N I P z))))) :
  am_C d m_X6_hasLane [am_r s, am_i a1] K N I P z Q am_nx := by
  refine am_C_of ok_X6_hasLane (fun v hv => am_v1all _ rfl v hv) (Nat.le_of_ble_eq_true rfl) ?_
  show am_E d m_X6_hasLane 0 0 0 [some (am_r s), some (am_i a1)] [] K N I P z Q am_nx
  refine e_iload_n dX6_hasLane_0 rfl ?_
  refine e_if_lt (tgt := 16) dX6_hasLane_1 (by decide) (fun hc => ?_) (fun hc => ?_)
  · replace h := h.1 hc
    refine e_iconst dX6_hasLane_16 ?_
    exact e_ret_z dX6_hasLane_17 rfl (by decide) (Nat.le_of_ble_eq_true rfl) (Nat.le_of_ble_eq_true rfl) h
  · replace h := h.2 hc
    refine e_iload_n dX6_hasLane_4 rfl ?_
    refine e_aload_n dX6_hasLane_5 rfl trivial ?_
    obtain ⟨hK1, h⟩ := h
    refine e_geti dX6_hasLane_6 fk_X6_54 rfl hK1 ?_
    refine e_icmp_ge (tgt := 16) dX6_hasLane_9 (by decide) (fun hc => ?_) (fun hc => ?_)
    · replace h := h.1 hc
      refine e_iconst dX6_hasLane_16 ?_
      exact e_ret_z dX6_hasLane_17 rfl (by decide) (Nat.le_of_ble_eq_true rfl) (Nat.le_of_ble_eq_true rfl) h
    · replace h := h.2 hc
      refine e_iconst dX6_hasLane_12 ?_
      refine e_goto (tgt := 17) dX6_hasLane_13 (by decide) ?_
      exact e_ret_z dX6_hasLane_17 rfl (by decide) (Nat.le_of_ble_eq_true rfl) (Nat.le_of_ble_eq_true rfl) h
def L_X6_placeOf_2 (d : Nat) (l0 : Nat) (l1 : Int) (l2 : Int) (K N : Nat → Nat) (I : Nat → Nat → Int) (P : Nat → Nat → Option Nat) (z : Nat) (Q : am_V → am_T) : Prop := am_E d m_X6_placeOf 2 0 0 [some (am_r l0), some (am_i l1), some (am_i l2)] [] K N I P z Q am_nx
set_option maxRecDepth 100000 in
set_option maxHeartbeats 4000000 in
theorem wf_X6_placeOf {d : Nat} {s : Nat} {a1 : Int} {K N : Nat → Nat} {I : Nat → Nat → Int} {P : Nat → Nat → Option Nat} {z : Nat} {Q : am_V → am_T} (h :
  L_X6_placeOf_2 d s a1 0 K N I P z Q) :
  am_C d m_X6_placeOf [am_r s, am_i a1] K N I P z Q am_nx := by
  refine am_C_of ok_X6_placeOf (fun v hv => am_v1all _ rfl v hv) (Nat.le_of_ble_eq_true rfl) ?_
  show am_E d m_X6_placeOf 0 0 0 [some (am_r s), some (am_i a1), none] [] K N I P z Q am_nx
  refine e_iconst dX6_placeOf_0 ?_
  refine e_istore_n dX6_placeOf_1 ?_
  exact e_forget (am_sub_k (am_sub_k (am_sub_k am_sub_nil))) h
set_option maxRecDepth 100000 in
set_option maxHeartbeats 4000000 in
theorem wf_X6_placeOf_2 {d : Nat} {l0 : Nat} {l1 : Int} {l2 : Int} {K N : Nat → Nat} {I : Nat → Nat → Int} {P : Nat → Nat → Option Nat} {z : Nat} {Q : am_V → am_T} (h :
  K l0 = 6 ∧ ((I l0 6 ≤ l2 →
    Q (am_i (-1)) K N I P z) ∧
    (¬ (I l0 6 ≤ l2) →
    ∃ b2, P l0 5 = some b2 ∧ K b2 = 12 ∧ (0 ≤ l2 ∧ l2 < N b2) ∧ ∃ b4, P b2 (Int.toNat l2) = some b4 ∧ K b4 = 2 ∧ ((¬ I b4 0 = l1 →
      L_X6_placeOf_2 d l0 l1 (am_wr (l2 + 1)) K N I P z Q) ∧
      (I b4 0 = l1 →
      Q (am_i l2) K N I P z))))) :
  L_X6_placeOf_2 d l0 l1 l2 K N I P z Q := by
  unfold L_X6_placeOf_2
  refine e_iload_n dX6_placeOf_2 rfl ?_
  refine e_aload_n dX6_placeOf_3 rfl trivial ?_
  obtain ⟨hK1, h⟩ := h
  refine e_geti dX6_placeOf_4 fk_X6_65 rfl hK1 ?_
  refine e_icmp_ge (tgt := 31) dX6_placeOf_7 (by decide) (fun hc => ?_) (fun hc => ?_)
  · replace h := h.1 hc
    refine e_iconst dX6_placeOf_31 ?_
    exact e_ret_i dX6_placeOf_32 rfl (Nat.le_of_ble_eq_true rfl) (Nat.le_of_ble_eq_true rfl) h
  · replace h := h.2 hc
    refine e_aload_n dX6_placeOf_10 rfl trivial ?_
    obtain ⟨b2, hb2, h⟩ := h
    refine e_getr1 dX6_placeOf_11 fk_X6_38 rfl hK1 hb2 ?_
    refine e_iload_n dX6_placeOf_14 rfl ?_
    obtain ⟨hK3, h⟩ := h
    obtain ⟨⟨h0, h1⟩, b4, hb4, h⟩ := h
    refine e_aald1 dX6_placeOf_15 hK3 (by decide) h0 h1 hb4 ?_
    obtain ⟨hK5, h⟩ := h
    refine e_geti dX6_placeOf_16 fk_X6_80 rfl hK5 ?_
    refine e_iload_n dX6_placeOf_19 rfl ?_
    refine e_icmp_ne (tgt := 25) dX6_placeOf_20 (by decide) (fun hc => ?_) (fun hc => ?_)
    · replace h := h.1 hc
      refine e_iinc dX6_placeOf_25 rfl ?_
      refine e_goto (tgt := 2) dX6_placeOf_28 (by decide) ?_
      exact e_forget (am_sub_k (am_sub_k (am_sub_k am_sub_nil))) h
    · replace h := h.2 hc
      refine e_iload_n dX6_placeOf_23 rfl ?_
      exact e_ret_i dX6_placeOf_24 rfl (Nat.le_of_ble_eq_true rfl) (Nat.le_of_ble_eq_true rfl) h
set_option maxRecDepth 100000 in
set_option maxHeartbeats 4000000 in
theorem wf_X6_gapBetween {d : Nat} (hd : 1 ≤ d) {s : Nat} {a1 : Int} {a2 : Int} {K N : Nat → Nat} {I : Nat → Nat → Int} {P : Nat → Nat → Option Nat} {z : Nat} {Q : am_V → am_T} (h :
  K s = 6 ∧ ∃ b2, P s 5 = some b2 ∧ K b2 = 12 ∧ (0 ≤ a1 ∧ a1 < N b2) ∧ ∃ b4, P b2 (Int.toNat a1) = some b4 ∧ K b4 = 2 ∧ am_C (d - 1) m_X2_tail [am_r b4] K N I P z (fun v K5 N6 I7 P8 z9 => am_iv v fun x11 =>
    K5 s = 6 ∧ ∃ b13, P8 s 5 = some b13 ∧ K5 b13 = 12 ∧ (0 ≤ a2 ∧ a2 < N6 b13) ∧ ∃ b15, P8 b13 (Int.toNat a2) = some b15 ∧ K5 b15 = 2 ∧ Q (am_i (am_wr (x11 - I7 b15 2))) K5 N6 I7 P8 z9) am_nx) :
  am_C d m_X6_gapBetween [am_r s, am_i a1, am_i a2] K N I P z Q am_nx := by
  refine am_C_of ok_X6_gapBetween (fun v hv => am_v1all _ rfl v hv) (Nat.le_of_ble_eq_true rfl) ?_
  show am_E d m_X6_gapBetween 0 0 0 [some (am_r s), some (am_i a1), some (am_i a2)] [] K N I P z Q am_nx
  refine e_aload_n dX6_gapBetween_0 rfl trivial ?_
  obtain ⟨hK1, h⟩ := h
  obtain ⟨b2, hb2, h⟩ := h
  refine e_getr1 dX6_gapBetween_1 fk_X6_38 rfl hK1 hb2 ?_
  refine e_iload_n dX6_gapBetween_4 rfl ?_
  obtain ⟨hK3, h⟩ := h
  obtain ⟨⟨h0, h1⟩, b4, hb4, h⟩ := h
  refine e_aald1 dX6_gapBetween_5 hK3 (by decide) h0 h1 hb4 ?_
  obtain ⟨hK10, h⟩ := h
  refine e_callV (Mc := m_X2_tail) (vs := []) (st := []) dX6_gapBetween_6 ok_X2_tail rfl ⟨by decide, rfl⟩ mk_X6_83 im_X2_tail sl_X2_tail rfl rfl hK10 (by omega) (Nat.le_of_ble_eq_true rfl) (Nat.le_of_ble_eq_true rfl) (Nat.le_of_ble_eq_true rfl) am_xh_nx (am_C_mono h (fun v K5 N6 I7 P8 z9 h => ?_) (fun _ _ _ _ _ _ h => h))
  replace h := am_iv_or h
  obtain ⟨x11, rfl, h⟩ := h
  show am_E d m_X6_gapBetween 9 _ _ _ [am_i x11] K5 N6 I7 P8 z9 Q am_nx
  refine e_aload_n dX6_gapBetween_9 rfl trivial ?_
  obtain ⟨hK12, h⟩ := h
  obtain ⟨b13, hb13, h⟩ := h
  refine e_getr1 dX6_gapBetween_10 fk_X6_38 rfl hK12 hb13 ?_
  refine e_iload_n dX6_gapBetween_13 rfl ?_
  obtain ⟨hK14, h⟩ := h
  obtain ⟨⟨h0, h1⟩, b15, hb15, h⟩ := h
  refine e_aald1 dX6_gapBetween_14 hK14 (by decide) h0 h1 hb15 ?_
  obtain ⟨hK16, h⟩ := h
  refine e_geti dX6_gapBetween_15 fk_X6_87 rfl hK16 ?_
  refine e_isub dX6_gapBetween_18 ?_
  exact e_ret_i dX6_gapBetween_19 rfl (Nat.le_of_ble_eq_true rfl) (Nat.le_of_ble_eq_true rfl) h
set_option maxRecDepth 100000 in
set_option maxHeartbeats 4000000 in
theorem wf_X6_freeAtEntry {d : Nat} (hd : 1 ≤ d) {s : Nat} {K N : Nat → Nat} {I : Nat → Nat → Int} {P : Nat → Nat → Option Nat} {z : Nat} {Q : am_V → am_T} (h :
  K s = 6 ∧ ((I s 6 ≤ 0 →
    Q (am_i 1000000) K N I P z) ∧
    (¬ (I s 6 ≤ 0) →
    ∃ b2, P s 5 = some b2 ∧ K b2 = 12 ∧ (0 ≤ am_wr (I s 6 - 1) ∧ am_wr (I s 6 - 1) < N b2) ∧ ∃ b4, P b2 (Int.toNat (am_wr (I s 6 - 1))) = some b4 ∧ K b4 = 2 ∧ am_C (d - 1) m_X2_tail [am_r b4] K N I P z (fun v K5 N6 I7 P8 z9 => am_iv v fun x11 =>
      Q (am_i x11) K5 N6 I7 P8 z9) am_nx))) :
  am_C d m_X6_freeAtEntry [am_r s] K N I P z Q am_nx := by
  refine am_C_of ok_X6_freeAtEntry (fun v hv => am_v1all _ rfl v hv) (Nat.le_of_ble_eq_true rfl) ?_
  show am_E d m_X6_freeAtEntry 0 0 0 [some (am_r s)] [] K N I P z Q am_nx
  refine e_aload_n dX6_freeAtEntry_0 rfl trivial ?_
  obtain ⟨hK1, h⟩ := h
  refine e_geti dX6_freeAtEntry_1 fk_X6_65 rfl hK1 ?_
  refine e_if_le (tgt := 24) dX6_freeAtEntry_4 (by decide) (fun hc => ?_) (fun hc => ?_)
  · replace h := h.1 hc
    refine e_ldc dX6_freeAtEntry_24 lc_X6_90 ?_
    exact e_ret_i dX6_freeAtEntry_26 rfl (Nat.le_of_ble_eq_true rfl) (Nat.le_of_ble_eq_true rfl) h
  · replace h := h.2 hc
    refine e_aload_n dX6_freeAtEntry_7 rfl trivial ?_
    obtain ⟨b2, hb2, h⟩ := h
    refine e_getr1 dX6_freeAtEntry_8 fk_X6_38 rfl hK1 hb2 ?_
    refine e_aload_n dX6_freeAtEntry_11 rfl trivial ?_
    refine e_geti dX6_freeAtEntry_12 fk_X6_65 rfl hK1 ?_
    refine e_iconst dX6_freeAtEntry_15 ?_
    refine e_isub dX6_freeAtEntry_16 ?_
    obtain ⟨hK3, h⟩ := h
    obtain ⟨⟨h0, h1⟩, b4, hb4, h⟩ := h
    refine e_aald1 dX6_freeAtEntry_17 hK3 (by decide) h0 h1 hb4 ?_
    obtain ⟨hK10, h⟩ := h
    refine e_callV (Mc := m_X2_tail) (vs := []) (st := []) dX6_freeAtEntry_18 ok_X2_tail rfl ⟨by decide, rfl⟩ mk_X6_83 im_X2_tail sl_X2_tail rfl rfl hK10 (by omega) (Nat.le_of_ble_eq_true rfl) (Nat.le_of_ble_eq_true rfl) (Nat.le_of_ble_eq_true rfl) am_xh_nx (am_C_mono h (fun v K5 N6 I7 P8 z9 h => ?_) (fun _ _ _ _ _ _ h => h))
    replace h := am_iv_or h
    obtain ⟨x11, rfl, h⟩ := h
    show am_E d m_X6_freeAtEntry 21 _ _ _ [am_i x11] K5 N6 I7 P8 z9 Q am_nx
    refine e_goto (tgt := 26) dX6_freeAtEntry_21 (by decide) ?_
    exact e_ret_i dX6_freeAtEntry_26 rfl (Nat.le_of_ble_eq_true rfl) (Nat.le_of_ble_eq_true rfl) h
set_option maxRecDepth 100000 in
set_option maxHeartbeats 4000000 in
theorem wf_X6_beginPart {d : Nat} (hd : 1 ≤ d) {s : Nat} {a1 : Int} {K N : Nat → Nat} {I : Nat → Nat → Int} {P : Nat → Nat → Option Nat} {z : Nat} {Q : am_V → am_T} (h :
  K s = 6 ∧ ((I s 6 < 20 →
    ∃ b2, P s 5 = some b2 ∧ K b2 = 12 ∧ (0 ≤ I s 6 ∧ I s 6 < N b2) ∧ ∃ b4, P b2 (Int.toNat (I s 6)) = some b4 ∧ K b4 = 2 ∧ am_C (d - 1) m_X2_begin [am_r b4, am_i (I s 7), am_i a1] K N I P z (fun _ K5 N6 I7 P8 z9 =>
      K5 s = 6 ∧ ((I7 s 6 ≤ 0 →
      ∀ I12, I12 = am_u2 I7 s 6 (am_wr (I7 s 6 + 1)) → ∀ I13, I13 = am_u2 I12 s 7 (am_wr (I12 s 7 + 1)) → Q (am_i (I s 7)) K5 N6 I13 P8 z9) ∧
      (¬ (I7 s 6 ≤ 0) →
      am_C (d - 1) m_X6_freeAtEntry [am_r s] K5 N6 I7 P8 z9 (fun v K14 N15 I16 P17 z18 => am_iv v fun x19 =>
        K14 s = 6 ∧ ∃ b21, P17 s 0 = some b21 ∧ K14 b21 = 10 ∧ (0 ≤ (5 : Int) ∧ (5 : Int) < N15 b21) ∧ ((I16 b21 5 ≤ x19 →
        ∀ I23, I23 = am_u2 I16 s 6 (am_wr (I16 s 6 + 1)) → ∀ I24, I24 = am_u2 I23 s 7 (am_wr (I23 s 7 + 1)) → Q (am_i (I s 7)) K14 N15 I24 P17 z18) ∧
        (¬ (I16 b21 5 ≤ x19) →
        K14 b4 = 2 ∧ ∀ I26, I26 = am_u2 I16 b4 6 1 → ∃ b27, P17 s 5 = some b27 ∧ K14 b27 = 12 ∧ (0 ≤ am_wr (I26 s 6 - 1) ∧ am_wr (I26 s 6 - 1) < N15 b27) ∧ ∃ b29, P17 b27 (Int.toNat (am_wr (I26 s 6 - 1))) = some b29 ∧ K14 b29 = 2 ∧ ∀ I31, I31 = am_u2 I26 b29 6 1 → ∀ I32, I32 = am_u2 I31 s 6 (am_wr (I31 s 6 + 1)) → ∀ I33, I33 = am_u2 I32 s 7 (am_wr (I32 s 7 + 1)) → Q (am_i (I s 7)) K14 N15 I33 P17 z18))) am_nx))) am_nx) ∧
    (¬ (I s 6 < 20) →
    Q (am_i (-1)) K N I P z))) :
  am_C d m_X6_beginPart [am_r s, am_i a1] K N I P z Q am_nx := by
  refine am_C_of ok_X6_beginPart (fun v hv => am_v1all _ rfl v hv) (Nat.le_of_ble_eq_true rfl) ?_
  show am_E d m_X6_beginPart 0 0 0 [some (am_r s), some (am_i a1), none, none] [] K N I P z Q am_nx
  refine e_aload_n dX6_beginPart_0 rfl trivial ?_
  obtain ⟨hK1, h⟩ := h
  refine e_geti dX6_beginPart_1 fk_X6_65 rfl hK1 ?_
  refine e_bipush dX6_beginPart_4 ?_
  refine e_icmp_lt (tgt := 11) dX6_beginPart_6 (by decide) (fun hc => ?_) (fun hc => ?_)
  · replace h := h.1 hc
    refine e_aload_n dX6_beginPart_11 rfl trivial ?_
    refine e_geti dX6_beginPart_12 fk_X6_71 rfl hK1 ?_
    refine e_istore_n dX6_beginPart_15 ?_
    refine e_aload_n dX6_beginPart_16 rfl trivial ?_
    obtain ⟨b2, hb2, h⟩ := h
    refine e_getr1 dX6_beginPart_17 fk_X6_38 rfl hK1 hb2 ?_
    refine e_aload_n dX6_beginPart_20 rfl trivial ?_
    refine e_geti dX6_beginPart_21 fk_X6_65 rfl hK1 ?_
    obtain ⟨hK3, h⟩ := h
    obtain ⟨⟨h0, h1⟩, b4, hb4, h⟩ := h
    refine e_aald1 dX6_beginPart_24 hK3 (by decide) h0 h1 hb4 ?_
    refine e_astore_n dX6_beginPart_25 trivial ?_
    refine e_aload_n dX6_beginPart_26 rfl trivial ?_
    refine e_iload_n dX6_beginPart_27 rfl ?_
    refine e_iload_n dX6_beginPart_28 rfl ?_
    obtain ⟨hK10, h⟩ := h
    refine e_callV (Mc := m_X2_begin) (vs := [am_i (I s 7), am_i a1]) (st := []) dX6_beginPart_29 ok_X2_begin rfl ⟨by decide, rfl⟩ mk_X6_91 im_X2_begin sl_X2_begin rfl rfl hK10 (by omega) (Nat.le_of_ble_eq_true rfl) (Nat.le_of_ble_eq_true rfl) (Nat.le_of_ble_eq_true rfl) am_xh_nx (am_C_mono h (fun v K5 N6 I7 P8 z9 h => ?_) (fun _ _ _ _ _ _ h => h))
    show am_E d m_X6_beginPart 32 _ _ _ [] K5 N6 I7 P8 z9 Q am_nx
    refine e_aload_n dX6_beginPart_32 rfl trivial ?_
    obtain ⟨hK11, h⟩ := h
    refine e_geti dX6_beginPart_33 fk_X6_65 rfl hK11 ?_
    refine e_if_le (tgt := 72) dX6_beginPart_36 (by decide) (fun hc => ?_) (fun hc => ?_)
    · replace h := h.1 hc
      refine e_aload_n dX6_beginPart_72 rfl trivial ?_
      refine e_dup dX6_beginPart_73 rfl ?_
      refine e_geti dX6_beginPart_74 fk_X6_65 rfl hK11 ?_
      refine e_iconst dX6_beginPart_77 ?_
      refine e_iadd dX6_beginPart_78 ?_
      refine e_puti dX6_beginPart_79 fk_X6_65 rfl (Or.inl rfl) hK11 ?_
      replace h := h _ rfl
      generalize am_u2 I7 s 6 (am_wr (I7 s 6 + 1)) = I12 at h ⊢
      refine e_aload_n dX6_beginPart_82 rfl trivial ?_
      refine e_dup dX6_beginPart_83 rfl ?_
      refine e_geti dX6_beginPart_84 fk_X6_71 rfl hK11 ?_
      refine e_iconst dX6_beginPart_87 ?_
      refine e_iadd dX6_beginPart_88 ?_
      refine e_puti dX6_beginPart_89 fk_X6_71 rfl (Or.inl rfl) hK11 ?_
      replace h := h _ rfl
      generalize am_u2 I12 s 7 (am_wr (I12 s 7 + 1)) = I13 at h ⊢
      refine e_iload_n dX6_beginPart_92 rfl ?_
      exact e_ret_i dX6_beginPart_93 rfl (Nat.le_of_ble_eq_true rfl) (Nat.le_of_ble_eq_true rfl) h
    · replace h := h.2 hc
      refine e_aload_n dX6_beginPart_39 rfl trivial ?_
      refine e_callV (Mc := m_X6_freeAtEntry) (vs := []) (st := []) dX6_beginPart_40 ok_X6_freeAtEntry rfl ⟨by decide, rfl⟩ mk_X6_95 im_X6_freeAtEntry sl_X6_freeAtEntry rfl rfl hK11 (by omega) (Nat.le_of_ble_eq_true rfl) (Nat.le_of_ble_eq_true rfl) (Nat.le_of_ble_eq_true rfl) am_xh_nx (am_C_mono h (fun v K14 N15 I16 P17 z18 h => ?_) (fun _ _ _ _ _ _ h => h))
      replace h := am_iv_or h
      obtain ⟨x19, rfl, h⟩ := h
      show am_E d m_X6_beginPart 43 _ _ _ [am_i x19] K14 N15 I16 P17 z18 Q am_nx
      refine e_aload_n dX6_beginPart_43 rfl trivial ?_
      obtain ⟨hK20, h⟩ := h
      obtain ⟨b21, hb21, h⟩ := h
      refine e_getr1 dX6_beginPart_44 fk_X6_18 rfl hK20 hb21 ?_
      refine e_iconst dX6_beginPart_47 ?_
      obtain ⟨hK22, h⟩ := h
      obtain ⟨⟨h0, h1⟩, h⟩ := h
      refine e_iald dX6_beginPart_48 hK22 h0 h1 ?_
      show am_E _ _ _ _ _ _ (am_i (I16 b21 5) :: _) _ _ _ _ _ _ _
      refine e_icmp_ge (tgt := 72) dX6_beginPart_49 (by decide) (fun hc => ?_) (fun hc => ?_)
      · replace h := h.1 hc
        refine e_aload_n dX6_beginPart_72 rfl trivial ?_
        refine e_dup dX6_beginPart_73 rfl ?_
        refine e_geti dX6_beginPart_74 fk_X6_65 rfl hK20 ?_
        refine e_iconst dX6_beginPart_77 ?_
        refine e_iadd dX6_beginPart_78 ?_
        refine e_puti dX6_beginPart_79 fk_X6_65 rfl (Or.inl rfl) hK20 ?_
        replace h := h _ rfl
        generalize am_u2 I16 s 6 (am_wr (I16 s 6 + 1)) = I23 at h ⊢
        refine e_aload_n dX6_beginPart_82 rfl trivial ?_
        refine e_dup dX6_beginPart_83 rfl ?_
        refine e_geti dX6_beginPart_84 fk_X6_71 rfl hK20 ?_
        refine e_iconst dX6_beginPart_87 ?_
        refine e_iadd dX6_beginPart_88 ?_
        refine e_puti dX6_beginPart_89 fk_X6_71 rfl (Or.inl rfl) hK20 ?_
        replace h := h _ rfl
        generalize am_u2 I23 s 7 (am_wr (I23 s 7 + 1)) = I24 at h ⊢
        refine e_iload_n dX6_beginPart_92 rfl ?_
        exact e_ret_i dX6_beginPart_93 rfl (Nat.le_of_ble_eq_true rfl) (Nat.le_of_ble_eq_true rfl) h
      · replace h := h.2 hc
        refine e_aload_n dX6_beginPart_52 rfl trivial ?_
        refine e_iconst dX6_beginPart_53 ?_
        obtain ⟨hK25, h⟩ := h
        refine e_puti dX6_beginPart_54 fk_X6_98 rfl (Or.inr ⟨rfl, by decide⟩) hK25 ?_
        replace h := h _ rfl
        generalize am_u2 I16 b4 6 1 = I26 at h ⊢
        refine e_aload_n dX6_beginPart_57 rfl trivial ?_
        obtain ⟨b27, hb27, h⟩ := h
        refine e_getr1 dX6_beginPart_58 fk_X6_38 rfl hK20 hb27 ?_
        refine e_aload_n dX6_beginPart_61 rfl trivial ?_
        refine e_geti dX6_beginPart_62 fk_X6_65 rfl hK20 ?_
        refine e_iconst dX6_beginPart_65 ?_
        refine e_isub dX6_beginPart_66 ?_
        obtain ⟨hK28, h⟩ := h
        obtain ⟨⟨h0, h1⟩, b29, hb29, h⟩ := h
        refine e_aald1 dX6_beginPart_67 hK28 (by decide) h0 h1 hb29 ?_
        refine e_iconst dX6_beginPart_68 ?_
        obtain ⟨hK30, h⟩ := h
        refine e_puti dX6_beginPart_69 fk_X6_98 rfl (Or.inr ⟨rfl, by decide⟩) hK30 ?_
        replace h := h _ rfl
        generalize am_u2 I26 b29 6 1 = I31 at h ⊢
        refine e_aload_n dX6_beginPart_72 rfl trivial ?_
        refine e_dup dX6_beginPart_73 rfl ?_
        refine e_geti dX6_beginPart_74 fk_X6_65 rfl hK20 ?_
        refine e_iconst dX6_beginPart_77 ?_
        refine e_iadd dX6_beginPart_78 ?_
        refine e_puti dX6_beginPart_79 fk_X6_65 rfl (Or.inl rfl) hK20 ?_
        replace h := h _ rfl
        generalize am_u2 I31 s 6 (am_wr (I31 s 6 + 1)) = I32 at h ⊢
        refine e_aload_n dX6_beginPart_82 rfl trivial ?_
        refine e_dup dX6_beginPart_83 rfl ?_
        refine e_geti dX6_beginPart_84 fk_X6_71 rfl hK20 ?_
        refine e_iconst dX6_beginPart_87 ?_
        refine e_iadd dX6_beginPart_88 ?_
        refine e_puti dX6_beginPart_89 fk_X6_71 rfl (Or.inl rfl) hK20 ?_
        replace h := h _ rfl
        generalize am_u2 I32 s 7 (am_wr (I32 s 7 + 1)) = I33 at h ⊢
        refine e_iload_n dX6_beginPart_92 rfl ?_
        exact e_ret_i dX6_beginPart_93 rfl (Nat.le_of_ble_eq_true rfl) (Nat.le_of_ble_eq_true rfl) h
  · replace h := h.2 hc
    refine e_iconst dX6_beginPart_9 ?_
    exact e_ret_i dX6_beginPart_10 rfl (Nat.le_of_ble_eq_true rfl) (Nat.le_of_ble_eq_true rfl) h
def L_X6_ownerOfRead_14 (d : Nat) (l0 : Nat) (l1 : Int) (l2 : Option Nat) (l3 : Option Nat) (l4 : Int) (K N : Nat → Nat) (I : Nat → Nat → Int) (P : Nat → Nat → Option Nat) (z : Nat) (Q : am_V → am_T) : Prop := am_E d m_X6_ownerOfRead 14 0 0 [some (am_r l0), some (am_i l1), some (am_o l2), some (am_o l3), some (am_i l4), none, none] [] K N I P z Q am_nx
set_option maxRecDepth 100000 in
set_option maxHeartbeats 4000000 in
theorem wf_X6_ownerOfRead {d : Nat} {s : Nat} {K N : Nat → Nat} {I : Nat → Nat → Int} {P : Nat → Nat → Option Nat} {z : Nat} {Q : am_V → am_T} (h :
  K s = 6 ∧ ∃ b2, P s 0 = some b2 ∧ K b2 = 10 ∧ (0 ≤ (0 : Int) ∧ (0 : Int) < N b2) ∧ L_X6_ownerOfRead_14 d s (I b2 0) none none 0 K N I P z Q) :
  am_C d m_X6_ownerOfRead [am_r s] K N I P z Q am_nx := by
  refine am_C_of ok_X6_ownerOfRead (fun v hv => am_v1all _ rfl v hv) (Nat.le_of_ble_eq_true rfl) ?_
  show am_E d m_X6_ownerOfRead 0 0 0 [some (am_r s), none, none, none, none, none, none] [] K N I P z Q am_nx
  refine e_aload_n dX6_ownerOfRead_0 rfl trivial ?_
  obtain ⟨hK1, h⟩ := h
  obtain ⟨b2, hb2, h⟩ := h
  refine e_getr1 dX6_ownerOfRead_1 fk_X6_18 rfl hK1 hb2 ?_
  refine e_iconst dX6_ownerOfRead_4 ?_
  obtain ⟨hK3, h⟩ := h
  obtain ⟨⟨h0, h1⟩, h⟩ := h
  refine e_iald dX6_ownerOfRead_5 hK3 h0 h1 ?_
  show am_E _ _ _ _ _ _ (am_i (I b2 0) :: _) _ _ _ _ _ _ _
  refine e_istore_n dX6_ownerOfRead_6 ?_
  refine e_null dX6_ownerOfRead_7 ?_
  refine e_astore_n dX6_ownerOfRead_8 trivial ?_
  refine e_null dX6_ownerOfRead_9 ?_
  refine e_astore_n dX6_ownerOfRead_10 trivial ?_
  refine e_iconst dX6_ownerOfRead_11 ?_
  refine e_istore dX6_ownerOfRead_12 ?_
  exact e_forget (am_sub_k (am_sub_k (am_sub_k (am_sub_k (am_sub_k (am_sub_d (am_sub_d am_sub_nil))))))) h
set_option maxRecDepth 100000 in
set_option maxHeartbeats 4000000 in
theorem wf_X6_ownerOfRead_14 {d : Nat} (hd : 1 ≤ d) {l0 : Nat} {l1 : Int} {l2 : Option Nat} {l3 : Option Nat} {l4 : Int} {K N : Nat → Nat} {I : Nat → Nat → Int} {P : Nat → Nat → Option Nat} {z : Nat} {Q : am_V → am_T} (h :
  K l0 = 6 ∧ ((I l0 6 ≤ l4 →
    ((l2 = none →
      Q (am_o l3) K N I P z) ∧
      (∀ b2, l2 = some b2 →
      K b2 = 2 ∧ ((I b2 4 = (-1) →
        Q (am_r b2) K N I P z) ∧
        (¬ (I b2 4 = (-1)) →
        ((l3 = none →
          Q (am_r b2) K N I P z) ∧
          (∀ b4, l3 = some b4 →
          Q (am_r b4) K N I P z))))))) ∧
    (¬ (I l0 6 ≤ l4) →
    ∃ b5, P l0 5 = some b5 ∧ K b5 = 12 ∧ (0 ≤ l4 ∧ l4 < N b5) ∧ ∃ b7, P b5 (Int.toNat l4) = some b7 ∧ K b7 = 2 ∧ am_C (d - 1) m_X2_tail [am_r b7] K N I P z (fun v K8 N9 I10 P11 z12 => am_iv v fun x14 =>
      ((x14 < l1 →
      ((l1 ≤ x14 →
        L_X6_ownerOfRead_14 d l0 l1 l2 l3 (am_wr (l4 + 1)) K8 N9 I10 P11 z12 Q) ∧
        (¬ (l1 ≤ x14) →
        K8 b7 = 2 ∧ ((I10 b7 2 < l1 →
          L_X6_ownerOfRead_14 d l0 l1 l2 l3 (am_wr (l4 + 1)) K8 N9 I10 P11 z12 Q) ∧
          (¬ (I10 b7 2 < l1) →
          L_X6_ownerOfRead_14 d l0 l1 l2 (some b7) (am_wr (l4 + 1)) K8 N9 I10 P11 z12 Q))))) ∧
      (¬ (x14 < l1) →
      K8 l0 = 6 ∧ ∃ b17, P11 l0 0 = some b17 ∧ K8 b17 = 10 ∧ (0 ≤ (1 : Int) ∧ (1 : Int) < N9 b17) ∧ ((am_wr (l1 + I10 b17 1) ≤ x14 →
        ((l1 ≤ x14 →
          L_X6_ownerOfRead_14 d l0 l1 l2 l3 (am_wr (l4 + 1)) K8 N9 I10 P11 z12 Q) ∧
          (¬ (l1 ≤ x14) →
          K8 b7 = 2 ∧ ((I10 b7 2 < l1 →
            L_X6_ownerOfRead_14 d l0 l1 l2 l3 (am_wr (l4 + 1)) K8 N9 I10 P11 z12 Q) ∧
            (¬ (I10 b7 2 < l1) →
            L_X6_ownerOfRead_14 d l0 l1 l2 (some b7) (am_wr (l4 + 1)) K8 N9 I10 P11 z12 Q))))) ∧
        (¬ (am_wr (l1 + I10 b17 1) ≤ x14) →
        ((l1 ≤ x14 →
          L_X6_ownerOfRead_14 d l0 l1 (some b7) l3 (am_wr (l4 + 1)) K8 N9 I10 P11 z12 Q) ∧
          (¬ (l1 ≤ x14) →
          K8 b7 = 2 ∧ ((I10 b7 2 < l1 →
            L_X6_ownerOfRead_14 d l0 l1 (some b7) l3 (am_wr (l4 + 1)) K8 N9 I10 P11 z12 Q) ∧
            (¬ (I10 b7 2 < l1) →
            L_X6_ownerOfRead_14 d l0 l1 (some b7) (some b7) (am_wr (l4 + 1)) K8 N9 I10 P11 z12 Q))))))))) am_nx))) :
  L_X6_ownerOfRead_14 d l0 l1 l2 l3 l4 K N I P z Q := by
  unfold L_X6_ownerOfRead_14
  refine e_iload dX6_ownerOfRead_14 rfl ?_
  refine e_aload_n dX6_ownerOfRead_16 rfl trivial ?_
  obtain ⟨hK1, h⟩ := h
  refine e_geti dX6_ownerOfRead_17 fk_X6_65 rfl hK1 ?_
  refine e_icmp_ge (tgt := 85) dX6_ownerOfRead_20 (by decide) (fun hc => ?_) (fun hc => ?_)
  · replace h := h.1 hc
    refine e_aload_n dX6_ownerOfRead_85 rfl (am_isref_o _) ?_
    refine e_ifnull1 (tgt := 103) dX6_ownerOfRead_86 (by decide) (fun hc => ?_) (fun b2 hc => ?_)
    · replace h := h.1 hc
      refine e_aload_n dX6_ownerOfRead_103 rfl (am_isref_o _) ?_
      exact e_ret_a dX6_ownerOfRead_104 rfl (am_isref_o _) (Nat.le_of_ble_eq_true rfl) (Nat.le_of_ble_eq_true rfl) h
    · replace h := h.2 b2 hc
      subst hc
      refine e_aload_n dX6_ownerOfRead_89 rfl trivial ?_
      obtain ⟨hK3, h⟩ := h
      refine e_geti dX6_ownerOfRead_90 fk_X6_102 rfl hK3 ?_
      refine e_iconst dX6_ownerOfRead_93 ?_
      refine e_icmp_eq (tgt := 101) dX6_ownerOfRead_94 (by decide) (fun hc => ?_) (fun hc => ?_)
      · replace h := h.1 hc
        refine e_aload_n dX6_ownerOfRead_101 rfl trivial ?_
        exact e_ret_a dX6_ownerOfRead_102 rfl trivial (Nat.le_of_ble_eq_true rfl) (Nat.le_of_ble_eq_true rfl) h
      · replace h := h.2 hc
        refine e_aload_n dX6_ownerOfRead_97 rfl (am_isref_o _) ?_
        refine e_ifnonnull1 (tgt := 103) dX6_ownerOfRead_98 (by decide) (fun hc => ?_) (fun b4 hc => ?_)
        · replace h := h.1 hc
          refine e_aload_n dX6_ownerOfRead_101 rfl trivial ?_
          exact e_ret_a dX6_ownerOfRead_102 rfl trivial (Nat.le_of_ble_eq_true rfl) (Nat.le_of_ble_eq_true rfl) h
        · replace h := h.2 b4 hc
          subst hc
          refine e_aload_n dX6_ownerOfRead_103 rfl trivial ?_
          exact e_ret_a dX6_ownerOfRead_104 rfl trivial (Nat.le_of_ble_eq_true rfl) (Nat.le_of_ble_eq_true rfl) h
  · replace h := h.2 hc
    refine e_aload_n dX6_ownerOfRead_23 rfl trivial ?_
    obtain ⟨b5, hb5, h⟩ := h
    refine e_getr1 dX6_ownerOfRead_24 fk_X6_38 rfl hK1 hb5 ?_
    refine e_iload dX6_ownerOfRead_27 rfl ?_
    obtain ⟨hK6, h⟩ := h
    obtain ⟨⟨h0, h1⟩, b7, hb7, h⟩ := h
    refine e_aald1 dX6_ownerOfRead_29 hK6 (by decide) h0 h1 hb7 ?_
    refine e_astore dX6_ownerOfRead_30 trivial ?_
    refine e_aload dX6_ownerOfRead_32 rfl trivial ?_
    obtain ⟨hK13, h⟩ := h
    refine e_callV (Mc := m_X2_tail) (vs := []) (st := []) dX6_ownerOfRead_34 ok_X2_tail rfl ⟨by decide, rfl⟩ mk_X6_83 im_X2_tail sl_X2_tail rfl rfl hK13 (by omega) (Nat.le_of_ble_eq_true rfl) (Nat.le_of_ble_eq_true rfl) (Nat.le_of_ble_eq_true rfl) am_xh_nx (am_C_mono h (fun v K8 N9 I10 P11 z12 h => ?_) (fun _ _ _ _ _ _ h => h))
    replace h := am_iv_or h
    obtain ⟨x14, rfl, h⟩ := h
    show am_E d m_X6_ownerOfRead 37 _ _ _ [am_i x14] K8 N9 I10 P11 z12 Q am_nx
    refine e_istore dX6_ownerOfRead_37 ?_
    refine e_iload dX6_ownerOfRead_39 rfl ?_
    refine e_iload_n dX6_ownerOfRead_41 rfl ?_
    refine e_icmp_lt (tgt := 61) dX6_ownerOfRead_42 (by decide) (fun hc => ?_) (fun hc => ?_)
    · replace h := h.1 hc
      refine e_iload dX6_ownerOfRead_61 rfl ?_
      refine e_iload_n dX6_ownerOfRead_63 rfl ?_
      refine e_icmp_ge (tgt := 79) dX6_ownerOfRead_64 (by decide) (fun hc => ?_) (fun hc => ?_)
      · replace h := h.1 hc
        refine e_iinc dX6_ownerOfRead_79 rfl ?_ (hc2 := am_c2_o (i := 3) rfl)
        refine e_goto (tgt := 14) dX6_ownerOfRead_82 (by decide) ?_
        exact e_forget (am_sub_k (am_sub_k (am_sub_k (am_sub_k (am_sub_k (am_sub_d (am_sub_d am_sub_nil))))))) h
      · replace h := h.2 hc
        refine e_aload dX6_ownerOfRead_67 rfl trivial ?_
        obtain ⟨hK15, h⟩ := h
        refine e_geti dX6_ownerOfRead_69 fk_X6_87 rfl hK15 ?_
        refine e_iload_n dX6_ownerOfRead_72 rfl ?_
        refine e_icmp_lt (tgt := 79) dX6_ownerOfRead_73 (by decide) (fun hc => ?_) (fun hc => ?_)
        · replace h := h.1 hc
          refine e_iinc dX6_ownerOfRead_79 rfl ?_ (hc2 := am_c2_o (i := 3) rfl)
          refine e_goto (tgt := 14) dX6_ownerOfRead_82 (by decide) ?_
          exact e_forget (am_sub_k (am_sub_k (am_sub_k (am_sub_k (am_sub_k (am_sub_d (am_sub_d am_sub_nil))))))) h
        · replace h := h.2 hc
          refine e_aload dX6_ownerOfRead_76 rfl trivial ?_
          refine e_astore_n dX6_ownerOfRead_78 trivial ?_ (hc2 := am_c2_o (i := 2) rfl)
          refine e_iinc dX6_ownerOfRead_79 rfl ?_
          refine e_goto (tgt := 14) dX6_ownerOfRead_82 (by decide) ?_
          exact e_forget (am_sub_k (am_sub_k (am_sub_k (am_sub_k (am_sub_k (am_sub_d (am_sub_d am_sub_nil))))))) h
    · replace h := h.2 hc
      refine e_iload dX6_ownerOfRead_45 rfl ?_
      refine e_iload_n dX6_ownerOfRead_47 rfl ?_
      refine e_aload_n dX6_ownerOfRead_48 rfl trivial ?_
      obtain ⟨hK16, h⟩ := h
      obtain ⟨b17, hb17, h⟩ := h
      refine e_getr1 dX6_ownerOfRead_49 fk_X6_18 rfl hK16 hb17 ?_
      refine e_iconst dX6_ownerOfRead_52 ?_
      obtain ⟨hK18, h⟩ := h
      obtain ⟨⟨h0, h1⟩, h⟩ := h
      refine e_iald dX6_ownerOfRead_53 hK18 h0 h1 ?_
      show am_E _ _ _ _ _ _ (am_i (I10 b17 1) :: _) _ _ _ _ _ _ _
      refine e_iadd dX6_ownerOfRead_54 ?_
      refine e_icmp_ge (tgt := 61) dX6_ownerOfRead_55 (by decide) (fun hc => ?_) (fun hc => ?_)
      · replace h := h.1 hc
        refine e_iload dX6_ownerOfRead_61 rfl ?_
        refine e_iload_n dX6_ownerOfRead_63 rfl ?_
        refine e_icmp_ge (tgt := 79) dX6_ownerOfRead_64 (by decide) (fun hc => ?_) (fun hc => ?_)
        · replace h := h.1 hc
          refine e_iinc dX6_ownerOfRead_79 rfl ?_ (hc2 := am_c2_o (i := 3) rfl)
          refine e_goto (tgt := 14) dX6_ownerOfRead_82 (by decide) ?_
          exact e_forget (am_sub_k (am_sub_k (am_sub_k (am_sub_k (am_sub_k (am_sub_d (am_sub_d am_sub_nil))))))) h
        · replace h := h.2 hc
          refine e_aload dX6_ownerOfRead_67 rfl trivial ?_
          obtain ⟨hK19, h⟩ := h
          refine e_geti dX6_ownerOfRead_69 fk_X6_87 rfl hK19 ?_
          refine e_iload_n dX6_ownerOfRead_72 rfl ?_
          refine e_icmp_lt (tgt := 79) dX6_ownerOfRead_73 (by decide) (fun hc => ?_) (fun hc => ?_)
          · replace h := h.1 hc
            refine e_iinc dX6_ownerOfRead_79 rfl ?_ (hc2 := am_c2_o (i := 3) rfl)
            refine e_goto (tgt := 14) dX6_ownerOfRead_82 (by decide) ?_
            exact e_forget (am_sub_k (am_sub_k (am_sub_k (am_sub_k (am_sub_k (am_sub_d (am_sub_d am_sub_nil))))))) h
          · replace h := h.2 hc
            refine e_aload dX6_ownerOfRead_76 rfl trivial ?_
            refine e_astore_n dX6_ownerOfRead_78 trivial ?_ (hc2 := am_c2_o (i := 2) rfl)
            refine e_iinc dX6_ownerOfRead_79 rfl ?_
            refine e_goto (tgt := 14) dX6_ownerOfRead_82 (by decide) ?_
            exact e_forget (am_sub_k (am_sub_k (am_sub_k (am_sub_k (am_sub_k (am_sub_d (am_sub_d am_sub_nil))))))) h
      · replace h := h.2 hc
        refine e_aload dX6_ownerOfRead_58 rfl trivial ?_
        refine e_astore_n dX6_ownerOfRead_60 trivial ?_
        refine e_iload dX6_ownerOfRead_61 rfl ?_
        refine e_iload_n dX6_ownerOfRead_63 rfl ?_
        refine e_icmp_ge (tgt := 79) dX6_ownerOfRead_64 (by decide) (fun hc => ?_) (fun hc => ?_)
        · replace h := h.1 hc
          refine e_iinc dX6_ownerOfRead_79 rfl ?_ (hc2 := am_c2_o (i := 3) rfl)
          refine e_goto (tgt := 14) dX6_ownerOfRead_82 (by decide) ?_
          exact e_forget (am_sub_k (am_sub_k (am_sub_k (am_sub_k (am_sub_k (am_sub_d (am_sub_d am_sub_nil))))))) h
        · replace h := h.2 hc
          refine e_aload dX6_ownerOfRead_67 rfl trivial ?_
          obtain ⟨hK20, h⟩ := h
          refine e_geti dX6_ownerOfRead_69 fk_X6_87 rfl hK20 ?_
          refine e_iload_n dX6_ownerOfRead_72 rfl ?_
          refine e_icmp_lt (tgt := 79) dX6_ownerOfRead_73 (by decide) (fun hc => ?_) (fun hc => ?_)
          · replace h := h.1 hc
            refine e_iinc dX6_ownerOfRead_79 rfl ?_ (hc2 := am_c2_o (i := 3) rfl)
            refine e_goto (tgt := 14) dX6_ownerOfRead_82 (by decide) ?_
            exact e_forget (am_sub_k (am_sub_k (am_sub_k (am_sub_k (am_sub_k (am_sub_d (am_sub_d am_sub_nil))))))) h
          · replace h := h.2 hc
            refine e_aload dX6_ownerOfRead_76 rfl trivial ?_
            refine e_astore_n dX6_ownerOfRead_78 trivial ?_
            refine e_iinc dX6_ownerOfRead_79 rfl ?_
            refine e_goto (tgt := 14) dX6_ownerOfRead_82 (by decide) ?_
            exact e_forget (am_sub_k (am_sub_k (am_sub_k (am_sub_k (am_sub_k (am_sub_d (am_sub_d am_sub_nil))))))) h
set_option maxRecDepth 100000 in
set_option maxHeartbeats 4000000 in
theorem wf_X6_laneOf {d : Nat} (hd : 1 ≤ d) {s : Nat} {a1 : Nat} {K N : Nat → Nat} {I : Nat → Nat → Int} {P : Nat → Nat → Option Nat} {z : Nat} {Q : am_V → am_T} (h :
  K a1 = 2 ∧ ((I a1 4 = (-1) →
    Q (am_i (-1)) K N I P z) ∧
    (¬ (I a1 4 = (-1)) →
    ((¬ I a1 5 = 0 →
      Q (am_i (-1)) K N I P z) ∧
      (I a1 5 = 0 →
      ((I a1 6 = 0 →
        K s = 6 ∧ am_C (d - 1) m_X6_laneGiven [am_r s, am_i (I a1 4), am_i (I a1 1)] K N I P z (fun v K2 N3 I4 P5 z6 => am_iv v fun x8 =>
          Q (am_i x8) K2 N3 I4 P5 z6) am_nx) ∧
        (¬ (I a1 6 = 0) →
        Q (am_i (-1)) K N I P z))))))) :
  am_C d m_X6_laneOf [am_r s, am_r a1] K N I P z Q am_nx := by
  refine am_C_of ok_X6_laneOf (fun v hv => am_v1all _ rfl v hv) (Nat.le_of_ble_eq_true rfl) ?_
  show am_E d m_X6_laneOf 0 0 0 [some (am_r s), some (am_r a1)] [] K N I P z Q am_nx
  refine e_aload_n dX6_laneOf_0 rfl trivial ?_
  obtain ⟨hK1, h⟩ := h
  refine e_geti dX6_laneOf_1 fk_X6_102 rfl hK1 ?_
  refine e_iconst dX6_laneOf_4 ?_
  refine e_icmp_eq (tgt := 22) dX6_laneOf_5 (by decide) (fun hc => ?_) (fun hc => ?_)
  · replace h := h.1 hc
    refine e_iconst dX6_laneOf_22 ?_
    exact e_ret_i dX6_laneOf_23 rfl (Nat.le_of_ble_eq_true rfl) (Nat.le_of_ble_eq_true rfl) h
  · replace h := h.2 hc
    refine e_aload_n dX6_laneOf_8 rfl trivial ?_
    refine e_geti dX6_laneOf_9 fk_X6_105 rfl hK1 ?_
    refine e_if_ne (tgt := 22) dX6_laneOf_12 (by decide) (fun hc => ?_) (fun hc => ?_)
    · replace h := h.1 hc
      refine e_iconst dX6_laneOf_22 ?_
      exact e_ret_i dX6_laneOf_23 rfl (Nat.le_of_ble_eq_true rfl) (Nat.le_of_ble_eq_true rfl) h
    · replace h := h.2 hc
      refine e_aload_n dX6_laneOf_15 rfl trivial ?_
      refine e_geti dX6_laneOf_16 fk_X6_98 rfl hK1 ?_
      refine e_if_eq (tgt := 24) dX6_laneOf_19 (by decide) (fun hc => ?_) (fun hc => ?_)
      · replace h := h.1 hc
        refine e_aload_n dX6_laneOf_24 rfl trivial ?_
        refine e_aload_n dX6_laneOf_25 rfl trivial ?_
        refine e_geti dX6_laneOf_26 fk_X6_102 rfl hK1 ?_
        refine e_aload_n dX6_laneOf_29 rfl trivial ?_
        refine e_geti dX6_laneOf_30 fk_X6_108 rfl hK1 ?_
        obtain ⟨hK7, h⟩ := h
        refine e_callV (Mc := m_X6_laneGiven) (vs := [am_i (I a1 4), am_i (I a1 1)]) (st := []) dX6_laneOf_33 ok_X6_laneGiven rfl ⟨by decide, rfl⟩ mk_X6_111 im_X6_laneGiven sl_X6_laneGiven rfl rfl hK7 (by omega) (Nat.le_of_ble_eq_true rfl) (Nat.le_of_ble_eq_true rfl) (Nat.le_of_ble_eq_true rfl) am_xh_nx (am_C_mono h (fun v K2 N3 I4 P5 z6 h => ?_) (fun _ _ _ _ _ _ h => h))
        replace h := am_iv_or h
        obtain ⟨x8, rfl, h⟩ := h
        show am_E d m_X6_laneOf 36 _ _ _ [am_i x8] K2 N3 I4 P5 z6 Q am_nx
        exact e_ret_i dX6_laneOf_36 rfl (Nat.le_of_ble_eq_true rfl) (Nat.le_of_ble_eq_true rfl) h
      · replace h := h.2 hc
        refine e_iconst dX6_laneOf_22 ?_
        exact e_ret_i dX6_laneOf_23 rfl (Nat.le_of_ble_eq_true rfl) (Nat.le_of_ble_eq_true rfl) h
set_option maxRecDepth 100000 in
set_option maxHeartbeats 4000000 in
theorem wf_X6_laneGiven {d : Nat} (hd : 1 ≤ d) {s : Nat} {a1 : Int} {a2 : Int} {K N : Nat → Nat} {I : Nat → Nat → Int} {P : Nat → Nat → Option Nat} {z : Nat} {Q : am_V → am_T} (h :
  K s = 6 ∧ ∃ b2, P s 3 = some b2 ∧ K b2 = 3 ∧ am_C (d - 1) m_X3_laneOf [am_r b2, am_i a1] K N I P z (fun v K3 N4 I5 P6 z7 => am_iv v fun x9 =>
    ((¬ x9 = (-1) →
    K3 s = 6 ∧ am_C (d - 1) m_X6_hasLane [am_r s, am_i x9] K3 N4 I5 P6 z7 (fun v K10 N11 I12 P13 z14 => am_iv v fun x16 =>
      ((x16 = 0 →
      Q (am_i (-1)) K10 N11 I12 P13 z14) ∧
      (¬ (x16 = 0) →
      Q (am_i x9) K10 N11 I12 P13 z14))) am_nx) ∧
    (x9 = (-1) →
    K3 s = 6 ∧ ∃ b18, P6 s 4 = some b18 ∧ K3 b18 = 4 ∧ am_C (d - 1) m_X4_laneBy [am_r b18, am_i a1, am_i a2] K3 N4 I5 P6 z7 (fun v K19 N20 I21 P22 z23 => am_iv v fun x25 =>
      K19 s = 6 ∧ am_C (d - 1) m_X6_hasLane [am_r s, am_i x25] K19 N20 I21 P22 z23 (fun v K26 N27 I28 P29 z30 => am_iv v fun x32 =>
      ((x32 = 0 →
      Q (am_i (-1)) K26 N27 I28 P29 z30) ∧
      (¬ (x32 = 0) →
      Q (am_i x25) K26 N27 I28 P29 z30))) am_nx) am_nx))) am_nx) :
  am_C d m_X6_laneGiven [am_r s, am_i a1, am_i a2] K N I P z Q am_nx := by
  refine am_C_of ok_X6_laneGiven (fun v hv => am_v1all _ rfl v hv) (Nat.le_of_ble_eq_true rfl) ?_
  show am_E d m_X6_laneGiven 0 0 0 [some (am_r s), some (am_i a1), some (am_i a2), none] [] K N I P z Q am_nx
  refine e_aload_n dX6_laneGiven_0 rfl trivial ?_
  obtain ⟨hK1, h⟩ := h
  obtain ⟨b2, hb2, h⟩ := h
  refine e_getr1 dX6_laneGiven_1 fk_X6_32 rfl hK1 hb2 ?_
  refine e_iload_n dX6_laneGiven_4 rfl ?_
  obtain ⟨hK8, h⟩ := h
  refine e_callV (Mc := m_X3_laneOf) (vs := [am_i a1]) (st := []) dX6_laneGiven_5 ok_X3_laneOf rfl ⟨by decide, rfl⟩ mk_X6_115 im_X3_laneOf sl_X3_laneOf rfl rfl hK8 (by omega) (Nat.le_of_ble_eq_true rfl) (Nat.le_of_ble_eq_true rfl) (Nat.le_of_ble_eq_true rfl) am_xh_nx (am_C_mono h (fun v K3 N4 I5 P6 z7 h => ?_) (fun _ _ _ _ _ _ h => h))
  replace h := am_iv_or h
  obtain ⟨x9, rfl, h⟩ := h
  show am_E d m_X6_laneGiven 8 _ _ _ [am_i x9] K3 N4 I5 P6 z7 Q am_nx
  refine e_istore_n dX6_laneGiven_8 ?_
  refine e_iload_n dX6_laneGiven_9 rfl ?_
  refine e_iconst dX6_laneGiven_10 ?_
  refine e_icmp_ne (tgt := 24) dX6_laneGiven_11 (by decide) (fun hc => ?_) (fun hc => ?_)
  · replace h := h.1 hc
    refine e_aload_n dX6_laneGiven_24 rfl trivial ?_
    refine e_iload_n dX6_laneGiven_25 rfl ?_
    obtain ⟨hK15, h⟩ := h
    refine e_callV (Mc := m_X6_hasLane) (vs := [am_i x9]) (st := []) dX6_laneGiven_26 ok_X6_hasLane rfl ⟨by decide, rfl⟩ mk_X6_124 im_X6_hasLane sl_X6_hasLane rfl rfl hK15 (by omega) (Nat.le_of_ble_eq_true rfl) (Nat.le_of_ble_eq_true rfl) (Nat.le_of_ble_eq_true rfl) am_xh_nx (am_C_mono h (fun v K10 N11 I12 P13 z14 h => ?_) (fun _ _ _ _ _ _ h => h))
    replace h := am_iv_or h
    obtain ⟨x16, rfl, h⟩ := h
    show am_E d m_X6_laneGiven 29 _ _ _ [am_i x16] K10 N11 I12 P13 z14 Q am_nx
    refine e_if_eq (tgt := 36) dX6_laneGiven_29 (by decide) (fun hc => ?_) (fun hc => ?_)
    · replace h := h.1 hc
      refine e_iconst dX6_laneGiven_36 ?_
      exact e_ret_i dX6_laneGiven_37 rfl (Nat.le_of_ble_eq_true rfl) (Nat.le_of_ble_eq_true rfl) h
    · replace h := h.2 hc
      refine e_iload_n dX6_laneGiven_32 rfl ?_
      refine e_goto (tgt := 37) dX6_laneGiven_33 (by decide) ?_
      exact e_ret_i dX6_laneGiven_37 rfl (Nat.le_of_ble_eq_true rfl) (Nat.le_of_ble_eq_true rfl) h
  · replace h := h.2 hc
    refine e_aload_n dX6_laneGiven_14 rfl trivial ?_
    obtain ⟨hK17, h⟩ := h
    obtain ⟨b18, hb18, h⟩ := h
    refine e_getr1 dX6_laneGiven_15 fk_X6_42 rfl hK17 hb18 ?_
    refine e_iload_n dX6_laneGiven_18 rfl ?_
    refine e_iload_n dX6_laneGiven_19 rfl ?_
    obtain ⟨hK24, h⟩ := h
    refine e_callV (Mc := m_X4_laneBy) (vs := [am_i a1, am_i a2]) (st := []) dX6_laneGiven_20 ok_X4_laneBy rfl ⟨by decide, rfl⟩ mk_X6_119 im_X4_laneBy sl_X4_laneBy rfl rfl hK24 (by omega) (Nat.le_of_ble_eq_true rfl) (Nat.le_of_ble_eq_true rfl) (Nat.le_of_ble_eq_true rfl) am_xh_nx (am_C_mono h (fun v K19 N20 I21 P22 z23 h => ?_) (fun _ _ _ _ _ _ h => h))
    replace h := am_iv_or h
    obtain ⟨x25, rfl, h⟩ := h
    show am_E d m_X6_laneGiven 23 _ _ _ [am_i x25] K19 N20 I21 P22 z23 Q am_nx
    refine e_istore_n dX6_laneGiven_23 ?_
    refine e_aload_n dX6_laneGiven_24 rfl trivial ?_
    refine e_iload_n dX6_laneGiven_25 rfl ?_
    obtain ⟨hK31, h⟩ := h
    refine e_callV (Mc := m_X6_hasLane) (vs := [am_i x25]) (st := []) dX6_laneGiven_26 ok_X6_hasLane rfl ⟨by decide, rfl⟩ mk_X6_124 im_X6_hasLane sl_X6_hasLane rfl rfl hK31 (by omega) (Nat.le_of_ble_eq_true rfl) (Nat.le_of_ble_eq_true rfl) (Nat.le_of_ble_eq_true rfl) am_xh_nx (am_C_mono h (fun v K26 N27 I28 P29 z30 h => ?_) (fun _ _ _ _ _ _ h => h))
    replace h := am_iv_or h
    obtain ⟨x32, rfl, h⟩ := h
    show am_E d m_X6_laneGiven 29 _ _ _ [am_i x32] K26 N27 I28 P29 z30 Q am_nx
    refine e_if_eq (tgt := 36) dX6_laneGiven_29 (by decide) (fun hc => ?_) (fun hc => ?_)
    · replace h := h.1 hc
      refine e_iconst dX6_laneGiven_36 ?_
      exact e_ret_i dX6_laneGiven_37 rfl (Nat.le_of_ble_eq_true rfl) (Nat.le_of_ble_eq_true rfl) h
    · replace h := h.2 hc
      refine e_iload_n dX6_laneGiven_32 rfl ?_
      refine e_goto (tgt := 37) dX6_laneGiven_33 (by decide) ?_
      exact e_ret_i dX6_laneGiven_37 rfl (Nat.le_of_ble_eq_true rfl) (Nat.le_of_ble_eq_true rfl) h
def L_X6_aimParts_2 (d : Nat) (l0 : Nat) (l1 : Int) (K N : Nat → Nat) (I : Nat → Nat → Int) (P : Nat → Nat → Option Nat) (z : Nat) (Q : am_V → am_T) : Prop := am_E d m_X6_aimParts 2 0 0 [some (am_r l0), some (am_i l1)] [] K N I P z Q am_nx
set_option maxRecDepth 100000 in
set_option maxHeartbeats 4000000 in
theorem wf_X6_aimParts {d : Nat} {s : Nat} {K N : Nat → Nat} {I : Nat → Nat → Int} {P : Nat → Nat → Option Nat} {z : Nat} {Q : am_V → am_T} (h :
  L_X6_aimParts_2 d s 0 K N I P z Q) :
  am_C d m_X6_aimParts [am_r s] K N I P z Q am_nx := by
  refine am_C_of ok_X6_aimParts (fun v hv => am_v1all _ rfl v hv) (Nat.le_of_ble_eq_true rfl) ?_
  show am_E d m_X6_aimParts 0 0 0 [some (am_r s), none] [] K N I P z Q am_nx
  refine e_iconst dX6_aimParts_0 ?_
  refine e_istore_n dX6_aimParts_1 ?_
  exact e_forget (am_sub_k (am_sub_k am_sub_nil)) h
set_option maxRecDepth 100000 in
set_option maxHeartbeats 4000000 in
theorem wf_X6_aimParts_2 {d : Nat} (hd : 1 ≤ d) {l0 : Nat} {l1 : Int} {K N : Nat → Nat} {I : Nat → Nat → Int} {P : Nat → Nat → Option Nat} {z : Nat} {Q : am_V → am_T} (h :
  K l0 = 6 ∧ ((I l0 6 ≤ l1 →
    ∀ I2, I2 = am_u2 I l0 10 0 → Q am_nl K N I2 P z) ∧
    (¬ (I l0 6 ≤ l1) →
    ∃ b3, P l0 5 = some b3 ∧ K b3 = 12 ∧ (0 ≤ l1 ∧ l1 < N b3) ∧ ∃ b5, P b3 (Int.toNat l1) = some b5 ∧ (0 ≤ l1 ∧ l1 < N b3) ∧ ∃ b6, P b3 (Int.toNat l1) = some b6 ∧ am_C (d - 1) m_X6_laneOf [am_r l0, am_r b6] K N I P z (fun v K7 N8 I9 P10 z11 => am_iv v fun x12 =>
      K7 b5 = 2 ∧ ∀ I14, I14 = am_u2 I9 b5 11 x12 → L_X6_aimParts_2 d l0 (am_wr (l1 + 1)) K7 N8 I14 P10 z11 Q) am_nx))) :
  L_X6_aimParts_2 d l0 l1 K N I P z Q := by
  unfold L_X6_aimParts_2
  refine e_iload_n dX6_aimParts_2 rfl ?_
  refine e_aload_n dX6_aimParts_3 rfl trivial ?_
  obtain ⟨hK1, h⟩ := h
  refine e_geti dX6_aimParts_4 fk_X6_65 rfl hK1 ?_
  refine e_icmp_ge (tgt := 35) dX6_aimParts_7 (by decide) (fun hc => ?_) (fun hc => ?_)
  · replace h := h.1 hc
    refine e_aload_n dX6_aimParts_35 rfl trivial ?_
    refine e_iconst dX6_aimParts_36 ?_
    refine e_puti dX6_aimParts_37 fk_X6_134 rfl (Or.inr ⟨rfl, by decide⟩) hK1 ?_
    replace h := h _ rfl
    generalize am_u2 I l0 10 0 = I2 at h ⊢
    exact e_ret_v dX6_aimParts_40 rfl (Nat.le_of_ble_eq_true rfl) (Nat.le_of_ble_eq_true rfl) h
  · replace h := h.2 hc
    refine e_aload_n dX6_aimParts_10 rfl trivial ?_
    obtain ⟨b3, hb3, h⟩ := h
    refine e_getr1 dX6_aimParts_11 fk_X6_38 rfl hK1 hb3 ?_
    refine e_iload_n dX6_aimParts_14 rfl ?_
    obtain ⟨hK4, h⟩ := h
    obtain ⟨⟨h0, h1⟩, b5, hb5, h⟩ := h
    refine e_aald1 dX6_aimParts_15 hK4 (by decide) h0 h1 hb5 ?_
    refine e_aload_n dX6_aimParts_16 rfl trivial ?_
    refine e_aload_n dX6_aimParts_17 rfl trivial ?_
    refine e_getr1 dX6_aimParts_18 fk_X6_38 rfl hK1 hb3 ?_
    refine e_iload_n dX6_aimParts_21 rfl ?_
    obtain ⟨⟨h0, h1⟩, b6, hb6, h⟩ := h
    refine e_aald1 dX6_aimParts_22 hK4 (by decide) h0 h1 hb6 ?_
    refine e_callV (Mc := m_X6_laneOf) (vs := [am_r b6]) (st := [am_r b5]) dX6_aimParts_23 ok_X6_laneOf rfl ⟨by decide, rfl⟩ mk_X6_128 im_X6_laneOf sl_X6_laneOf rfl rfl hK1 (by omega) (Nat.le_of_ble_eq_true rfl) (Nat.le_of_ble_eq_true rfl) (Nat.le_of_ble_eq_true rfl) am_xh_nx (am_C_mono h (fun v K7 N8 I9 P10 z11 h => ?_) (fun _ _ _ _ _ _ h => h))
    replace h := am_iv_or h
    obtain ⟨x12, rfl, h⟩ := h
    show am_E d m_X6_aimParts 26 _ _ _ [am_i x12, am_r b5] K7 N8 I9 P10 z11 Q am_nx
    obtain ⟨hK13, h⟩ := h
    refine e_puti dX6_aimParts_26 fk_X6_131 rfl (Or.inl rfl) hK13 ?_
    replace h := h _ rfl
    generalize am_u2 I9 b5 11 x12 = I14 at h ⊢
    refine e_iinc dX6_aimParts_29 rfl ?_
    refine e_goto (tgt := 2) dX6_aimParts_32 (by decide) ?_
    exact e_forget (am_sub_k (am_sub_k am_sub_nil)) h
set_option maxRecDepth 100000 in
set_option maxHeartbeats 4000000 in
theorem wf_X6_stride {d : Nat} (hd : 1 ≤ d) {s : Nat} {a1 : Int} {K N : Nat → Nat} {I : Nat → Nat → Int} {P : Nat → Nat → Option Nat} {z : Nat} {Q : am_V → am_T} (h :
  K s = 6 ∧ ((I s 10 = 0 →
    am_C (d - 1) m_X6_advance [am_r s, am_i (am_wr (0 + 1))] K N I P z (fun _ K2 N3 I4 P5 z6 =>
      K2 s = 6 ∧ am_C (d - 1) m_X6_divertParts [am_r s] K2 N3 I4 P5 z6 (fun _ K8 N9 I10 P11 z12 =>
      K8 s = 6 ∧ am_C (d - 1) m_X6_loseParts [am_r s] K8 N9 I10 P11 z12 (fun _ K13 N14 I15 P16 z17 =>
      K13 s = 6 ∧ ((¬ I15 s 6 = I4 s 6 →
      ∀ I20, I20 = am_u2 I15 s 10 0 → Q (am_i (am_wr (0 + 1))) K13 N14 I20 P16 z17) ∧
      (I15 s 6 = I4 s 6 →
      ∀ I21, I21 = am_u2 I15 s 10 1 → Q (am_i (am_wr (0 + 1))) K13 N14 I21 P16 z17))) am_nx) am_nx) am_nx) ∧
    (¬ (I s 10 = 0) →
    am_C (d - 1) m_X6_quietMillimeters [am_r s] K N I P z (fun v K22 N23 I24 P25 z26 => am_iv v fun x27 =>
      K22 s = 6 ∧ am_C (d - 1) m_X6_advance [am_r s, am_i (am_wr ((if 0 < (if am_wr (a1 - 1) < x27 then am_wr (a1 - 1) else x27) then (if am_wr (a1 - 1) < x27 then am_wr (a1 - 1) else x27) else 0) + 1))] K22 N23 I24 P25 z26 (fun _ K28 N29 I30 P31 z32 =>
      K28 s = 6 ∧ am_C (d - 1) m_X6_divertParts [am_r s] K28 N29 I30 P31 z32 (fun _ K35 N36 I37 P38 z39 =>
      K35 s = 6 ∧ am_C (d - 1) m_X6_loseParts [am_r s] K35 N36 I37 P38 z39 (fun _ K40 N41 I42 P43 z44 =>
      K40 s = 6 ∧ ((¬ I42 s 6 = I30 s 6 →
      ∀ I47, I47 = am_u2 I42 s 10 0 → Q (am_i (am_wr ((if 0 < (if am_wr (a1 - 1) < x27 then am_wr (a1 - 1) else x27) then (if am_wr (a1 - 1) < x27 then am_wr (a1 - 1) else x27) else 0) + 1))) K40 N41 I47 P43 z44) ∧
      (I42 s 6 = I30 s 6 →
      ∀ I48, I48 = am_u2 I42 s 10 1 → Q (am_i (am_wr ((if 0 < (if am_wr (a1 - 1) < x27 then am_wr (a1 - 1) else x27) then (if am_wr (a1 - 1) < x27 then am_wr (a1 - 1) else x27) else 0) + 1))) K40 N41 I48 P43 z44))) am_nx) am_nx) am_nx) am_nx))) :
  am_C d m_X6_stride [am_r s, am_i a1] K N I P z Q am_nx := by
  refine am_C_of ok_X6_stride (fun v hv => am_v1all _ rfl v hv) (Nat.le_of_ble_eq_true rfl) ?_
  show am_E d m_X6_stride 0 0 0 [some (am_r s), some (am_i a1), none, none] [] K N I P z Q am_nx
  refine e_aload_n dX6_stride_0 rfl trivial ?_
  obtain ⟨hK1, h⟩ := h
  refine e_geti dX6_stride_1 fk_X6_134 rfl hK1 ?_
  refine e_if_eq (tgt := 24) dX6_stride_4 (by decide) (fun hc => ?_) (fun hc => ?_)
  · replace h := h.1 hc
    refine e_iconst dX6_stride_24 ?_
    refine e_istore_n dX6_stride_25 ?_
    refine e_aload_n dX6_stride_26 rfl trivial ?_
    refine e_iload_n dX6_stride_27 rfl ?_
    refine e_iconst dX6_stride_28 ?_
    refine e_iadd dX6_stride_29 ?_
    refine e_callV (Mc := m_X6_advance) (vs := [am_i (am_wr (0 + 1))]) (st := []) dX6_stride_30 ok_X6_advance rfl ⟨by decide, rfl⟩ mk_X6_148 im_X6_advance sl_X6_advance rfl rfl hK1 (by omega) (Nat.le_of_ble_eq_true rfl) (Nat.le_of_ble_eq_true rfl) (Nat.le_of_ble_eq_true rfl) am_xh_nx (am_C_mono h (fun v K2 N3 I4 P5 z6 h => ?_) (fun _ _ _ _ _ _ h => h))
    show am_E d m_X6_stride 33 _ _ _ [] K2 N3 I4 P5 z6 Q am_nx
    refine e_aload_n dX6_stride_33 rfl trivial ?_
    obtain ⟨hK7, h⟩ := h
    refine e_geti dX6_stride_34 fk_X6_65 rfl hK7 ?_
    refine e_istore_n dX6_stride_37 ?_
    refine e_aload_n dX6_stride_38 rfl trivial ?_
    refine e_callV (Mc := m_X6_divertParts) (vs := []) (st := []) dX6_stride_39 ok_X6_divertParts rfl ⟨by decide, rfl⟩ mk_X6_152 im_X6_divertParts sl_X6_divertParts rfl rfl hK7 (by omega) (Nat.le_of_ble_eq_true rfl) (Nat.le_of_ble_eq_true rfl) (Nat.le_of_ble_eq_true rfl) am_xh_nx (am_C_mono h (fun v K8 N9 I10 P11 z12 h => ?_) (fun _ _ _ _ _ _ h => h))
    show am_E d m_X6_stride 42 _ _ _ [] K8 N9 I10 P11 z12 Q am_nx
    refine e_aload_n dX6_stride_42 rfl trivial ?_
    obtain ⟨hK18, h⟩ := h
    refine e_callV (Mc := m_X6_loseParts) (vs := []) (st := []) dX6_stride_43 ok_X6_loseParts rfl ⟨by decide, rfl⟩ mk_X6_155 im_X6_loseParts sl_X6_loseParts rfl rfl hK18 (by omega) (Nat.le_of_ble_eq_true rfl) (Nat.le_of_ble_eq_true rfl) (Nat.le_of_ble_eq_true rfl) am_xh_nx (am_C_mono h (fun v K13 N14 I15 P16 z17 h => ?_) (fun _ _ _ _ _ _ h => h))
    show am_E d m_X6_stride 46 _ _ _ [] K13 N14 I15 P16 z17 Q am_nx
    refine e_aload_n dX6_stride_46 rfl trivial ?_
    refine e_aload_n dX6_stride_47 rfl trivial ?_
    obtain ⟨hK19, h⟩ := h
    refine e_geti dX6_stride_48 fk_X6_65 rfl hK19 ?_
    refine e_iload_n dX6_stride_51 rfl ?_
    refine e_icmp_ne (tgt := 59) dX6_stride_52 (by decide) (fun hc => ?_) (fun hc => ?_)
    · replace h := h.1 hc
      refine e_iconst dX6_stride_59 ?_
      refine e_puti dX6_stride_60 fk_X6_134 rfl (Or.inr ⟨rfl, by decide⟩) hK19 ?_
      replace h := h _ rfl
      generalize am_u2 I15 s 10 0 = I20 at h ⊢
      refine e_iload_n dX6_stride_63 rfl ?_
      refine e_iconst dX6_stride_64 ?_
      refine e_iadd dX6_stride_65 ?_
      exact e_ret_i dX6_stride_66 rfl (Nat.le_of_ble_eq_true rfl) (Nat.le_of_ble_eq_true rfl) h
    · replace h := h.2 hc
      refine e_iconst dX6_stride_55 ?_
      refine e_goto (tgt := 60) dX6_stride_56 (by decide) ?_
      refine e_puti dX6_stride_60 fk_X6_134 rfl (Or.inr ⟨rfl, by decide⟩) hK19 ?_
      replace h := h _ rfl
      generalize am_u2 I15 s 10 1 = I21 at h ⊢
      refine e_iload_n dX6_stride_63 rfl ?_
      refine e_iconst dX6_stride_64 ?_
      refine e_iadd dX6_stride_65 ?_
      exact e_ret_i dX6_stride_66 rfl (Nat.le_of_ble_eq_true rfl) (Nat.le_of_ble_eq_true rfl) h
  · replace h := h.2 hc
    refine e_iconst dX6_stride_7 ?_
    refine e_aload_n dX6_stride_8 rfl trivial ?_
    refine e_callV (Mc := m_X6_quietMillimeters) (vs := []) (st := [am_i 0]) dX6_stride_9 ok_X6_quietMillimeters rfl ⟨by decide, rfl⟩ mk_X6_137 im_X6_quietMillimeters sl_X6_quietMillimeters rfl rfl hK1 (by omega) (Nat.le_of_ble_eq_true rfl) (Nat.le_of_ble_eq_true rfl) (Nat.le_of_ble_eq_true rfl) am_xh_nx (am_C_mono h (fun v K22 N23 I24 P25 z26 h => ?_) (fun _ _ _ _ _ _ h => h))
    replace h := am_iv_or h
    obtain ⟨x27, rfl, h⟩ := h
    show am_E d m_X6_stride 12 _ _ _ [am_i x27, am_i 0] K22 N23 I24 P25 z26 Q am_nx
    refine e_iload_n dX6_stride_12 rfl ?_
    refine e_iconst dX6_stride_13 ?_
    refine e_isub dX6_stride_14 ?_
    refine e_min dX6_stride_15 mk_X6_140 ms_min mi mc_min (by omega) (Nat.le_of_ble_eq_true rfl) (Nat.le_of_ble_eq_true rfl) (Nat.le_of_ble_eq_true rfl) ?_
    refine e_max dX6_stride_18 mk_X6_145 ms_max mi mc_max (by omega) (Nat.le_of_ble_eq_true rfl) (Nat.le_of_ble_eq_true rfl) (Nat.le_of_ble_eq_true rfl) ?_
    refine e_goto (tgt := 25) dX6_stride_21 (by decide) ?_
    refine e_istore_n dX6_stride_25 ?_
    refine e_aload_n dX6_stride_26 rfl trivial ?_
    refine e_iload_n dX6_stride_27 rfl ?_
    refine e_iconst dX6_stride_28 ?_
    refine e_iadd dX6_stride_29 ?_
    obtain ⟨hK33, h⟩ := h
    refine e_callV (Mc := m_X6_advance) (vs := [am_i (am_wr ((if 0 < (if am_wr (a1 - 1) < x27 then am_wr (a1 - 1) else x27) then (if am_wr (a1 - 1) < x27 then am_wr (a1 - 1) else x27) else 0) + 1))]) (st := []) dX6_stride_30 ok_X6_advance rfl ⟨by decide, rfl⟩ mk_X6_148 im_X6_advance sl_X6_advance rfl rfl hK33 (by omega) (Nat.le_of_ble_eq_true rfl) (Nat.le_of_ble_eq_true rfl) (Nat.le_of_ble_eq_true rfl) am_xh_nx (am_C_mono h (fun v K28 N29 I30 P31 z32 h => ?_) (fun _ _ _ _ _ _ h => h))
    show am_E d m_X6_stride 33 _ _ _ [] K28 N29 I30 P31 z32 Q am_nx
    refine e_aload_n dX6_stride_33 rfl trivial ?_
    obtain ⟨hK34, h⟩ := h
    refine e_geti dX6_stride_34 fk_X6_65 rfl hK34 ?_
    refine e_istore_n dX6_stride_37 ?_
    refine e_aload_n dX6_stride_38 rfl trivial ?_
    refine e_callV (Mc := m_X6_divertParts) (vs := []) (st := []) dX6_stride_39 ok_X6_divertParts rfl ⟨by decide, rfl⟩ mk_X6_152 im_X6_divertParts sl_X6_divertParts rfl rfl hK34 (by omega) (Nat.le_of_ble_eq_true rfl) (Nat.le_of_ble_eq_true rfl) (Nat.le_of_ble_eq_true rfl) am_xh_nx (am_C_mono h (fun v K35 N36 I37 P38 z39 h => ?_) (fun _ _ _ _ _ _ h => h))
    show am_E d m_X6_stride 42 _ _ _ [] K35 N36 I37 P38 z39 Q am_nx
    refine e_aload_n dX6_stride_42 rfl trivial ?_
    obtain ⟨hK45, h⟩ := h
    refine e_callV (Mc := m_X6_loseParts) (vs := []) (st := []) dX6_stride_43 ok_X6_loseParts rfl ⟨by decide, rfl⟩ mk_X6_155 im_X6_loseParts sl_X6_loseParts rfl rfl hK45 (by omega) (Nat.le_of_ble_eq_true rfl) (Nat.le_of_ble_eq_true rfl) (Nat.le_of_ble_eq_true rfl) am_xh_nx (am_C_mono h (fun v K40 N41 I42 P43 z44 h => ?_) (fun _ _ _ _ _ _ h => h))
    show am_E d m_X6_stride 46 _ _ _ [] K40 N41 I42 P43 z44 Q am_nx
    refine e_aload_n dX6_stride_46 rfl trivial ?_
    refine e_aload_n dX6_stride_47 rfl trivial ?_
    obtain ⟨hK46, h⟩ := h
    refine e_geti dX6_stride_48 fk_X6_65 rfl hK46 ?_
    refine e_iload_n dX6_stride_51 rfl ?_
    refine e_icmp_ne (tgt := 59) dX6_stride_52 (by decide) (fun hc => ?_) (fun hc => ?_)
    · replace h := h.1 hc
      refine e_iconst dX6_stride_59 ?_
      refine e_puti dX6_stride_60 fk_X6_134 rfl (Or.inr ⟨rfl, by decide⟩) hK46 ?_
      replace h := h _ rfl
      generalize am_u2 I42 s 10 0 = I47 at h ⊢
      refine e_iload_n dX6_stride_63 rfl ?_
      refine e_iconst dX6_stride_64 ?_
      refine e_iadd dX6_stride_65 ?_
      exact e_ret_i dX6_stride_66 rfl (Nat.le_of_ble_eq_true rfl) (Nat.le_of_ble_eq_true rfl) h
    · replace h := h.2 hc
      refine e_iconst dX6_stride_55 ?_
      refine e_goto (tgt := 60) dX6_stride_56 (by decide) ?_
      refine e_puti dX6_stride_60 fk_X6_134 rfl (Or.inr ⟨rfl, by decide⟩) hK46 ?_
      replace h := h _ rfl
      generalize am_u2 I42 s 10 1 = I48 at h ⊢
      refine e_iload_n dX6_stride_63 rfl ?_
      refine e_iconst dX6_stride_64 ?_
      refine e_iadd dX6_stride_65 ?_
      exact e_ret_i dX6_stride_66 rfl (Nat.le_of_ble_eq_true rfl) (Nat.le_of_ble_eq_true rfl) h
def L_X6_quietMillimeters_5 (d : Nat) (l0 : Nat) (l1 : Int) (l2 : Int) (K N : Nat → Nat) (I : Nat → Nat → Int) (P : Nat → Nat → Option Nat) (z : Nat) (Q : am_V → am_T) : Prop := am_E d m_X6_quietMillimeters 5 0 0 [some (am_r l0), some (am_i l1), some (am_i l2), none, none] [] K N I P z Q am_nx
set_option maxRecDepth 100000 in
set_option maxHeartbeats 4000000 in
theorem wf_X6_quietMillimeters {d : Nat} {s : Nat} {K N : Nat → Nat} {I : Nat → Nat → Int} {P : Nat → Nat → Option Nat} {z : Nat} {Q : am_V → am_T} (h :
  L_X6_quietMillimeters_5 d s 1000000 0 K N I P z Q) :
  am_C d m_X6_quietMillimeters [am_r s] K N I P z Q am_nx := by
  refine am_C_of ok_X6_quietMillimeters (fun v hv => am_v1all _ rfl v hv) (Nat.le_of_ble_eq_true rfl) ?_
  show am_E d m_X6_quietMillimeters 0 0 0 [some (am_r s), none, none, none, none] [] K N I P z Q am_nx
  refine e_ldc dX6_quietMillimeters_0 lc_X6_90 ?_
  refine e_istore_n dX6_quietMillimeters_2 ?_
  refine e_iconst dX6_quietMillimeters_3 ?_
  refine e_istore_n dX6_quietMillimeters_4 ?_
  exact e_forget (am_sub_k (am_sub_k (am_sub_k (am_sub_d (am_sub_d am_sub_nil))))) h
set_option maxRecDepth 100000 in
set_option maxHeartbeats 4000000 in
theorem wf_X6_quietMillimeters_5 {d : Nat} (hd : 1 ≤ d) {l0 : Nat} {l1 : Int} {l2 : Int} {K N : Nat → Nat} {I : Nat → Nat → Int} {P : Nat → Nat → Option Nat} {z : Nat} {Q : am_V → am_T} (h :
  K l0 = 6 ∧ ((I l0 6 ≤ l2 →
    Q (am_i l1) K N I P z) ∧
    (¬ (I l0 6 ≤ l2) →
    ∃ b2, P l0 5 = some b2 ∧ K b2 = 12 ∧ (0 ≤ l2 ∧ l2 < N b2) ∧ ∃ b4, P b2 (Int.toNat l2) = some b4 ∧ ∃ b5, P l0 0 = some b5 ∧ K b5 = 10 ∧ (0 ≤ (4 : Int) ∧ (4 : Int) < N b5) ∧ K b4 = 2 ∧ am_C (d - 1) m_X6_hasLane [am_r l0, am_i (I b4 11)] K N I P z (fun v K8 N9 I10 P11 z12 => am_iv v fun x13 =>
      ((x13 = 0 →
      L_X6_quietMillimeters_5 d l0 (if am_wr ((am_wr (I b5 4 - 1)) - I b4 2) < l1 then am_wr ((am_wr (I b5 4 - 1)) - I b4 2) else l1) (am_wr (l2 + 1)) K8 N9 I10 P11 z12 Q) ∧
      (¬ (x13 = 0) →
      K8 l0 = 6 ∧ ∃ b15, P11 l0 1 = some b15 ∧ K8 b4 = 2 ∧ K8 b15 = 11 ∧ (0 ≤ I10 b4 11 ∧ I10 b4 11 < N9 b15) ∧ ∃ b18, P11 b15 (Int.toNat (I10 b4 11)) = some b18 ∧ K8 b18 = 0 ∧ am_C (d - 1) m_X2_middle [am_r b4] K8 N9 I10 P11 z12 (fun v K20 N21 I22 P23 z24 => am_iv v fun x25 =>
        ((am_wr ((am_wr (I10 b18 0 - 1)) - x25) < 0 →
        L_X6_quietMillimeters_5 d l0 (if am_wr ((am_wr (I b5 4 - 1)) - I b4 2) < l1 then am_wr ((am_wr (I b5 4 - 1)) - I b4 2) else l1) (am_wr (l2 + 1)) K20 N21 I22 P23 z24 Q) ∧
        (¬ (am_wr ((am_wr (I10 b18 0 - 1)) - x25) < 0) →
        L_X6_quietMillimeters_5 d l0 (if am_wr ((am_wr (I10 b18 0 - 1)) - x25) < (if am_wr ((am_wr (I b5 4 - 1)) - I b4 2) < l1 then am_wr ((am_wr (I b5 4 - 1)) - I b4 2) else l1) then am_wr ((am_wr (I10 b18 0 - 1)) - x25) else (if am_wr ((am_wr (I b5 4 - 1)) - I b4 2) < l1 then am_wr ((am_wr (I b5 4 - 1)) - I b4 2) else l1)) (am_wr (l2 + 1)) K20 N21 I22 P23 z24 Q))) am_nx))) am_nx))) :
  L_X6_quietMillimeters_5 d l0 l1 l2 K N I P z Q := by
  unfold L_X6_quietMillimeters_5
  refine e_iload_n dX6_quietMillimeters_5 rfl ?_
  refine e_aload_n dX6_quietMillimeters_6 rfl trivial ?_
  obtain ⟨hK1, h⟩ := h
  refine e_geti dX6_quietMillimeters_7 fk_X6_65 rfl hK1 ?_
  refine e_icmp_ge (tgt := 88) dX6_quietMillimeters_10 (by decide) (fun hc => ?_) (fun hc => ?_)
  · replace h := h.1 hc
    refine e_iload_n dX6_quietMillimeters_88 rfl ?_
    exact e_ret_i dX6_quietMillimeters_89 rfl (Nat.le_of_ble_eq_true rfl) (Nat.le_of_ble_eq_true rfl) h
  · replace h := h.2 hc
    refine e_aload_n dX6_quietMillimeters_13 rfl trivial ?_
    obtain ⟨b2, hb2, h⟩ := h
    refine e_getr1 dX6_quietMillimeters_14 fk_X6_38 rfl hK1 hb2 ?_
    refine e_iload_n dX6_quietMillimeters_17 rfl ?_
    obtain ⟨hK3, h⟩ := h
    obtain ⟨⟨h0, h1⟩, b4, hb4, h⟩ := h
    refine e_aald1 dX6_quietMillimeters_18 hK3 (by decide) h0 h1 hb4 ?_
    refine e_astore_n dX6_quietMillimeters_19 trivial ?_
    refine e_iload_n dX6_quietMillimeters_20 rfl ?_
    refine e_aload_n dX6_quietMillimeters_21 rfl trivial ?_
    obtain ⟨b5, hb5, h⟩ := h
    refine e_getr1 dX6_quietMillimeters_22 fk_X6_18 rfl hK1 hb5 ?_
    refine e_iconst dX6_quietMillimeters_25 ?_
    obtain ⟨hK6, h⟩ := h
    obtain ⟨⟨h0, h1⟩, h⟩ := h
    refine e_iald dX6_quietMillimeters_26 hK6 h0 h1 ?_
    show am_E _ _ _ _ _ _ (am_i (I b5 4) :: _) _ _ _ _ _ _ _
    refine e_iconst dX6_quietMillimeters_27 ?_
    refine e_isub dX6_quietMillimeters_28 ?_
    refine e_aload_n dX6_quietMillimeters_29 rfl trivial ?_
    obtain ⟨hK7, h⟩ := h
    refine e_geti dX6_quietMillimeters_30 fk_X6_87 rfl hK7 ?_
    refine e_isub dX6_quietMillimeters_33 ?_
    refine e_min dX6_quietMillimeters_34 mk_X6_140 ms_min mi mc_min (by omega) (Nat.le_of_ble_eq_true rfl) (Nat.le_of_ble_eq_true rfl) (Nat.le_of_ble_eq_true rfl) ?_
    refine e_istore_n dX6_quietMillimeters_37 ?_
    refine e_aload_n dX6_quietMillimeters_38 rfl trivial ?_
    refine e_aload_n dX6_quietMillimeters_39 rfl trivial ?_
    refine e_geti dX6_quietMillimeters_40 fk_X6_131 rfl hK7 ?_
    refine e_callV (Mc := m_X6_hasLane) (vs := [am_i (I b4 11)]) (st := []) dX6_quietMillimeters_43 ok_X6_hasLane rfl ⟨by decide, rfl⟩ mk_X6_124 im_X6_hasLane sl_X6_hasLane rfl rfl hK1 (by omega) (Nat.le_of_ble_eq_true rfl) (Nat.le_of_ble_eq_true rfl) (Nat.le_of_ble_eq_true rfl) am_xh_nx (am_C_mono h (fun v K8 N9 I10 P11 z12 h => ?_) (fun _ _ _ _ _ _ h => h))
    replace h := am_iv_or h
    obtain ⟨x13, rfl, h⟩ := h
    show am_E d m_X6_quietMillimeters 46 _ _ _ [am_i x13] K8 N9 I10 P11 z12 Q am_nx
    refine e_if_eq (tgt := 82) dX6_quietMillimeters_46 (by decide) (fun hc => ?_) (fun hc => ?_)
    · replace h := h.1 hc
      refine e_iinc dX6_quietMillimeters_82 rfl ?_
      refine e_goto (tgt := 5) dX6_quietMillimeters_85 (by decide) ?_
      exact e_forget (am_sub_k (am_sub_k (am_sub_k (am_sub_d (am_sub_d am_sub_nil))))) h
    · replace h := h.2 hc
      refine e_aload_n dX6_quietMillimeters_49 rfl trivial ?_
      obtain ⟨hK14, h⟩ := h
      obtain ⟨b15, hb15, h⟩ := h
      refine e_getr1 dX6_quietMillimeters_50 fk_X6_25 rfl hK14 hb15 ?_
      refine e_aload_n dX6_quietMillimeters_53 rfl trivial ?_
      obtain ⟨hK16, h⟩ := h
      refine e_geti dX6_quietMillimeters_54 fk_X6_131 rfl hK16 ?_
      obtain ⟨hK17, h⟩ := h
      obtain ⟨⟨h0, h1⟩, b18, hb18, h⟩ := h
      refine e_aald1 dX6_quietMillimeters_57 hK17 (by decide) h0 h1 hb18 ?_
      obtain ⟨hK19, h⟩ := h
      refine e_geti dX6_quietMillimeters_58 fk_X6_158 rfl hK19 ?_
      refine e_iconst dX6_quietMillimeters_61 ?_
      refine e_isub dX6_quietMillimeters_62 ?_
      refine e_aload_n dX6_quietMillimeters_63 rfl trivial ?_
      refine e_callV (Mc := m_X2_middle) (vs := []) (st := [am_i (am_wr (I10 b18 0 - 1))]) dX6_quietMillimeters_64 ok_X2_middle rfl ⟨by decide, rfl⟩ mk_X6_161 im_X2_middle sl_X2_middle rfl rfl hK16 (by omega) (Nat.le_of_ble_eq_true rfl) (Nat.le_of_ble_eq_true rfl) (Nat.le_of_ble_eq_true rfl) am_xh_nx (am_C_mono h (fun v K20 N21 I22 P23 z24 h => ?_) (fun _ _ _ _ _ _ h => h))
      replace h := am_iv_or h
      obtain ⟨x25, rfl, h⟩ := h
      show am_E d m_X6_quietMillimeters 67 _ _ _ [am_i x25, am_i (am_wr (I10 b18 0 - 1))] K20 N21 I22 P23 z24 Q am_nx
      refine e_isub dX6_quietMillimeters_67 ?_
      refine e_istore dX6_quietMillimeters_68 ?_
      refine e_iload dX6_quietMillimeters_70 rfl ?_
      refine e_if_lt (tgt := 82) dX6_quietMillimeters_72 (by decide) (fun hc => ?_) (fun hc => ?_)
      · replace h := h.1 hc
        refine e_iinc dX6_quietMillimeters_82 rfl ?_
        refine e_goto (tgt := 5) dX6_quietMillimeters_85 (by decide) ?_
        exact e_forget (am_sub_k (am_sub_k (am_sub_k (am_sub_d (am_sub_d am_sub_nil))))) h
      · replace h := h.2 hc
        refine e_iload_n dX6_quietMillimeters_75 rfl ?_
        refine e_iload dX6_quietMillimeters_76 rfl ?_
        refine e_min dX6_quietMillimeters_78 mk_X6_140 ms_min mi mc_min (by omega) (Nat.le_of_ble_eq_true rfl) (Nat.le_of_ble_eq_true rfl) (Nat.le_of_ble_eq_true rfl) ?_
        refine e_istore_n dX6_quietMillimeters_81 ?_
        refine e_iinc dX6_quietMillimeters_82 rfl ?_
        refine e_goto (tgt := 5) dX6_quietMillimeters_85 (by decide) ?_
        exact e_forget (am_sub_k (am_sub_k (am_sub_k (am_sub_d (am_sub_d am_sub_nil))))) h
def L_X6_advance_12 (d : Nat) (l0 : Nat) (l1 : Int) (l2 : Int) (K N : Nat → Nat) (I : Nat → Nat → Int) (P : Nat → Nat → Option Nat) (z : Nat) (Q : am_V → am_T) : Prop := am_E d m_X6_advance 12 0 0 [some (am_r l0), some (am_i l1), some (am_i l2)] [] K N I P z Q am_nx
set_option maxRecDepth 100000 in
set_option maxHeartbeats 4000000 in
theorem wf_X6_advance {d : Nat} {s : Nat} {a1 : Int} {K N : Nat → Nat} {I : Nat → Nat → Int} {P : Nat → Nat → Option Nat} {z : Nat} {Q : am_V → am_T} (h :
  K s = 6 ∧ ∀ I2, I2 = am_u2 I s 8 (am_wr (I s 8 + a1)) → L_X6_advance_12 d s a1 0 K N I2 P z Q) :
  am_C d m_X6_advance [am_r s, am_i a1] K N I P z Q am_nx := by
  refine am_C_of ok_X6_advance (fun v hv => am_v1all _ rfl v hv) (Nat.le_of_ble_eq_true rfl) ?_
  show am_E d m_X6_advance 0 0 0 [some (am_r s), some (am_i a1), none] [] K N I P z Q am_nx
  refine e_aload_n dX6_advance_0 rfl trivial ?_
  refine e_dup dX6_advance_1 rfl ?_
  obtain ⟨hK1, h⟩ := h
  refine e_geti dX6_advance_2 fk_X6_74 rfl hK1 ?_
  refine e_iload_n dX6_advance_5 rfl ?_
  refine e_iadd dX6_advance_6 ?_
  refine e_puti dX6_advance_7 fk_X6_74 rfl (Or.inl rfl) hK1 ?_
  replace h := h _ rfl
  generalize am_u2 I s 8 (am_wr (I s 8 + a1)) = I2 at h ⊢
  refine e_iconst dX6_advance_10 ?_
  refine e_istore_n dX6_advance_11 ?_
  exact e_forget (am_sub_k (am_sub_k (am_sub_k am_sub_nil))) h
set_option maxRecDepth 100000 in
set_option maxHeartbeats 4000000 in
theorem wf_X6_advance_12 {d : Nat} {l0 : Nat} {l1 : Int} {l2 : Int} {K N : Nat → Nat} {I : Nat → Nat → Int} {P : Nat → Nat → Option Nat} {z : Nat} {Q : am_V → am_T} (h :
  K l0 = 6 ∧ ((I l0 6 ≤ l2 →
    Q am_nl K N I P z) ∧
    (¬ (I l0 6 ≤ l2) →
    ∃ b2, P l0 5 = some b2 ∧ K b2 = 12 ∧ (0 ≤ l2 ∧ l2 < N b2) ∧ ∃ b4, P b2 (Int.toNat l2) = some b4 ∧ K b4 = 2 ∧ ∀ I6, I6 = am_u2 I b4 2 (am_wr (I b4 2 + l1)) → L_X6_advance_12 d l0 l1 (am_wr (l2 + 1)) K N I6 P z Q))) :
  L_X6_advance_12 d l0 l1 l2 K N I P z Q := by
  unfold L_X6_advance_12
  refine e_iload_n dX6_advance_12 rfl ?_
  refine e_aload_n dX6_advance_13 rfl trivial ?_
  obtain ⟨hK1, h⟩ := h
  refine e_geti dX6_advance_14 fk_X6_65 rfl hK1 ?_
  refine e_icmp_ge (tgt := 41) dX6_advance_17 (by decide) (fun hc => ?_) (fun hc => ?_)
  · replace h := h.1 hc
    exact e_ret_v dX6_advance_41 rfl (Nat.le_of_ble_eq_true rfl) (Nat.le_of_ble_eq_true rfl) h
  · replace h := h.2 hc
    refine e_aload_n dX6_advance_20 rfl trivial ?_
    obtain ⟨b2, hb2, h⟩ := h
    refine e_getr1 dX6_advance_21 fk_X6_38 rfl hK1 hb2 ?_
    refine e_iload_n dX6_advance_24 rfl ?_
    obtain ⟨hK3, h⟩ := h
    obtain ⟨⟨h0, h1⟩, b4, hb4, h⟩ := h
    refine e_aald1 dX6_advance_25 hK3 (by decide) h0 h1 hb4 ?_
    refine e_dup dX6_advance_26 rfl ?_
    obtain ⟨hK5, h⟩ := h
    refine e_geti dX6_advance_27 fk_X6_87 rfl hK5 ?_
    refine e_iload_n dX6_advance_30 rfl ?_
    refine e_iadd dX6_advance_31 ?_
    refine e_puti dX6_advance_32 fk_X6_87 rfl (Or.inl rfl) hK5 ?_
    replace h := h _ rfl
    generalize am_u2 I b4 2 (am_wr (I b4 2 + l1)) = I6 at h ⊢
    refine e_iinc dX6_advance_35 rfl ?_
    refine e_goto (tgt := 12) dX6_advance_38 (by decide) ?_
    exact e_forget (am_sub_k (am_sub_k (am_sub_k am_sub_nil))) h
def L_X6_divertParts_7 (d : Nat) (l0 : Nat) (l1 : Int) (l2 : Int) (K N : Nat → Nat) (I : Nat → Nat → Int) (P : Nat → Nat → Option Nat) (z : Nat) (Q : am_V → am_T) : Prop := am_E d m_X6_divertParts 7 0 0 [some (am_r l0), some (am_i l1), some (am_i l2)] [] K N I P z Q am_nx
set_option maxRecDepth 100000 in
set_option maxHeartbeats 4000000 in
theorem wf_X6_divertParts {d : Nat} {s : Nat} {K N : Nat → Nat} {I : Nat → Nat → Int} {P : Nat → Nat → Option Nat} {z : Nat} {Q : am_V → am_T} (h :
  K s = 6 ∧ L_X6_divertParts_7 d s 0 (I s 6) K N I P z Q) :
  am_C d m_X6_divertParts [am_r s] K N I P z Q am_nx := by
  refine am_C_of ok_X6_divertParts (fun v hv => am_v1all _ rfl v hv) (Nat.le_of_ble_eq_true rfl) ?_
  show am_E d m_X6_divertParts 0 0 0 [some (am_r s), none, none] [] K N I P z Q am_nx
  refine e_iconst dX6_divertParts_0 ?_
  refine e_istore_n dX6_divertParts_1 ?_
  refine e_aload_n dX6_divertParts_2 rfl trivial ?_
  obtain ⟨hK1, h⟩ := h
  refine e_geti dX6_divertParts_3 fk_X6_65 rfl hK1 ?_
  refine e_istore_n dX6_divertParts_6 ?_
  exact e_forget (am_sub_k (am_sub_k (am_sub_k am_sub_nil))) h
set_option maxRecDepth 100000 in
set_option maxHeartbeats 4000000 in
theorem wf_X6_divertParts_7 {d : Nat} (hd : 1 ≤ d) {l0 : Nat} {l1 : Int} {l2 : Int} {K N : Nat → Nat} {I : Nat → Nat → Int} {P : Nat → Nat → Option Nat} {z : Nat} {Q : am_V → am_T} (h :
  ((l2 ≤ 0 →
    Q am_nl K N I P z) ∧
    (¬ (l2 ≤ 0) →
    K l0 = 6 ∧ am_C (d - 1) m_X6_diverts [am_r l0, am_i l1] K N I P z (fun v K1 N2 I3 P4 z5 => am_iv v fun x7 =>
      ((x7 = 0 →
      L_X6_divertParts_7 d l0 (am_wr (l1 + 1)) (am_wr (l2 + (-1))) K1 N2 I3 P4 z5 Q) ∧
      (¬ (x7 = 0) →
      K1 l0 = 6 ∧ ∃ b9, P4 l0 5 = some b9 ∧ K1 b9 = 12 ∧ (0 ≤ l1 ∧ l1 < N2 b9) ∧ ∃ b11, P4 b9 (Int.toNat l1) = some b11 ∧ K1 b11 = 2 ∧ am_C (d - 1) m_X6_leave [am_r l0, am_i l1, am_i (am_wr (10 + I3 b11 11))] K1 N2 I3 P4 z5 (fun _ K13 N14 I15 P16 z17 =>
        L_X6_divertParts_7 d l0 l1 (am_wr (l2 + (-1))) K13 N14 I15 P16 z17 Q) am_nx))) am_nx))) :
  L_X6_divertParts_7 d l0 l1 l2 K N I P z Q := by
  unfold L_X6_divertParts_7
  refine e_iload_n dX6_divertParts_7 rfl ?_
  refine e_if_le (tgt := 48) dX6_divertParts_8 (by decide) (fun hc => ?_) (fun hc => ?_)
  · replace h := h.1 hc
    exact e_ret_v dX6_divertParts_48 rfl (Nat.le_of_ble_eq_true rfl) (Nat.le_of_ble_eq_true rfl) h
  · replace h := h.2 hc
    refine e_aload_n dX6_divertParts_11 rfl trivial ?_
    refine e_iload_n dX6_divertParts_12 rfl ?_
    obtain ⟨hK6, h⟩ := h
    refine e_callV (Mc := m_X6_diverts) (vs := [am_i l1]) (st := []) dX6_divertParts_13 ok_X6_diverts rfl ⟨by decide, rfl⟩ mk_X6_164 im_X6_diverts sl_X6_diverts rfl rfl hK6 (by omega) (Nat.le_of_ble_eq_true rfl) (Nat.le_of_ble_eq_true rfl) (Nat.le_of_ble_eq_true rfl) am_xh_nx (am_C_mono h (fun v K1 N2 I3 P4 z5 h => ?_) (fun _ _ _ _ _ _ h => h))
    replace h := am_iv_or h
    obtain ⟨x7, rfl, h⟩ := h
    show am_E d m_X6_divertParts 16 _ _ _ [am_i x7] K1 N2 I3 P4 z5 Q am_nx
    refine e_if_eq (tgt := 39) dX6_divertParts_16 (by decide) (fun hc => ?_) (fun hc => ?_)
    · replace h := h.1 hc
      refine e_iinc dX6_divertParts_39 rfl ?_
      refine e_iinc dX6_divertParts_42 rfl ?_
      refine e_goto (tgt := 7) dX6_divertParts_45 (by decide) ?_
      exact e_forget (am_sub_k (am_sub_k (am_sub_k am_sub_nil))) h
    · replace h := h.2 hc
      refine e_aload_n dX6_divertParts_19 rfl trivial ?_
      refine e_iload_n dX6_divertParts_20 rfl ?_
      refine e_bipush dX6_divertParts_21 ?_
      refine e_aload_n dX6_divertParts_23 rfl trivial ?_
      obtain ⟨hK8, h⟩ := h
      obtain ⟨b9, hb9, h⟩ := h
      refine e_getr1 dX6_divertParts_24 fk_X6_38 rfl hK8 hb9 ?_
      refine e_iload_n dX6_divertParts_27 rfl ?_
      obtain ⟨hK10, h⟩ := h
      obtain ⟨⟨h0, h1⟩, b11, hb11, h⟩ := h
      refine e_aald1 dX6_divertParts_28 hK10 (by decide) h0 h1 hb11 ?_
      obtain ⟨hK12, h⟩ := h
      refine e_geti dX6_divertParts_29 fk_X6_131 rfl hK12 ?_
      refine e_iadd dX6_divertParts_32 ?_
      refine e_callV (Mc := m_X6_leave) (vs := [am_i l1, am_i (am_wr (10 + I3 b11 11))]) (st := []) dX6_divertParts_33 ok_X6_leave rfl ⟨by decide, rfl⟩ mk_X6_167 im_X6_leave sl_X6_leave rfl rfl hK8 (by omega) (Nat.le_of_ble_eq_true rfl) (Nat.le_of_ble_eq_true rfl) (Nat.le_of_ble_eq_true rfl) am_xh_nx (am_C_mono h (fun v K13 N14 I15 P16 z17 h => ?_) (fun _ _ _ _ _ _ h => h))
      show am_E d m_X6_divertParts 36 _ _ _ [] K13 N14 I15 P16 z17 Q am_nx
      refine e_goto (tgt := 42) dX6_divertParts_36 (by decide) ?_
      refine e_iinc dX6_divertParts_42 rfl ?_
      refine e_goto (tgt := 7) dX6_divertParts_45 (by decide) ?_
      exact e_forget (am_sub_k (am_sub_k (am_sub_k am_sub_nil))) h
set_option maxRecDepth 100000 in
set_option maxHeartbeats 4000000 in
theorem wf_X6_diverts {d : Nat} (hd : 1 ≤ d) {s : Nat} {a1 : Int} {K N : Nat → Nat} {I : Nat → Nat → Int} {P : Nat → Nat → Option Nat} {z : Nat} {Q : am_V → am_T} (h :
  K s = 6 ∧ ∃ b2, P s 5 = some b2 ∧ K b2 = 12 ∧ (0 ≤ a1 ∧ a1 < N b2) ∧ ∃ b4, P b2 (Int.toNat a1) = some b4 ∧ K b4 = 2 ∧ am_C (d - 1) m_X6_hasLane [am_r s, am_i (I b4 11)] K N I P z (fun v K6 N7 I8 P9 z10 => am_iv v fun x11 =>
    ((¬ x11 = 0 →
    K6 s = 6 ∧ ∃ b13, P9 s 1 = some b13 ∧ K6 b4 = 2 ∧ K6 b13 = 11 ∧ (0 ≤ I8 b4 11 ∧ I8 b4 11 < N7 b13) ∧ ∃ b16, P9 b13 (Int.toNat (I8 b4 11)) = some b16 ∧ am_C (d - 1) m_X2_middle [am_r b4] K6 N7 I8 P9 z10 (fun v K17 N18 I19 P20 z21 => am_iv v fun x22 =>
      K17 b16 = 0 ∧ am_C (d - 1) m_X0_covers [am_r b16, am_i x22] K17 N18 I19 P20 z21 (fun v K23 N24 I25 P26 z27 => am_iv v fun x29 =>
      ((¬ x29 = 0 →
      K23 s = 6 ∧ am_C (d - 1) m_X6_hasGaps [am_r s, am_i a1] K23 N24 I25 P26 z27 (fun v K30 N31 I32 P33 z34 => am_iv v fun x36 =>
        ((¬ x36 = 0 →
        K30 b16 = 0 ∧ am_C (d - 1) m_X0_takes [am_r b16] K30 N31 I32 P33 z34 (fun v K37 N38 I39 P40 z41 => am_iv v fun x43 =>
          ((¬ x43 = 0 →
          Q (am_i 1) K37 N38 I39 P40 z41) ∧
          (x43 = 0 →
          K37 b4 = 2 ∧ ∀ I45, I45 = am_u2 I39 b4 9 6 → Q (am_i 0) K37 N38 I45 P40 z41))) am_nx) ∧
        (x36 = 0 →
        K30 b4 = 2 ∧ ∀ I47, I47 = am_u2 I32 b4 9 5 → Q (am_i 0) K30 N31 I47 P33 z34))) am_nx) ∧
      (x29 = 0 →
      Q (am_i 0) K23 N24 I25 P26 z27))) am_nx) am_nx) ∧
    (x11 = 0 →
    Q (am_i 0) K6 N7 I8 P9 z10))) am_nx) :
  am_C d m_X6_diverts [am_r s, am_i a1] K N I P z Q am_nx := by
  refine am_C_of ok_X6_diverts (fun v hv => am_v1all _ rfl v hv) (Nat.le_of_ble_eq_true rfl) ?_
  show am_E d m_X6_diverts 0 0 0 [some (am_r s), some (am_i a1), none, none] [] K N I P z Q am_nx
  refine e_aload_n dX6_diverts_0 rfl trivial ?_
  obtain ⟨hK1, h⟩ := h
  obtain ⟨b2, hb2, h⟩ := h
  refine e_getr1 dX6_diverts_1 fk_X6_38 rfl hK1 hb2 ?_
  refine e_iload_n dX6_diverts_4 rfl ?_
  obtain ⟨hK3, h⟩ := h
  obtain ⟨⟨h0, h1⟩, b4, hb4, h⟩ := h
  refine e_aald1 dX6_diverts_5 hK3 (by decide) h0 h1 hb4 ?_
  refine e_astore_n dX6_diverts_6 trivial ?_
  refine e_aload_n dX6_diverts_7 rfl trivial ?_
  refine e_aload_n dX6_diverts_8 rfl trivial ?_
  obtain ⟨hK5, h⟩ := h
  refine e_geti dX6_diverts_9 fk_X6_131 rfl hK5 ?_
  refine e_callV (Mc := m_X6_hasLane) (vs := [am_i (I b4 11)]) (st := []) dX6_diverts_12 ok_X6_hasLane rfl ⟨by decide, rfl⟩ mk_X6_124 im_X6_hasLane sl_X6_hasLane rfl rfl hK1 (by omega) (Nat.le_of_ble_eq_true rfl) (Nat.le_of_ble_eq_true rfl) (Nat.le_of_ble_eq_true rfl) am_xh_nx (am_C_mono h (fun v K6 N7 I8 P9 z10 h => ?_) (fun _ _ _ _ _ _ h => h))
  replace h := am_iv_or h
  obtain ⟨x11, rfl, h⟩ := h
  show am_E d m_X6_diverts 15 _ _ _ [am_i x11] K6 N7 I8 P9 z10 Q am_nx
  refine e_if_ne (tgt := 20) dX6_diverts_15 (by decide) (fun hc => ?_) (fun hc => ?_)
  · replace h := h.1 hc
    refine e_aload_n dX6_diverts_20 rfl trivial ?_
    obtain ⟨hK12, h⟩ := h
    obtain ⟨b13, hb13, h⟩ := h
    refine e_getr1 dX6_diverts_21 fk_X6_25 rfl hK12 hb13 ?_
    refine e_aload_n dX6_diverts_24 rfl trivial ?_
    obtain ⟨hK14, h⟩ := h
    refine e_geti dX6_diverts_25 fk_X6_131 rfl hK14 ?_
    obtain ⟨hK15, h⟩ := h
    obtain ⟨⟨h0, h1⟩, b16, hb16, h⟩ := h
    refine e_aald1 dX6_diverts_28 hK15 (by decide) h0 h1 hb16 ?_
    refine e_astore_n dX6_diverts_29 trivial ?_
    refine e_aload_n dX6_diverts_30 rfl trivial ?_
    refine e_aload_n dX6_diverts_31 rfl trivial ?_
    refine e_callV (Mc := m_X2_middle) (vs := []) (st := [am_r b16]) dX6_diverts_32 ok_X2_middle rfl ⟨by decide, rfl⟩ mk_X6_161 im_X2_middle sl_X2_middle rfl rfl hK14 (by omega) (Nat.le_of_ble_eq_true rfl) (Nat.le_of_ble_eq_true rfl) (Nat.le_of_ble_eq_true rfl) am_xh_nx (am_C_mono h (fun v K17 N18 I19 P20 z21 h => ?_) (fun _ _ _ _ _ _ h => h))
    replace h := am_iv_or h
    obtain ⟨x22, rfl, h⟩ := h
    show am_E d m_X6_diverts 35 _ _ _ [am_i x22, am_r b16] K17 N18 I19 P20 z21 Q am_nx
    obtain ⟨hK28, h⟩ := h
    refine e_callV (Mc := m_X0_covers) (vs := [am_i x22]) (st := []) dX6_diverts_35 ok_X0_covers rfl ⟨by decide, rfl⟩ mk_X6_170 im_X0_covers sl_X0_covers rfl rfl hK28 (by omega) (Nat.le_of_ble_eq_true rfl) (Nat.le_of_ble_eq_true rfl) (Nat.le_of_ble_eq_true rfl) am_xh_nx (am_C_mono h (fun v K23 N24 I25 P26 z27 h => ?_) (fun _ _ _ _ _ _ h => h))
    replace h := am_iv_or h
    obtain ⟨x29, rfl, h⟩ := h
    show am_E d m_X6_diverts 38 _ _ _ [am_i x29] K23 N24 I25 P26 z27 Q am_nx
    refine e_if_ne (tgt := 43) dX6_diverts_38 (by decide) (fun hc => ?_) (fun hc => ?_)
    · replace h := h.1 hc
      refine e_aload_n dX6_diverts_43 rfl trivial ?_
      refine e_iload_n dX6_diverts_44 rfl ?_
      obtain ⟨hK35, h⟩ := h
      refine e_callV (Mc := m_X6_hasGaps) (vs := [am_i a1]) (st := []) dX6_diverts_45 ok_X6_hasGaps rfl ⟨by decide, rfl⟩ mk_X6_173 im_X6_hasGaps sl_X6_hasGaps rfl rfl hK35 (by omega) (Nat.le_of_ble_eq_true rfl) (Nat.le_of_ble_eq_true rfl) (Nat.le_of_ble_eq_true rfl) am_xh_nx (am_C_mono h (fun v K30 N31 I32 P33 z34 h => ?_) (fun _ _ _ _ _ _ h => h))
      replace h := am_iv_or h
      obtain ⟨x36, rfl, h⟩ := h
      show am_E d m_X6_diverts 48 _ _ _ [am_i x36] K30 N31 I32 P33 z34 Q am_nx
      refine e_if_ne (tgt := 58) dX6_diverts_48 (by decide) (fun hc => ?_) (fun hc => ?_)
      · replace h := h.1 hc
        refine e_aload_n dX6_diverts_58 rfl trivial ?_
        obtain ⟨hK42, h⟩ := h
        refine e_callV (Mc := m_X0_takes) (vs := []) (st := []) dX6_diverts_59 ok_X0_takes rfl ⟨by decide, rfl⟩ mk_X6_179 im_X0_takes sl_X0_takes rfl rfl hK42 (by omega) (Nat.le_of_ble_eq_true rfl) (Nat.le_of_ble_eq_true rfl) (Nat.le_of_ble_eq_true rfl) am_xh_nx (am_C_mono h (fun v K37 N38 I39 P40 z41 h => ?_) (fun _ _ _ _ _ _ h => h))
        replace h := am_iv_or h
        obtain ⟨x43, rfl, h⟩ := h
        show am_E d m_X6_diverts 62 _ _ _ [am_i x43] K37 N38 I39 P40 z41 Q am_nx
        refine e_if_ne (tgt := 73) dX6_diverts_62 (by decide) (fun hc => ?_) (fun hc => ?_)
        · replace h := h.1 hc
          refine e_iconst dX6_diverts_73 ?_
          exact e_ret_z dX6_diverts_74 rfl (by decide) (Nat.le_of_ble_eq_true rfl) (Nat.le_of_ble_eq_true rfl) h
        · replace h := h.2 hc
          refine e_aload_n dX6_diverts_65 rfl trivial ?_
          refine e_bipush dX6_diverts_66 ?_
          obtain ⟨hK44, h⟩ := h
          refine e_puti dX6_diverts_68 fk_X6_176 rfl (Or.inl rfl) hK44 ?_
          replace h := h _ rfl
          generalize am_u2 I39 b4 9 6 = I45 at h ⊢
          refine e_iconst dX6_diverts_71 ?_
          exact e_ret_z dX6_diverts_72 rfl (by decide) (Nat.le_of_ble_eq_true rfl) (Nat.le_of_ble_eq_true rfl) h
      · replace h := h.2 hc
        refine e_aload_n dX6_diverts_51 rfl trivial ?_
        refine e_iconst dX6_diverts_52 ?_
        obtain ⟨hK46, h⟩ := h
        refine e_puti dX6_diverts_53 fk_X6_176 rfl (Or.inl rfl) hK46 ?_
        replace h := h _ rfl
        generalize am_u2 I32 b4 9 5 = I47 at h ⊢
        refine e_iconst dX6_diverts_56 ?_
        exact e_ret_z dX6_diverts_57 rfl (by decide) (Nat.le_of_ble_eq_true rfl) (Nat.le_of_ble_eq_true rfl) h
    · replace h := h.2 hc
      refine e_iconst dX6_diverts_41 ?_
      exact e_ret_z dX6_diverts_42 rfl (by decide) (Nat.le_of_ble_eq_true rfl) (Nat.le_of_ble_eq_true rfl) h
  · replace h := h.2 hc
    refine e_iconst dX6_diverts_18 ?_
    exact e_ret_z dX6_diverts_19 rfl (by decide) (Nat.le_of_ble_eq_true rfl) (Nat.le_of_ble_eq_true rfl) h
set_option maxRecDepth 100000 in
set_option maxHeartbeats 4000000 in
theorem wf_X6_hasGaps {d : Nat} (hd : 1 ≤ d) {s : Nat} {a1 : Int} {K N : Nat → Nat} {I : Nat → Nat → Int} {P : Nat → Nat → Option Nat} {z : Nat} {Q : am_V → am_T} (h :
  ((a1 ≤ 0 →
    K s = 6 ∧ ((I s 6 ≤ am_wr (a1 + 1) →
      Q (am_i 1) K N I P z) ∧
      (¬ (I s 6 ≤ am_wr (a1 + 1)) →
      am_C (d - 1) m_X6_gapBetween [am_r s, am_i a1, am_i (am_wr (a1 + 1))] K N I P z (fun v K2 N3 I4 P5 z6 => am_iv v fun x7 =>
        K2 s = 6 ∧ ∃ b9, P5 s 0 = some b9 ∧ K2 b9 = 10 ∧ (0 ≤ (3 : Int) ∧ (3 : Int) < N3 b9) ∧ ((x7 < I4 b9 3 →
        Q (am_i 0) K2 N3 I4 P5 z6) ∧
        (¬ (x7 < I4 b9 3) →
        Q (am_i 1) K2 N3 I4 P5 z6))) am_nx))) ∧
    (¬ (a1 ≤ 0) →
    K s = 6 ∧ am_C (d - 1) m_X6_gapBetween [am_r s, am_i (am_wr (a1 - 1)), am_i a1] K N I P z (fun v K11 N12 I13 P14 z15 => am_iv v fun x17 =>
      K11 s = 6 ∧ ∃ b19, P14 s 0 = some b19 ∧ K11 b19 = 10 ∧ (0 ≤ (3 : Int) ∧ (3 : Int) < N12 b19) ∧ ((I13 b19 3 ≤ x17 →
      ((I13 s 6 ≤ am_wr (a1 + 1) →
        Q (am_i 1) K11 N12 I13 P14 z15) ∧
        (¬ (I13 s 6 ≤ am_wr (a1 + 1)) →
        am_C (d - 1) m_X6_gapBetween [am_r s, am_i a1, am_i (am_wr (a1 + 1))] K11 N12 I13 P14 z15 (fun v K21 N22 I23 P24 z25 => am_iv v fun x26 =>
          K21 s = 6 ∧ ∃ b28, P24 s 0 = some b28 ∧ K21 b28 = 10 ∧ (0 ≤ (3 : Int) ∧ (3 : Int) < N22 b28) ∧ ((x26 < I23 b28 3 →
          Q (am_i 0) K21 N22 I23 P24 z25) ∧
          (¬ (x26 < I23 b28 3) →
          Q (am_i 1) K21 N22 I23 P24 z25))) am_nx))) ∧
      (¬ (I13 b19 3 ≤ x17) →
      Q (am_i 0) K11 N12 I13 P14 z15))) am_nx))) :
  am_C d m_X6_hasGaps [am_r s, am_i a1] K N I P z Q am_nx := by
  refine am_C_of ok_X6_hasGaps (fun v hv => am_v1all _ rfl v hv) (Nat.le_of_ble_eq_true rfl) ?_
  show am_E d m_X6_hasGaps 0 0 0 [some (am_r s), some (am_i a1)] [] K N I P z Q am_nx
  refine e_iload_n dX6_hasGaps_0 rfl ?_
  refine e_if_le (tgt := 23) dX6_hasGaps_1 (by decide) (fun hc => ?_) (fun hc => ?_)
  · replace h := h.1 hc
    refine e_iload_n dX6_hasGaps_23 rfl ?_
    refine e_iconst dX6_hasGaps_24 ?_
    refine e_iadd dX6_hasGaps_25 ?_
    refine e_aload_n dX6_hasGaps_26 rfl trivial ?_
    obtain ⟨hK1, h⟩ := h
    refine e_geti dX6_hasGaps_27 fk_X6_65 rfl hK1 ?_
    refine e_icmp_ge (tgt := 50) dX6_hasGaps_30 (by decide) (fun hc => ?_) (fun hc => ?_)
    · replace h := h.1 hc
      refine e_iconst dX6_hasGaps_50 ?_
      refine e_goto (tgt := 55) dX6_hasGaps_51 (by decide) ?_
      exact e_ret_z dX6_hasGaps_55 rfl (by decide) (Nat.le_of_ble_eq_true rfl) (Nat.le_of_ble_eq_true rfl) h
    · replace h := h.2 hc
      refine e_aload_n dX6_hasGaps_33 rfl trivial ?_
      refine e_iload_n dX6_hasGaps_34 rfl ?_
      refine e_iload_n dX6_hasGaps_35 rfl ?_
      refine e_iconst dX6_hasGaps_36 ?_
      refine e_iadd dX6_hasGaps_37 ?_
      refine e_callV (Mc := m_X6_gapBetween) (vs := [am_i a1, am_i (am_wr (a1 + 1))]) (st := []) dX6_hasGaps_38 ok_X6_gapBetween rfl ⟨by decide, rfl⟩ mk_X6_183 im_X6_gapBetween sl_X6_gapBetween rfl rfl hK1 (by omega) (Nat.le_of_ble_eq_true rfl) (Nat.le_of_ble_eq_true rfl) (Nat.le_of_ble_eq_true rfl) am_xh_nx (am_C_mono h (fun v K2 N3 I4 P5 z6 h => ?_) (fun _ _ _ _ _ _ h => h))
      replace h := am_iv_or h
      obtain ⟨x7, rfl, h⟩ := h
      show am_E d m_X6_hasGaps 41 _ _ _ [am_i x7] K2 N3 I4 P5 z6 Q am_nx
      refine e_aload_n dX6_hasGaps_41 rfl trivial ?_
      obtain ⟨hK8, h⟩ := h
      obtain ⟨b9, hb9, h⟩ := h
      refine e_getr1 dX6_hasGaps_42 fk_X6_18 rfl hK8 hb9 ?_
      refine e_iconst dX6_hasGaps_45 ?_
      obtain ⟨hK10, h⟩ := h
      obtain ⟨⟨h0, h1⟩, h⟩ := h
      refine e_iald dX6_hasGaps_46 hK10 h0 h1 ?_
      show am_E _ _ _ _ _ _ (am_i (I4 b9 3) :: _) _ _ _ _ _ _ _
      refine e_icmp_lt (tgt := 54) dX6_hasGaps_47 (by decide) (fun hc => ?_) (fun hc => ?_)
      · replace h := h.1 hc
        refine e_iconst dX6_hasGaps_54 ?_
        exact e_ret_z dX6_hasGaps_55 rfl (by decide) (Nat.le_of_ble_eq_true rfl) (Nat.le_of_ble_eq_true rfl) h
      · replace h := h.2 hc
        refine e_iconst dX6_hasGaps_50 ?_
        refine e_goto (tgt := 55) dX6_hasGaps_51 (by decide) ?_
        exact e_ret_z dX6_hasGaps_55 rfl (by decide) (Nat.le_of_ble_eq_true rfl) (Nat.le_of_ble_eq_true rfl) h
  · replace h := h.2 hc
    refine e_aload_n dX6_hasGaps_4 rfl trivial ?_
    refine e_iload_n dX6_hasGaps_5 rfl ?_
    refine e_iconst dX6_hasGaps_6 ?_
    refine e_isub dX6_hasGaps_7 ?_
    refine e_iload_n dX6_hasGaps_8 rfl ?_
    obtain ⟨hK16, h⟩ := h
    refine e_callV (Mc := m_X6_gapBetween) (vs := [am_i (am_wr (a1 - 1)), am_i a1]) (st := []) dX6_hasGaps_9 ok_X6_gapBetween rfl ⟨by decide, rfl⟩ mk_X6_183 im_X6_gapBetween sl_X6_gapBetween rfl rfl hK16 (by omega) (Nat.le_of_ble_eq_true rfl) (Nat.le_of_ble_eq_true rfl) (Nat.le_of_ble_eq_true rfl) am_xh_nx (am_C_mono h (fun v K11 N12 I13 P14 z15 h => ?_) (fun _ _ _ _ _ _ h => h))
    replace h := am_iv_or h
    obtain ⟨x17, rfl, h⟩ := h
    show am_E d m_X6_hasGaps 12 _ _ _ [am_i x17] K11 N12 I13 P14 z15 Q am_nx
    refine e_aload_n dX6_hasGaps_12 rfl trivial ?_
    obtain ⟨hK18, h⟩ := h
    obtain ⟨b19, hb19, h⟩ := h
    refine e_getr1 dX6_hasGaps_13 fk_X6_18 rfl hK18 hb19 ?_
    refine e_iconst dX6_hasGaps_16 ?_
    obtain ⟨hK20, h⟩ := h
    obtain ⟨⟨h0, h1⟩, h⟩ := h
    refine e_iald dX6_hasGaps_17 hK20 h0 h1 ?_
    show am_E _ _ _ _ _ _ (am_i (I13 b19 3) :: _) _ _ _ _ _ _ _
    refine e_icmp_ge (tgt := 23) dX6_hasGaps_18 (by decide) (fun hc => ?_) (fun hc => ?_)
    · replace h := h.1 hc
      refine e_iload_n dX6_hasGaps_23 rfl ?_
      refine e_iconst dX6_hasGaps_24 ?_
      refine e_iadd dX6_hasGaps_25 ?_
      refine e_aload_n dX6_hasGaps_26 rfl trivial ?_
      refine e_geti dX6_hasGaps_27 fk_X6_65 rfl hK18 ?_
      refine e_icmp_ge (tgt := 50) dX6_hasGaps_30 (by decide) (fun hc => ?_) (fun hc => ?_)
      · replace h := h.1 hc
        refine e_iconst dX6_hasGaps_50 ?_
        refine e_goto (tgt := 55) dX6_hasGaps_51 (by decide) ?_
        exact e_ret_z dX6_hasGaps_55 rfl (by decide) (Nat.le_of_ble_eq_true rfl) (Nat.le_of_ble_eq_true rfl) h
      · replace h := h.2 hc
        refine e_aload_n dX6_hasGaps_33 rfl trivial ?_
        refine e_iload_n dX6_hasGaps_34 rfl ?_
        refine e_iload_n dX6_hasGaps_35 rfl ?_
        refine e_iconst dX6_hasGaps_36 ?_
        refine e_iadd dX6_hasGaps_37 ?_
        refine e_callV (Mc := m_X6_gapBetween) (vs := [am_i a1, am_i (am_wr (a1 + 1))]) (st := []) dX6_hasGaps_38 ok_X6_gapBetween rfl ⟨by decide, rfl⟩ mk_X6_183 im_X6_gapBetween sl_X6_gapBetween rfl rfl hK18 (by omega) (Nat.le_of_ble_eq_true rfl) (Nat.le_of_ble_eq_true rfl) (Nat.le_of_ble_eq_true rfl) am_xh_nx (am_C_mono h (fun v K21 N22 I23 P24 z25 h => ?_) (fun _ _ _ _ _ _ h => h))
        replace h := am_iv_or h
        obtain ⟨x26, rfl, h⟩ := h
        show am_E d m_X6_hasGaps 41 _ _ _ [am_i x26] K21 N22 I23 P24 z25 Q am_nx
        refine e_aload_n dX6_hasGaps_41 rfl trivial ?_
        obtain ⟨hK27, h⟩ := h
        obtain ⟨b28, hb28, h⟩ := h
        refine e_getr1 dX6_hasGaps_42 fk_X6_18 rfl hK27 hb28 ?_
        refine e_iconst dX6_hasGaps_45 ?_
        obtain ⟨hK29, h⟩ := h
        obtain ⟨⟨h0, h1⟩, h⟩ := h
        refine e_iald dX6_hasGaps_46 hK29 h0 h1 ?_
        show am_E _ _ _ _ _ _ (am_i (I23 b28 3) :: _) _ _ _ _ _ _ _
        refine e_icmp_lt (tgt := 54) dX6_hasGaps_47 (by decide) (fun hc => ?_) (fun hc => ?_)
        · replace h := h.1 hc
          refine e_iconst dX6_hasGaps_54 ?_
          exact e_ret_z dX6_hasGaps_55 rfl (by decide) (Nat.le_of_ble_eq_true rfl) (Nat.le_of_ble_eq_true rfl) h
        · replace h := h.2 hc
          refine e_iconst dX6_hasGaps_50 ?_
          refine e_goto (tgt := 55) dX6_hasGaps_51 (by decide) ?_
          exact e_ret_z dX6_hasGaps_55 rfl (by decide) (Nat.le_of_ble_eq_true rfl) (Nat.le_of_ble_eq_true rfl) h
    · replace h := h.2 hc
      refine e_iconst dX6_hasGaps_21 ?_
      exact e_ret_z dX6_hasGaps_22 rfl (by decide) (Nat.le_of_ble_eq_true rfl) (Nat.le_of_ble_eq_true rfl) h
def L_X6_loseParts_5 (d : Nat) (l0 : Nat) (l1 : Int) (K N : Nat → Nat) (I : Nat → Nat → Int) (P : Nat → Nat → Option Nat) (z : Nat) (Q : am_V → am_T) : Prop := am_E d m_X6_loseParts 5 0 0 [some (am_r l0), some (am_i l1)] [] K N I P z Q am_nx
set_option maxRecDepth 100000 in
set_option maxHeartbeats 4000000 in
theorem wf_X6_loseParts {d : Nat} {s : Nat} {K N : Nat → Nat} {I : Nat → Nat → Int} {P : Nat → Nat → Option Nat} {z : Nat} {Q : am_V → am_T} (h :
  K s = 6 ∧ L_X6_loseParts_5 d s (I s 6) K N I P z Q) :
  am_C d m_X6_loseParts [am_r s] K N I P z Q am_nx := by
  refine am_C_of ok_X6_loseParts (fun v hv => am_v1all _ rfl v hv) (Nat.le_of_ble_eq_true rfl) ?_
  show am_E d m_X6_loseParts 0 0 0 [some (am_r s), none] [] K N I P z Q am_nx
  refine e_aload_n dX6_loseParts_0 rfl trivial ?_
  obtain ⟨hK1, h⟩ := h
  refine e_geti dX6_loseParts_1 fk_X6_65 rfl hK1 ?_
  refine e_istore_n dX6_loseParts_4 ?_
  exact e_forget (am_sub_k (am_sub_k am_sub_nil)) h
set_option maxRecDepth 100000 in
set_option maxHeartbeats 4000000 in
theorem wf_X6_loseParts_5 {d : Nat} (hd : 1 ≤ d) {l0 : Nat} {l1 : Int} {K N : Nat → Nat} {I : Nat → Nat → Int} {P : Nat → Nat → Option Nat} {z : Nat} {Q : am_V → am_T} (h :
  ((l1 ≤ 0 →
    Q am_nl K N I P z) ∧
    (¬ (l1 ≤ 0) →
    K l0 = 6 ∧ ∃ b2, P l0 5 = some b2 ∧ K b2 = 12 ∧ (0 ≤ (0 : Int) ∧ (0 : Int) < N b2) ∧ ∃ b4, P b2 0 = some b4 ∧ K b4 = 2 ∧ ∃ b6, P l0 0 = some b6 ∧ K b6 = 10 ∧ (0 ≤ (4 : Int) ∧ (4 : Int) < N b6) ∧ ((I b4 2 < I b6 4 →
      Q am_nl K N I P z) ∧
      (¬ (I b4 2 < I b6 4) →
      (0 ≤ (0 : Int) ∧ (0 : Int) < N b2) ∧ ∃ b8, P b2 0 = some b8 ∧ K b8 = 2 ∧ am_C (d - 1) m_X2_reason [am_r b8] K N I P z (fun v K9 N10 I11 P12 z13 => am_iv v fun x15 =>
        K9 l0 = 6 ∧ am_C (d - 1) m_X6_leave [am_r l0, am_i 0, am_i x15] K9 N10 I11 P12 z13 (fun _ K16 N17 I18 P19 z20 =>
        L_X6_loseParts_5 d l0 (am_wr (l1 + (-1))) K16 N17 I18 P19 z20 Q) am_nx) am_nx))))) :
  L_X6_loseParts_5 d l0 l1 K N I P z Q := by
  unfold L_X6_loseParts_5
  refine e_iload_n dX6_loseParts_5 rfl ?_
  refine e_if_le (tgt := 47) dX6_loseParts_6 (by decide) (fun hc => ?_) (fun hc => ?_)
  · replace h := h.1 hc
    exact e_ret_v dX6_loseParts_47 rfl (Nat.le_of_ble_eq_true rfl) (Nat.le_of_ble_eq_true rfl) h
  · replace h := h.2 hc
    refine e_aload_n dX6_loseParts_9 rfl trivial ?_
    obtain ⟨hK1, h⟩ := h
    obtain ⟨b2, hb2, h⟩ := h
    refine e_getr1 dX6_loseParts_10 fk_X6_38 rfl hK1 hb2 ?_
    refine e_iconst dX6_loseParts_13 ?_
    obtain ⟨hK3, h⟩ := h
    obtain ⟨⟨h0, h1⟩, b4, hb4, h⟩ := h
    refine e_aald1 dX6_loseParts_14 hK3 (by decide) h0 h1 hb4 ?_
    obtain ⟨hK5, h⟩ := h
    refine e_geti dX6_loseParts_15 fk_X6_87 rfl hK5 ?_
    refine e_aload_n dX6_loseParts_18 rfl trivial ?_
    obtain ⟨b6, hb6, h⟩ := h
    refine e_getr1 dX6_loseParts_19 fk_X6_18 rfl hK1 hb6 ?_
    refine e_iconst dX6_loseParts_22 ?_
    obtain ⟨hK7, h⟩ := h
    obtain ⟨⟨h0, h1⟩, h⟩ := h
    refine e_iald dX6_loseParts_23 hK7 h0 h1 ?_
    show am_E _ _ _ _ _ _ (am_i (I b6 4) :: _) _ _ _ _ _ _ _
    refine e_icmp_lt (tgt := 47) dX6_loseParts_24 (by decide) (fun hc => ?_) (fun hc => ?_)
    · replace h := h.1 hc
      exact e_ret_v dX6_loseParts_47 rfl (Nat.le_of_ble_eq_true rfl) (Nat.le_of_ble_eq_true rfl) h
    · replace h := h.2 hc
      refine e_aload_n dX6_loseParts_27 rfl trivial ?_
      refine e_iconst dX6_loseParts_28 ?_
      refine e_aload_n dX6_loseParts_29 rfl trivial ?_
      refine e_getr1 dX6_loseParts_30 fk_X6_38 rfl hK1 hb2 ?_
      refine e_iconst dX6_loseParts_33 ?_
      obtain ⟨⟨h0, h1⟩, b8, hb8, h⟩ := h
      refine e_aald1 dX6_loseParts_34 hK3 (by decide) h0 h1 hb8 ?_
      obtain ⟨hK14, h⟩ := h
      refine e_callV (Mc := m_X2_reason) (vs := []) (st := [am_i 0, am_r l0]) dX6_loseParts_35 ok_X2_reason rfl ⟨by decide, rfl⟩ mk_X6_186 im_X2_reason sl_X2_reason rfl rfl hK14 (by omega) (Nat.le_of_ble_eq_true rfl) (Nat.le_of_ble_eq_true rfl) (Nat.le_of_ble_eq_true rfl) am_xh_nx (am_C_mono h (fun v K9 N10 I11 P12 z13 h => ?_) (fun _ _ _ _ _ _ h => h))
      replace h := am_iv_or h
      obtain ⟨x15, rfl, h⟩ := h
      show am_E d m_X6_loseParts 38 _ _ _ [am_i x15, am_i 0, am_r l0] K9 N10 I11 P12 z13 Q am_nx
      obtain ⟨hK21, h⟩ := h
      refine e_callV (Mc := m_X6_leave) (vs := [am_i 0, am_i x15]) (st := []) dX6_loseParts_38 ok_X6_leave rfl ⟨by decide, rfl⟩ mk_X6_167 im_X6_leave sl_X6_leave rfl rfl hK21 (by omega) (Nat.le_of_ble_eq_true rfl) (Nat.le_of_ble_eq_true rfl) (Nat.le_of_ble_eq_true rfl) am_xh_nx (am_C_mono h (fun v K16 N17 I18 P19 z20 h => ?_) (fun _ _ _ _ _ _ h => h))
      show am_E d m_X6_loseParts 41 _ _ _ [] K16 N17 I18 P19 z20 Q am_nx
      refine e_iinc dX6_loseParts_41 rfl ?_
      refine e_goto (tgt := 5) dX6_loseParts_44 (by decide) ?_
      exact e_forget (am_sub_k (am_sub_k am_sub_nil)) h
def L_X6_leave_38 (d : Nat) (l0 : Nat) (l3 : Nat) (l4 : Int) (K N : Nat → Nat) (I : Nat → Nat → Int) (P : Nat → Nat → Option Nat) (z : Nat) (Q : am_V → am_T) : Prop := am_E d m_X6_leave 38 0 0 [some (am_r l0), none, none, some (am_r l3), some (am_i l4)] [] K N I P z Q am_nx
set_option maxRecDepth 100000 in
set_option maxHeartbeats 4000000 in
theorem wf_X6_leave {d : Nat} {s : Nat} {a1 : Int} {a2 : Int} {K N : Nat → Nat} {I : Nat → Nat → Int} {P : Nat → Nat → Option Nat} {z : Nat} {Q : am_V → am_T} (h :
  ((a1 < 0 →
    Q am_nl K N I P z) ∧
    (¬ (a1 < 0) →
    K s = 6 ∧ ((a1 < I s 6 →
      ∃ b2, P s 5 = some b2 ∧ K b2 = 12 ∧ (0 ≤ a1 ∧ a1 < N b2) ∧ ∃ b4, P b2 (Int.toNat a1) = some b4 ∧ K b4 = 2 ∧ ∀ I6, I6 = am_u2 I b4 3 a2 → ∀ I7, I7 = am_u2 I6 s 6 (am_wr (I6 s 6 - 1)) → L_X6_leave_38 d s b4 a1 K N I7 P z Q) ∧
      (¬ (a1 < I s 6) →
      Q am_nl K N I P z))))) :
  am_C d m_X6_leave [am_r s, am_i a1, am_i a2] K N I P z Q am_nx := by
  refine am_C_of ok_X6_leave (fun v hv => am_v1all _ rfl v hv) (Nat.le_of_ble_eq_true rfl) ?_
  show am_E d m_X6_leave 0 0 0 [some (am_r s), some (am_i a1), some (am_i a2), none, none] [] K N I P z Q am_nx
  refine e_iload_n dX6_leave_0 rfl ?_
  refine e_if_lt (tgt := 12) dX6_leave_1 (by decide) (fun hc => ?_) (fun hc => ?_)
  · replace h := h.1 hc
    exact e_ret_v dX6_leave_12 rfl (Nat.le_of_ble_eq_true rfl) (Nat.le_of_ble_eq_true rfl) h
  · replace h := h.2 hc
    refine e_iload_n dX6_leave_4 rfl ?_
    refine e_aload_n dX6_leave_5 rfl trivial ?_
    obtain ⟨hK1, h⟩ := h
    refine e_geti dX6_leave_6 fk_X6_65 rfl hK1 ?_
    refine e_icmp_lt (tgt := 13) dX6_leave_9 (by decide) (fun hc => ?_) (fun hc => ?_)
    · replace h := h.1 hc
      refine e_aload_n dX6_leave_13 rfl trivial ?_
      obtain ⟨b2, hb2, h⟩ := h
      refine e_getr1 dX6_leave_14 fk_X6_38 rfl hK1 hb2 ?_
      refine e_iload_n dX6_leave_17 rfl ?_
      obtain ⟨hK3, h⟩ := h
      obtain ⟨⟨h0, h1⟩, b4, hb4, h⟩ := h
      refine e_aald1 dX6_leave_18 hK3 (by decide) h0 h1 hb4 ?_
      refine e_astore_n dX6_leave_19 trivial ?_
      refine e_aload_n dX6_leave_20 rfl trivial ?_
      refine e_iload_n dX6_leave_21 rfl ?_
      obtain ⟨hK5, h⟩ := h
      refine e_puti dX6_leave_22 fk_X6_189 rfl (Or.inl rfl) hK5 ?_
      replace h := h _ rfl
      generalize am_u2 I b4 3 a2 = I6 at h ⊢
      refine e_aload_n dX6_leave_25 rfl trivial ?_
      refine e_dup dX6_leave_26 rfl ?_
      refine e_geti dX6_leave_27 fk_X6_65 rfl hK1 ?_
      refine e_iconst dX6_leave_30 ?_
      refine e_isub dX6_leave_31 ?_
      refine e_puti dX6_leave_32 fk_X6_65 rfl (Or.inl rfl) hK1 ?_
      replace h := h _ rfl
      generalize am_u2 I6 s 6 (am_wr (I6 s 6 - 1)) = I7 at h ⊢
      refine e_iload_n dX6_leave_35 rfl ?_
      refine e_istore dX6_leave_36 ?_
      exact e_forget (am_sub_k (am_sub_d (am_sub_d (am_sub_k (am_sub_k am_sub_nil))))) h
    · replace h := h.2 hc
      exact e_ret_v dX6_leave_12 rfl (Nat.le_of_ble_eq_true rfl) (Nat.le_of_ble_eq_true rfl) h
set_option maxRecDepth 100000 in
set_option maxHeartbeats 4000000 in
theorem wf_X6_leave_38 {d : Nat} {l0 : Nat} {l3 : Nat} {l4 : Int} {K N : Nat → Nat} {I : Nat → Nat → Int} {P : Nat → Nat → Option Nat} {z : Nat} {Q : am_V → am_T} (h :
  K l0 = 6 ∧ ((I l0 6 ≤ l4 →
    ∃ b2, P l0 5 = some b2 ∧ K b2 = 12 ∧ (0 ≤ I l0 6 ∧ I l0 6 < N b2) ∧ K l3 = 2 ∧ ∀ P5, P5 = am_p2 P b2 (Int.toNat (I l0 6)) (some l3) → Q am_nl K N I P5 z) ∧
    (¬ (I l0 6 ≤ l4) →
    ∃ b6, P l0 5 = some b6 ∧ K b6 = 12 ∧ (0 ≤ am_wr (l4 + 1) ∧ am_wr (l4 + 1) < N b6) ∧ ∃ b8, P b6 (Int.toNat (am_wr (l4 + 1))) = some b8 ∧ (0 ≤ l4 ∧ l4 < N b6) ∧ K b8 = 2 ∧ ∀ P10, P10 = am_p2 P b6 (Int.toNat l4) (some b8) → L_X6_leave_38 d l0 l3 (am_wr (l4 + 1)) K N I P10 z Q))) :
  L_X6_leave_38 d l0 l3 l4 K N I P z Q := by
  unfold L_X6_leave_38
  refine e_iload dX6_leave_38 rfl ?_
  refine e_aload_n dX6_leave_40 rfl trivial ?_
  obtain ⟨hK1, h⟩ := h
  refine e_geti dX6_leave_41 fk_X6_65 rfl hK1 ?_
  refine e_icmp_ge (tgt := 69) dX6_leave_44 (by decide) (fun hc => ?_) (fun hc => ?_)
  · replace h := h.1 hc
    refine e_aload_n dX6_leave_69 rfl trivial ?_
    obtain ⟨b2, hb2, h⟩ := h
    refine e_getr1 dX6_leave_70 fk_X6_38 rfl hK1 hb2 ?_
    refine e_aload_n dX6_leave_73 rfl trivial ?_
    refine e_geti dX6_leave_74 fk_X6_65 rfl hK1 ?_
    refine e_aload_n dX6_leave_77 rfl trivial ?_
    obtain ⟨hK3, h⟩ := h
    obtain ⟨⟨h0, h1⟩, h⟩ := h
    obtain ⟨hK4, h⟩ := h
    refine e_aast dX6_leave_78 hK3 (Or.inr (Or.inl ⟨rfl, hK4⟩)) h0 h1 ?_
    replace h := h _ rfl
    generalize am_p2 P b2 (Int.toNat (I l0 6)) (some l3) = P5 at h ⊢
    exact e_ret_v dX6_leave_79 rfl (Nat.le_of_ble_eq_true rfl) (Nat.le_of_ble_eq_true rfl) h
  · replace h := h.2 hc
    refine e_aload_n dX6_leave_47 rfl trivial ?_
    obtain ⟨b6, hb6, h⟩ := h
    refine e_getr1 dX6_leave_48 fk_X6_38 rfl hK1 hb6 ?_
    refine e_iload dX6_leave_51 rfl ?_
    refine e_aload_n dX6_leave_53 rfl trivial ?_
    refine e_getr1 dX6_leave_54 fk_X6_38 rfl hK1 hb6 ?_
    refine e_iload dX6_leave_57 rfl ?_
    refine e_iconst dX6_leave_59 ?_
    refine e_iadd dX6_leave_60 ?_
    obtain ⟨hK7, h⟩ := h
    obtain ⟨⟨h0, h1⟩, b8, hb8, h⟩ := h
    refine e_aald1 dX6_leave_61 hK7 (by decide) h0 h1 hb8 ?_
    obtain ⟨⟨h0, h1⟩, h⟩ := h
    obtain ⟨hK9, h⟩ := h
    refine e_aast dX6_leave_62 hK7 (Or.inr (Or.inl ⟨rfl, hK9⟩)) h0 h1 ?_
    replace h := h _ rfl
    generalize am_p2 P b6 (Int.toNat l4) (some b8) = P10 at h ⊢
    refine e_iinc dX6_leave_63 rfl ?_
    refine e_goto (tgt := 38) dX6_leave_66 (by decide) ?_
    exact e_forget (am_sub_k (am_sub_d (am_sub_d (am_sub_k (am_sub_k am_sub_nil))))) h
def L_X6_rankOf_11 (d : Nat) (l0 : Nat) (l1 : Int) (l2 : Int) (l3 : Int) (l4 : Int) (K N : Nat → Nat) (I : Nat → Nat → Int) (P : Nat → Nat → Option Nat) (z : Nat) (Q : am_V → am_T) : Prop := am_E d m_X6_rankOf 11 0 0 [some (am_r l0), some (am_i l1), some (am_i l2), some (am_i l3), some (am_i l4), none] [] K N I P z Q am_nx
set_option maxRecDepth 100000 in
set_option maxHeartbeats 4000000 in
theorem wf_X6_rankOf {d : Nat} (hd : 1 ≤ d) {s : Nat} {a1 : Int} {K N : Nat → Nat} {I : Nat → Nat → Int} {P : Nat → Nat → Option Nat} {z : Nat} {Q : am_V → am_T} (h :
  K s = 6 ∧ am_C (d - 1) m_X6_distanceToLane [am_r s, am_i a1] K N I P z (fun v K1 N2 I3 P4 z5 => am_iv v fun x7 =>
    L_X6_rankOf_11 d s a1 0 x7 0 K1 N2 I3 P4 z5 Q) am_nx) :
  am_C d m_X6_rankOf [am_r s, am_i a1] K N I P z Q am_nx := by
  refine am_C_of ok_X6_rankOf (fun v hv => am_v1all _ rfl v hv) (Nat.le_of_ble_eq_true rfl) ?_
  show am_E d m_X6_rankOf 0 0 0 [some (am_r s), some (am_i a1), none, none, none, none] [] K N I P z Q am_nx
  refine e_iconst dX6_rankOf_0 ?_
  refine e_istore_n dX6_rankOf_1 ?_
  refine e_aload_n dX6_rankOf_2 rfl trivial ?_
  refine e_iload_n dX6_rankOf_3 rfl ?_
  obtain ⟨hK6, h⟩ := h
  refine e_callV (Mc := m_X6_distanceToLane) (vs := [am_i a1]) (st := []) dX6_rankOf_4 ok_X6_distanceToLane rfl ⟨by decide, rfl⟩ mk_X6_192 im_X6_distanceToLane sl_X6_distanceToLane rfl rfl hK6 (by omega) (Nat.le_of_ble_eq_true rfl) (Nat.le_of_ble_eq_true rfl) (Nat.le_of_ble_eq_true rfl) am_xh_nx (am_C_mono h (fun v K1 N2 I3 P4 z5 h => ?_) (fun _ _ _ _ _ _ h => h))
  replace h := am_iv_or h
  obtain ⟨x7, rfl, h⟩ := h
  show am_E d m_X6_rankOf 7 _ _ _ [am_i x7] K1 N2 I3 P4 z5 Q am_nx
  refine e_istore_n dX6_rankOf_7 ?_
  refine e_iconst dX6_rankOf_8 ?_
  refine e_istore dX6_rankOf_9 ?_
  exact e_forget (am_sub_k (am_sub_k (am_sub_k (am_sub_k (am_sub_k (am_sub_d am_sub_nil)))))) h
set_option maxRecDepth 100000 in
set_option maxHeartbeats 4000000 in
theorem wf_X6_rankOf_11 {d : Nat} (hd : 1 ≤ d) {l0 : Nat} {l1 : Int} {l2 : Int} {l3 : Int} {l4 : Int} {K N : Nat → Nat} {I : Nat → Nat → Int} {P : Nat → Nat → Option Nat} {z : Nat} {Q : am_V → am_T} (h :
  K l0 = 6 ∧ ((I l0 6 ≤ l4 →
    Q (am_i l2) K N I P z) ∧
    (¬ (I l0 6 ≤ l4) →
    am_C (d - 1) m_X6_distanceToLane [am_r l0, am_i l4] K N I P z (fun v K2 N3 I4 P5 z6 => am_iv v fun x7 =>
      ((x7 < l3 →
      L_X6_rankOf_11 d l0 l1 (am_wr (l2 + 1)) l3 (am_wr (l4 + 1)) K2 N3 I4 P5 z6 Q) ∧
      (¬ (x7 < l3) →
      ((¬ x7 = l3 →
        L_X6_rankOf_11 d l0 l1 l2 l3 (am_wr (l4 + 1)) K2 N3 I4 P5 z6 Q) ∧
        (x7 = l3 →
        ((l1 ≤ l4 →
          L_X6_rankOf_11 d l0 l1 l2 l3 (am_wr (l4 + 1)) K2 N3 I4 P5 z6 Q) ∧
          (¬ (l1 ≤ l4) →
          L_X6_rankOf_11 d l0 l1 (am_wr (l2 + 1)) l3 (am_wr (l4 + 1)) K2 N3 I4 P5 z6 Q))))))) am_nx))) :
  L_X6_rankOf_11 d l0 l1 l2 l3 l4 K N I P z Q := by
  unfold L_X6_rankOf_11
  refine e_iload dX6_rankOf_11 rfl ?_
  refine e_aload_n dX6_rankOf_13 rfl trivial ?_
  obtain ⟨hK1, h⟩ := h
  refine e_geti dX6_rankOf_14 fk_X6_65 rfl hK1 ?_
  refine e_icmp_ge (tgt := 55) dX6_rankOf_17 (by decide) (fun hc => ?_) (fun hc => ?_)
  · replace h := h.1 hc
    refine e_iload_n dX6_rankOf_55 rfl ?_
    exact e_ret_i dX6_rankOf_56 rfl (Nat.le_of_ble_eq_true rfl) (Nat.le_of_ble_eq_true rfl) h
  · replace h := h.2 hc
    refine e_aload_n dX6_rankOf_20 rfl trivial ?_
    refine e_iload dX6_rankOf_21 rfl ?_
    refine e_callV (Mc := m_X6_distanceToLane) (vs := [am_i l4]) (st := []) dX6_rankOf_23 ok_X6_distanceToLane rfl ⟨by decide, rfl⟩ mk_X6_192 im_X6_distanceToLane sl_X6_distanceToLane rfl rfl hK1 (by omega) (Nat.le_of_ble_eq_true rfl) (Nat.le_of_ble_eq_true rfl) (Nat.le_of_ble_eq_true rfl) am_xh_nx (am_C_mono h (fun v K2 N3 I4 P5 z6 h => ?_) (fun _ _ _ _ _ _ h => h))
    replace h := am_iv_or h
    obtain ⟨x7, rfl, h⟩ := h
    show am_E d m_X6_rankOf 26 _ _ _ [am_i x7] K2 N3 I4 P5 z6 Q am_nx
    refine e_istore dX6_rankOf_26 ?_
    refine e_iload dX6_rankOf_28 rfl ?_
    refine e_iload_n dX6_rankOf_30 rfl ?_
    refine e_icmp_lt (tgt := 46) dX6_rankOf_31 (by decide) (fun hc => ?_) (fun hc => ?_)
    · replace h := h.1 hc
      refine e_iinc dX6_rankOf_46 rfl ?_
      refine e_iinc dX6_rankOf_49 rfl ?_
      refine e_goto (tgt := 11) dX6_rankOf_52 (by decide) ?_
      exact e_forget (am_sub_k (am_sub_k (am_sub_k (am_sub_k (am_sub_k (am_sub_d am_sub_nil)))))) h
    · replace h := h.2 hc
      refine e_iload dX6_rankOf_34 rfl ?_
      refine e_iload_n dX6_rankOf_36 rfl ?_
      refine e_icmp_ne (tgt := 49) dX6_rankOf_37 (by decide) (fun hc => ?_) (fun hc => ?_)
      · replace h := h.1 hc
        refine e_iinc dX6_rankOf_49 rfl ?_
        refine e_goto (tgt := 11) dX6_rankOf_52 (by decide) ?_
        exact e_forget (am_sub_k (am_sub_k (am_sub_k (am_sub_k (am_sub_k (am_sub_d am_sub_nil)))))) h
      · replace h := h.2 hc
        refine e_iload dX6_rankOf_40 rfl ?_
        refine e_iload_n dX6_rankOf_42 rfl ?_
        refine e_icmp_ge (tgt := 49) dX6_rankOf_43 (by decide) (fun hc => ?_) (fun hc => ?_)
        · replace h := h.1 hc
          refine e_iinc dX6_rankOf_49 rfl ?_
          refine e_goto (tgt := 11) dX6_rankOf_52 (by decide) ?_
          exact e_forget (am_sub_k (am_sub_k (am_sub_k (am_sub_k (am_sub_k (am_sub_d am_sub_nil)))))) h
        · replace h := h.2 hc
          refine e_iinc dX6_rankOf_46 rfl ?_
          refine e_iinc dX6_rankOf_49 rfl ?_
          refine e_goto (tgt := 11) dX6_rankOf_52 (by decide) ?_
          exact e_forget (am_sub_k (am_sub_k (am_sub_k (am_sub_k (am_sub_k (am_sub_d am_sub_nil)))))) h
set_option maxRecDepth 100000 in
set_option maxHeartbeats 4000000 in
theorem wf_X6_distanceToLane {d : Nat} (hd : 1 ≤ d) {s : Nat} {a1 : Int} {K N : Nat → Nat} {I : Nat → Nat → Int} {P : Nat → Nat → Option Nat} {z : Nat} {Q : am_V → am_T} (h :
  K s = 6 ∧ ∃ b2, P s 5 = some b2 ∧ K b2 = 12 ∧ (0 ≤ a1 ∧ a1 < N b2) ∧ ∃ b4, P b2 (Int.toNat a1) = some b4 ∧ K b4 = 2 ∧ am_C (d - 1) m_X6_hasLane [am_r s, am_i (I b4 11)] K N I P z (fun v K6 N7 I8 P9 z10 => am_iv v fun x11 =>
    ((x11 = 0 →
    Q (am_i 1000000) K6 N7 I8 P9 z10) ∧
    (¬ (x11 = 0) →
    K6 s = 6 ∧ ∃ b13, P9 s 1 = some b13 ∧ K6 b4 = 2 ∧ K6 b13 = 11 ∧ (0 ≤ I8 b4 11 ∧ I8 b4 11 < N7 b13) ∧ ∃ b16, P9 b13 (Int.toNat (I8 b4 11)) = some b16 ∧ K6 b16 = 0 ∧ am_C (d - 1) m_X2_middle [am_r b4] K6 N7 I8 P9 z10 (fun v K18 N19 I20 P21 z22 => am_iv v fun x23 =>
      Q (am_i (am_wr (I8 b16 0 - x23))) K18 N19 I20 P21 z22) am_nx))) am_nx) :
  am_C d m_X6_distanceToLane [am_r s, am_i a1] K N I P z Q am_nx := by
  refine am_C_of ok_X6_distanceToLane (fun v hv => am_v1all _ rfl v hv) (Nat.le_of_ble_eq_true rfl) ?_
  show am_E d m_X6_distanceToLane 0 0 0 [some (am_r s), some (am_i a1), none] [] K N I P z Q am_nx
  refine e_aload_n dX6_distanceToLane_0 rfl trivial ?_
  obtain ⟨hK1, h⟩ := h
  obtain ⟨b2, hb2, h⟩ := h
  refine e_getr1 dX6_distanceToLane_1 fk_X6_38 rfl hK1 hb2 ?_
  refine e_iload_n dX6_distanceToLane_4 rfl ?_
  obtain ⟨hK3, h⟩ := h
  obtain ⟨⟨h0, h1⟩, b4, hb4, h⟩ := h
  refine e_aald1 dX6_distanceToLane_5 hK3 (by decide) h0 h1 hb4 ?_
  refine e_astore_n dX6_distanceToLane_6 trivial ?_
  refine e_aload_n dX6_distanceToLane_7 rfl trivial ?_
  refine e_aload_n dX6_distanceToLane_8 rfl trivial ?_
  obtain ⟨hK5, h⟩ := h
  refine e_geti dX6_distanceToLane_9 fk_X6_131 rfl hK5 ?_
  refine e_callV (Mc := m_X6_hasLane) (vs := [am_i (I b4 11)]) (st := []) dX6_distanceToLane_12 ok_X6_hasLane rfl ⟨by decide, rfl⟩ mk_X6_124 im_X6_hasLane sl_X6_hasLane rfl rfl hK1 (by omega) (Nat.le_of_ble_eq_true rfl) (Nat.le_of_ble_eq_true rfl) (Nat.le_of_ble_eq_true rfl) am_xh_nx (am_C_mono h (fun v K6 N7 I8 P9 z10 h => ?_) (fun _ _ _ _ _ _ h => h))
  replace h := am_iv_or h
  obtain ⟨x11, rfl, h⟩ := h
  show am_E d m_X6_distanceToLane 15 _ _ _ [am_i x11] K6 N7 I8 P9 z10 Q am_nx
  refine e_if_eq (tgt := 38) dX6_distanceToLane_15 (by decide) (fun hc => ?_) (fun hc => ?_)
  · replace h := h.1 hc
    refine e_ldc dX6_distanceToLane_38 lc_X6_90 ?_
    exact e_ret_i dX6_distanceToLane_40 rfl (Nat.le_of_ble_eq_true rfl) (Nat.le_of_ble_eq_true rfl) h
  · replace h := h.2 hc
    refine e_aload_n dX6_distanceToLane_18 rfl trivial ?_
    obtain ⟨hK12, h⟩ := h
    obtain ⟨b13, hb13, h⟩ := h
    refine e_getr1 dX6_distanceToLane_19 fk_X6_25 rfl hK12 hb13 ?_
    refine e_aload_n dX6_distanceToLane_22 rfl trivial ?_
    obtain ⟨hK14, h⟩ := h
    refine e_geti dX6_distanceToLane_23 fk_X6_131 rfl hK14 ?_
    obtain ⟨hK15, h⟩ := h
    obtain ⟨⟨h0, h1⟩, b16, hb16, h⟩ := h
    refine e_aald1 dX6_distanceToLane_26 hK15 (by decide) h0 h1 hb16 ?_
    obtain ⟨hK17, h⟩ := h
    refine e_geti dX6_distanceToLane_27 fk_X6_158 rfl hK17 ?_
    refine e_aload_n dX6_distanceToLane_30 rfl trivial ?_
    refine e_callV (Mc := m_X2_middle) (vs := []) (st := [am_i (I8 b16 0)]) dX6_distanceToLane_31 ok_X2_middle rfl ⟨by decide, rfl⟩ mk_X6_161 im_X2_middle sl_X2_middle rfl rfl hK14 (by omega) (Nat.le_of_ble_eq_true rfl) (Nat.le_of_ble_eq_true rfl) (Nat.le_of_ble_eq_true rfl) am_xh_nx (am_C_mono h (fun v K18 N19 I20 P21 z22 h => ?_) (fun _ _ _ _ _ _ h => h))
    replace h := am_iv_or h
    obtain ⟨x23, rfl, h⟩ := h
    show am_E d m_X6_distanceToLane 34 _ _ _ [am_i x23, am_i (I8 b16 0)] K18 N19 I20 P21 z22 Q am_nx
    refine e_isub dX6_distanceToLane_34 ?_
    refine e_goto (tgt := 40) dX6_distanceToLane_35 (by decide) ?_
    exact e_ret_i dX6_distanceToLane_40 rfl (Nat.le_of_ble_eq_true rfl) (Nat.le_of_ble_eq_true rfl) h
def L_X7_init_85 (d : Nat) (k n : Nat) (l0 : Nat) (l1 : Nat) (l2 : Int) (K N : Nat → Nat) (I : Nat → Nat → Int) (P : Nat → Nat → Option Nat) (z : Nat) (Q : am_V → am_T) : Prop := am_E d m_X7_init 85 k n [some (am_r l0), some (am_r l1), some (am_i l2)] [] K N I P z Q am_nx
set_option maxRecDepth 100000 in
set_option maxHeartbeats 4000000 in
theorem wf_X7_init {d : Nat} (hd : 1 ≤ d) {s : Nat} {K N : Nat → Nat} {I : Nat → Nat → Int} {P : Nat → Nat → Option Nat} {z : Nat} {Q : am_V → am_T} (h :
  (0 + 1 ≤ 279 ∧ 0 + 6 ≤ 6750) ∧ ∀ K1 N2 b3 z4, K1 = am_u1 K (z + 4) 13 → N2 = am_u1 N (z + 4) (Int.toNat 6) → b3 = z + 4 → z4 = z + 1 → K1 s = 7 ∧ ∀ P7, P7 = am_p2 P s 2 (some b3) → (0 + 1 + 1 ≤ 279 ∧ 0 + 6 + 1 ≤ 6750) ∧ ∀ K8 N9 b10 z11, K8 = am_u1 K1 (z4 + 4) 1 → N9 = am_u1 N2 (z4 + 4) 0 → b10 = z4 + 4 → z11 = z4 + 1 → (0 + 1 + 1 + 1 ≤ 279 ∧ 0 + 6 + 1 + 3000 ≤ 6750) ∧ am_C (d - 1) m_X1_init [am_r b10] K8 N9 I P7 z11 (fun _ K13 N14 I15 P16 z17 =>
    K13 s = 7 ∧ ∀ P19, P19 = am_p2 P16 s 4 (some b10) → (0 + 1 + 1 + 1 + 1 ≤ 279 ∧ 0 + 6 + 1 + 3000 + 3 ≤ 6750) ∧ ∀ K20 N21 b22 z23, K20 = am_u1 K13 (z17 + 4) 5 → N21 = am_u1 N14 (z17 + 4) 0 → b22 = z17 + 4 → z23 = z17 + 1 → (0 + 1 + 1 + 1 + 1 + 1 ≤ 279 ∧ 0 + 6 + 1 + 3000 + 3 + 80 ≤ 6750) ∧ am_C (d - 1) m_X5_init [am_r b22] K20 N21 I15 P19 z23 (fun _ K25 N26 I27 P28 z29 =>
    K25 s = 7 ∧ ∀ P31, P31 = am_p2 P28 s 5 (some b22) → (0 + 1 + 1 + 1 + 1 + 1 + 1 ≤ 279 ∧ 0 + 6 + 1 + 3000 + 3 + 80 + 6 ≤ 6750) ∧ ∀ K32 N33 b34 z35, K32 = am_u1 K25 (z29 + 4) 4 → N33 = am_u1 N26 (z29 + 4) 0 → b34 = z29 + 4 → z35 = z29 + 1 → (0 + 1 + 1 + 1 + 1 + 1 + 1 + 4 ≤ 279 ∧ 0 + 6 + 1 + 3000 + 3 + 80 + 6 + 320 ≤ 6750) ∧ am_C (d - 1) m_X4_init [am_r b34] K32 N33 I27 P31 z35 (fun _ K37 N38 I39 P40 z41 =>
    K37 s = 7 ∧ ∀ P43, P43 = am_p2 P40 s 6 (some b34) → (0 + 1 + 1 + 1 + 1 + 1 + 1 + 4 + 1 ≤ 279 ∧ 0 + 6 + 1 + 3000 + 3 + 80 + 6 + 320 + 6 ≤ 6750) ∧ ∀ K44 N45 b46 z47, K44 = am_u1 K37 (z41 + 4) 4 → N45 = am_u1 N38 (z41 + 4) 0 → b46 = z41 + 4 → z47 = z41 + 1 → (0 + 1 + 1 + 1 + 1 + 1 + 1 + 4 + 1 + 4 ≤ 279 ∧ 0 + 6 + 1 + 3000 + 3 + 80 + 6 + 320 + 6 + 320 ≤ 6750) ∧ am_C (d - 1) m_X4_init [am_r b46] K44 N45 I39 P43 z47 (fun _ K49 N50 I51 P52 z53 =>
    (0 + 1 + 1 + 1 + 1 + 1 + 1 + 4 + 1 + 4 + 0 ≤ 279 ∧ 0 + 6 + 1 + 3000 + 3 + 80 + 6 + 320 + 6 + 320 + 0 ≤ 6750) ∧ K49 b46 = 4 ∧ am_C (d - 1) m_X4_addLeaf [am_r b46, am_i (-1)] K49 N50 I51 P52 z53 (fun _ K54 N55 I56 P57 z58 =>
    (0 + 1 + 1 + 1 + 1 + 1 + 1 + 4 + 1 + 4 + 1 ≤ 279 ∧ 0 + 6 + 1 + 3000 + 3 + 80 + 6 + 320 + 6 + 320 + 11 ≤ 6750) ∧ ∀ K60 N61 b62 z63, K60 = am_u1 K54 (z58 + 4) 6 → N61 = am_u1 N55 (z58 + 4) 0 → b62 = z58 + 4 → z63 = z58 + 1 → (0 + 1 + 1 + 1 + 1 + 1 + 1 + 4 + 1 + 4 + 1 + 32 ≤ 279 ∧ 0 + 6 + 1 + 3000 + 3 + 80 + 6 + 320 + 6 + 320 + 11 + 365 ≤ 6750) ∧ am_C (d - 1) m_X6_init [am_r b62, am_r b46] K60 N61 I56 P57 z63 (fun _ K65 N66 I67 P68 z69 =>
    K65 s = 7 ∧ ∀ P71, P71 = am_p2 P68 s 0 (some b62) → (0 + 1 + 1 + 1 + 1 + 1 + 1 + 4 + 1 + 4 + 1 + 32 + 1 ≤ 279 ∧ 0 + 6 + 1 + 3000 + 3 + 80 + 6 + 320 + 6 + 320 + 11 + 365 + 11 ≤ 6750) ∧ ∀ K72 N73 b74 z75, K72 = am_u1 K65 (z69 + 4) 6 → N73 = am_u1 N66 (z69 + 4) 0 → b74 = z69 + 4 → z75 = z69 + 1 → (0 + 1 + 1 + 1 + 1 + 1 + 1 + 4 + 1 + 4 + 1 + 32 + 1 + 32 ≤ 279 ∧ 0 + 6 + 1 + 3000 + 3 + 80 + 6 + 320 + 6 + 320 + 11 + 365 + 11 + 365 ≤ 6750) ∧ am_C (d - 1) m_X6_init [am_r b74, am_r b46] K72 N73 I67 P71 z75 (fun _ K77 N78 I79 P80 z81 =>
    K77 s = 7 ∧ ∀ P83, P83 = am_p2 P80 s 1 (some b74) → L_X7_init_85 d (0 + 1 + 1 + 1 + 1 + 1 + 1 + 4 + 1 + 4 + 1 + 32 + 1 + 32) (0 + 6 + 1 + 3000 + 3 + 80 + 6 + 320 + 6 + 320 + 11 + 365 + 11 + 365) s b46 0 K77 N78 I79 P83 z81 Q) am_nx) am_nx) am_nx) am_nx) am_nx) am_nx) am_nx) :
  am_C d m_X7_init [am_r s] K N I P z Q am_nx := by
  refine am_C_of ok_X7_init (fun v hv => am_v1all _ rfl v hv) (Nat.le_of_ble_eq_true rfl) ?_
  show am_E d m_X7_init 0 0 0 [some (am_r s), none, none] [] K N I P z Q am_nx
  refine e_aload_n dX7_init_0 rfl trivial ?_
  refine e_oinit dX7_init_1 mk_X7_1 oi oc (by omega) (Nat.le_of_ble_eq_true rfl) ?_
  refine e_aload_n dX7_init_4 rfl trivial ?_
  refine e_bipush dX7_init_5 ?_
  obtain ⟨⟨hk9, hn9⟩, h⟩ := h
  refine e_newq dX7_init_7 (Or.inr (Or.inr ⟨rfl, rfl⟩)) qk_X7_9 (by decide) (by decide) hk9 hn9 ?_
  replace h := h _ _ _ _ rfl rfl rfl rfl
  have hK5 : (am_u1 K (z + 4) 13) (z + 4) = 13 := by simp [am_u1]
  generalize eK1 : am_u1 K (z + 4) 13 = K1 at h hK5 ⊢
  generalize eN2 : am_u1 N (z + 4) (Int.toNat 6) = N2 at h ⊢
  generalize eb3 : z + 4 = b3 at h hK5 ⊢
  generalize ez4 : z + 1 = z4 at h ⊢
  obtain ⟨hK6, h⟩ := h
  refine e_putrF1 dX7_init_10 fk_X7_11 rfl rfl rfl rfl hK6 ?_
  replace h := h _ rfl
  generalize am_p2 P s 2 (some b3) = P7 at h ⊢
  refine e_aload_n dX7_init_13 rfl trivial ?_
  obtain ⟨⟨hk9, hn9⟩, h⟩ := h
  refine e_new (cc := 1) dX7_init_14 (by decide) ck_X7_15 in_1 ii_1 hk9 hn9 ?_
  replace h := h _ _ _ _ rfl rfl rfl rfl
  have hK12 : (am_u1 K1 (z4 + 4) 1) (z4 + 4) = 1 := by simp [am_u1]
  generalize eK8 : am_u1 K1 (z4 + 4) 1 = K8 at h hK12 ⊢
  generalize eN9 : am_u1 N2 (z4 + 4) 0 = N9 at h ⊢
  generalize eb10 : z4 + 4 = b10 at h hK12 ⊢
  generalize ez11 : z4 + 1 = z11 at h ⊢
  refine e_dup dX7_init_17 rfl ?_
  obtain ⟨⟨hk9, hn9⟩, h⟩ := h
  refine e_callIN (host := "PickScanner") (Mc := m_X1_init) (vs := []) (st := [am_r b10, am_r s]) dX7_init_18 ok_X1_init rfl rfl (by decide) im_X1_init rfl rfl rfl (by omega) (Nat.le_of_ble_eq_true rfl) hk9 hn9 am_xh_nx (am_C_mono h (fun v K13 N14 I15 P16 z17 h => ?_) (fun _ _ _ _ _ _ h => h))
  show am_E d m_X7_init 21 (0 + 1 + 1 + 1) (0 + 6 + 1 + 3000) _ [am_r b10, am_r s] K13 N14 I15 P16 z17 Q am_nx
  obtain ⟨hK18, h⟩ := h
  refine e_putrF1 dX7_init_21 fk_X7_18 rfl rfl rfl rfl hK18 ?_
  replace h := h _ rfl
  generalize am_p2 P16 s 4 (some b10) = P19 at h ⊢
  refine e_aload_n dX7_init_24 rfl trivial ?_
  obtain ⟨⟨hk9, hn9⟩, h⟩ := h
  refine e_new (cc := 5) dX7_init_25 (by decide) ck_X7_22 in_5 ii_5 hk9 hn9 ?_
  replace h := h _ _ _ _ rfl rfl rfl rfl
  have hK24 : (am_u1 K13 (z17 + 4) 5) (z17 + 4) = 5 := by simp [am_u1]
  generalize eK20 : am_u1 K13 (z17 + 4) 5 = K20 at h hK24 ⊢
  generalize eN21 : am_u1 N14 (z17 + 4) 0 = N21 at h ⊢
  generalize eb22 : z17 + 4 = b22 at h hK24 ⊢
  generalize ez23 : z17 + 1 = z23 at h ⊢
  refine e_dup dX7_init_28 rfl ?_
  obtain ⟨⟨hk9, hn9⟩, h⟩ := h
  refine e_callIN (host := "PickScanner") (Mc := m_X5_init) (vs := []) (st := [am_r b22, am_r s]) dX7_init_29 ok_X5_init rfl rfl (by decide) im_X5_init rfl rfl rfl (by omega) (Nat.le_of_ble_eq_true rfl) hk9 hn9 am_xh_nx (am_C_mono h (fun v K25 N26 I27 P28 z29 h => ?_) (fun _ _ _ _ _ _ h => h))
  show am_E d m_X7_init 32 (0 + 1 + 1 + 1 + 1 + 1) (0 + 6 + 1 + 3000 + 3 + 80) _ [am_r b22, am_r s] K25 N26 I27 P28 z29 Q am_nx
  obtain ⟨hK30, h⟩ := h
  refine e_putrF1 dX7_init_32 fk_X7_25 rfl rfl rfl rfl hK30 ?_
  replace h := h _ rfl
  generalize am_p2 P28 s 5 (some b22) = P31 at h ⊢
  refine e_aload_n dX7_init_35 rfl trivial ?_
  obtain ⟨⟨hk9, hn9⟩, h⟩ := h
  refine e_new (cc := 4) dX7_init_36 (by decide) ck_X7_29 in_4 ii_4 hk9 hn9 ?_
  replace h := h _ _ _ _ rfl rfl rfl rfl
  have hK36 : (am_u1 K25 (z29 + 4) 4) (z29 + 4) = 4 := by simp [am_u1]
  generalize eK32 : am_u1 K25 (z29 + 4) 4 = K32 at h hK36 ⊢
  generalize eN33 : am_u1 N26 (z29 + 4) 0 = N33 at h ⊢
  generalize eb34 : z29 + 4 = b34 at h hK36 ⊢
  generalize ez35 : z29 + 1 = z35 at h ⊢
  refine e_dup dX7_init_39 rfl ?_
  obtain ⟨⟨hk9, hn9⟩, h⟩ := h
  refine e_callIN (host := "PickScanner") (Mc := m_X4_init) (vs := []) (st := [am_r b34, am_r s]) dX7_init_40 ok_X4_init rfl rfl (by decide) im_X4_init rfl rfl rfl (by omega) (Nat.le_of_ble_eq_true rfl) hk9 hn9 am_xh_nx (am_C_mono h (fun v K37 N38 I39 P40 z41 h => ?_) (fun _ _ _ _ _ _ h => h))
  show am_E d m_X7_init 43 (0 + 1 + 1 + 1 + 1 + 1 + 1 + 4) (0 + 6 + 1 + 3000 + 3 + 80 + 6 + 320) _ [am_r b34, am_r s] K37 N38 I39 P40 z41 Q am_nx
  obtain ⟨hK42, h⟩ := h
  refine e_putr1 dX7_init_43 fk_X7_32 rfl rfl hK42 ?_
  replace h := h _ rfl
  generalize am_p2 P40 s 6 (some b34) = P43 at h ⊢
  obtain ⟨⟨hk9, hn9⟩, h⟩ := h
  refine e_new (cc := 4) dX7_init_46 (by decide) ck_X7_29 in_4 ii_4 hk9 hn9 ?_
  replace h := h _ _ _ _ rfl rfl rfl rfl
  have hK48 : (am_u1 K37 (z41 + 4) 4) (z41 + 4) = 4 := by simp [am_u1]
  generalize eK44 : am_u1 K37 (z41 + 4) 4 = K44 at h hK48 ⊢
  generalize eN45 : am_u1 N38 (z41 + 4) 0 = N45 at h ⊢
  generalize eb46 : z41 + 4 = b46 at h hK48 ⊢
  generalize ez47 : z41 + 1 = z47 at h ⊢
  refine e_dup dX7_init_49 rfl ?_
  obtain ⟨⟨hk9, hn9⟩, h⟩ := h
  refine e_callIN (host := "PickScanner") (Mc := m_X4_init) (vs := []) (st := [am_r b46]) dX7_init_50 ok_X4_init rfl rfl (by decide) im_X4_init rfl rfl rfl (by omega) (Nat.le_of_ble_eq_true rfl) hk9 hn9 am_xh_nx (am_C_mono h (fun v K49 N50 I51 P52 z53 h => ?_) (fun _ _ _ _ _ _ h => h))
  show am_E d m_X7_init 53 (0 + 1 + 1 + 1 + 1 + 1 + 1 + 4 + 1 + 4) (0 + 6 + 1 + 3000 + 3 + 80 + 6 + 320 + 6 + 320) _ [am_r b46] K49 N50 I51 P52 z53 Q am_nx
  refine e_astore_n dX7_init_53 trivial ?_
  refine e_aload_n dX7_init_54 rfl trivial ?_
  refine e_iconst dX7_init_55 ?_
  obtain ⟨⟨hk9, hn9⟩, h⟩ := h
  obtain ⟨hK59, h⟩ := h
  refine e_callV (Mc := m_X4_addLeaf) (vs := [am_i (-1)]) (st := []) dX7_init_56 ok_X4_addLeaf rfl ⟨by decide, rfl⟩ mk_X7_36 im_X4_addLeaf sl_X4_addLeaf rfl rfl hK59 (by omega) (Nat.le_of_ble_eq_true rfl) hk9 hn9 am_xh_nx (am_C_mono h (fun v K54 N55 I56 P57 z58 h => ?_) (fun _ _ _ _ _ _ h => h))
  show am_E d m_X7_init 59 (0 + 1 + 1 + 1 + 1 + 1 + 1 + 4 + 1 + 4) (0 + 6 + 1 + 3000 + 3 + 80 + 6 + 320 + 6 + 320) _ [] K54 N55 I56 P57 z58 Q am_nx
  refine e_aload_n dX7_init_59 rfl trivial ?_
  obtain ⟨⟨hk9, hn9⟩, h⟩ := h
  refine e_new (cc := 6) dX7_init_60 (by decide) ck_X7_9 in_6 ii_6 hk9 hn9 ?_
  replace h := h _ _ _ _ rfl rfl rfl rfl
  have hK64 : (am_u1 K54 (z58 + 4) 6) (z58 + 4) = 6 := by simp [am_u1]
  generalize eK60 : am_u1 K54 (z58 + 4) 6 = K60 at h hK64 ⊢
  generalize eN61 : am_u1 N55 (z58 + 4) 0 = N61 at h ⊢
  generalize eb62 : z58 + 4 = b62 at h hK64 ⊢
  generalize ez63 : z58 + 1 = z63 at h ⊢
  refine e_dup dX7_init_63 rfl ?_
  refine e_aload_n dX7_init_64 rfl trivial ?_
  obtain ⟨⟨hk9, hn9⟩, h⟩ := h
  refine e_callI (Mc := m_X6_init) (vs := [am_r b46]) (st := [am_r b62, am_r s]) dX7_init_65 ok_X6_init rfl rfl mk_X7_40 im_X6_init rfl rfl rfl (by omega) (Nat.le_of_ble_eq_true rfl) hk9 hn9 am_xh_nx (am_C_mono h (fun v K65 N66 I67 P68 z69 h => ?_) (fun _ _ _ _ _ _ h => h))
  show am_E d m_X7_init 68 (0 + 1 + 1 + 1 + 1 + 1 + 1 + 4 + 1 + 4 + 1 + 32) (0 + 6 + 1 + 3000 + 3 + 80 + 6 + 320 + 6 + 320 + 11 + 365) _ [am_r b62, am_r s] K65 N66 I67 P68 z69 Q am_nx
  obtain ⟨hK70, h⟩ := h
  refine e_putrF1 dX7_init_68 fk_X7_43 rfl rfl rfl rfl hK70 ?_
  replace h := h _ rfl
  generalize am_p2 P68 s 0 (some b62) = P71 at h ⊢
  refine e_aload_n dX7_init_71 rfl trivial ?_
  obtain ⟨⟨hk9, hn9⟩, h⟩ := h
  refine e_new (cc := 6) dX7_init_72 (by decide) ck_X7_9 in_6 ii_6 hk9 hn9 ?_
  replace h := h _ _ _ _ rfl rfl rfl rfl
  have hK76 : (am_u1 K65 (z69 + 4) 6) (z69 + 4) = 6 := by simp [am_u1]
  generalize eK72 : am_u1 K65 (z69 + 4) 6 = K72 at h hK76 ⊢
  generalize eN73 : am_u1 N66 (z69 + 4) 0 = N73 at h ⊢
  generalize eb74 : z69 + 4 = b74 at h hK76 ⊢
  generalize ez75 : z69 + 1 = z75 at h ⊢
  refine e_dup dX7_init_75 rfl ?_
  refine e_aload_n dX7_init_76 rfl trivial ?_
  obtain ⟨⟨hk9, hn9⟩, h⟩ := h
  refine e_callI (Mc := m_X6_init) (vs := [am_r b46]) (st := [am_r b74, am_r s]) dX7_init_77 ok_X6_init rfl rfl mk_X7_40 im_X6_init rfl rfl rfl (by omega) (Nat.le_of_ble_eq_true rfl) hk9 hn9 am_xh_nx (am_C_mono h (fun v K77 N78 I79 P80 z81 h => ?_) (fun _ _ _ _ _ _ h => h))
  show am_E d m_X7_init 80 (0 + 1 + 1 + 1 + 1 + 1 + 1 + 4 + 1 + 4 + 1 + 32 + 1 + 32) (0 + 6 + 1 + 3000 + 3 + 80 + 6 + 320 + 6 + 320 + 11 + 365 + 11 + 365) _ [am_r b74, am_r s] K77 N78 I79 P80 z81 Q am_nx
  obtain ⟨hK82, h⟩ := h
  refine e_putrF1 dX7_init_80 fk_X7_47 rfl rfl rfl rfl hK82 ?_
  replace h := h _ rfl
  generalize am_p2 P80 s 1 (some b74) = P83 at h ⊢
  refine e_iconst dX7_init_83 ?_
  refine e_istore_n dX7_init_84 ?_
  exact e_forget (am_sub_k (am_sub_k (am_sub_k am_sub_nil))) h
set_option maxRecDepth 100000 in
set_option maxHeartbeats 4000000 in
theorem wf_X7_init_85 {d : Nat} (hd : 1 ≤ d) {k n : Nat} {l0 : Nat} {l1 : Nat} {l2 : Int} {K N : Nat → Nat} {I : Nat → Nat → Int} {P : Nat → Nat → Option Nat} {z : Nat} {Q : am_V → am_T} (h :
  ((6 ≤ l2 →
    (k ≤ 279 ∧ n ≤ 6750) ∧ Q am_nl K N I P z) ∧
    (¬ (6 ≤ l2) →
    K l0 = 7 ∧ ∃ b2, P l0 2 = some b2 ∧ (k + 1 ≤ 279 ∧ n + 11 ≤ 6750) ∧ ∀ K3 N4 b5 z6, K3 = am_u1 K (z + 4) 6 → N4 = am_u1 N (z + 4) 0 → b5 = z + 4 → z6 = z + 1 → (k + 1 + 32 ≤ 279 ∧ n + 11 + 365 ≤ 6750) ∧ am_C (d - 1) m_X6_init [am_r b5, am_r l1] K3 N4 I P z6 (fun _ K8 N9 I10 P11 z12 =>
      K8 b2 = 13 ∧ (0 ≤ l2 ∧ l2 < N9 b2) ∧ K8 b5 = 6 ∧ ∀ P15, P15 = am_p2 P11 b2 (Int.toNat l2) (some b5) → L_X7_init_85 d (k + 1 + 32) (n + 11 + 365) l0 l1 (am_wr (l2 + 1)) K8 N9 I10 P15 z12 Q) am_nx))) :
  L_X7_init_85 d k n l0 l1 l2 K N I P z Q := by
  unfold L_X7_init_85
  refine e_iload_n dX7_init_85 rfl ?_
  refine e_bipush dX7_init_86 ?_
  refine e_icmp_ge (tgt := 111) dX7_init_88 (by decide) (fun hc => ?_) (fun hc => ?_)
  · replace h := h.1 hc
    obtain ⟨⟨hk9, hn9⟩, h⟩ := h
    exact e_ret_v dX7_init_111 rfl hk9 hn9 h
  · replace h := h.2 hc
    refine e_aload_n dX7_init_91 rfl trivial ?_
    obtain ⟨hK1, h⟩ := h
    obtain ⟨b2, hb2, h⟩ := h
    refine e_getr1 dX7_init_92 fk_X7_11 rfl hK1 hb2 ?_
    refine e_iload_n dX7_init_95 rfl ?_
    obtain ⟨⟨hk9, hn9⟩, h⟩ := h
    refine e_new (cc := 6) dX7_init_96 (by decide) ck_X7_9 in_6 ii_6 hk9 hn9 ?_
    replace h := h _ _ _ _ rfl rfl rfl rfl
    have hK7 : (am_u1 K (z + 4) 6) (z + 4) = 6 := by simp [am_u1]
    generalize eK3 : am_u1 K (z + 4) 6 = K3 at h hK7 ⊢
    generalize eN4 : am_u1 N (z + 4) 0 = N4 at h ⊢
    generalize eb5 : z + 4 = b5 at h hK7 ⊢
    generalize ez6 : z + 1 = z6 at h ⊢
    refine e_dup dX7_init_99 rfl ?_
    refine e_aload_n dX7_init_100 rfl trivial ?_
    obtain ⟨⟨hk9, hn9⟩, h⟩ := h
    refine e_callI (Mc := m_X6_init) (vs := [am_r l1]) (st := [am_r b5, am_i l2, am_r b2]) dX7_init_101 ok_X6_init rfl rfl mk_X7_40 im_X6_init rfl rfl rfl (by omega) (Nat.le_of_ble_eq_true rfl) hk9 hn9 am_xh_nx (am_C_mono h (fun v K8 N9 I10 P11 z12 h => ?_) (fun _ _ _ _ _ _ h => h))
    show am_E d m_X7_init 104 (k + 1 + 32) (n + 11 + 365) _ [am_r b5, am_i l2, am_r b2] K8 N9 I10 P11 z12 Q am_nx
    obtain ⟨hK13, h⟩ := h
    obtain ⟨⟨h0, h1⟩, h⟩ := h
    obtain ⟨hK14, h⟩ := h
    refine e_aast dX7_init_104 hK13 (Or.inr (Or.inr ⟨rfl, hK14⟩)) h0 h1 ?_
    replace h := h _ rfl
    generalize am_p2 P11 b2 (Int.toNat l2) (some b5) = P15 at h ⊢
    refine e_iinc dX7_init_105 rfl ?_
    refine e_goto (tgt := 85) dX7_init_108 (by decide) ?_
    exact e_forget (am_sub_k (am_sub_k (am_sub_k am_sub_nil))) h
set_option maxRecDepth 100000 in
set_option maxHeartbeats 4000000 in
theorem wf_X7_set {d : Nat} (hd : 6 ≤ d) {s : Nat} {a1 : Int} {a2 : Int} {K N : Nat → Nat} {I : Nat → Nat → Int} {P : Nat → Nat → Option Nat} {z : Nat} {Q : am_V → am_T} {X : Nat → am_T} (h :
  ((a1 < 0 →
    X 0 K N I P z) ∧
    (¬ (a1 < 0) →
    ((a1 < 6 →
      (0 ≤ a1 ∧ a1 < N 1) ∧ ((a2 < I 1 (Int.toNat a1) →
        X 1 K N I P z) ∧
        (¬ (a2 < I 1 (Int.toNat a1)) →
        (0 ≤ a1 ∧ a1 < N 2) ∧ ((a2 ≤ I 2 (Int.toNat a1) →
          K s = 7 ∧ ∃ b2, P s 0 = some b2 ∧ K b2 = 6 ∧ ((I b2 6 ≤ 0 →
            am_C (d - 1) m_X7_save [am_r s] K N I P z (fun _ K4 N5 I6 P7 z8 =>
              K4 s = 7 ∧ ∃ b10, P7 s 0 = some b10 ∧ K4 b10 = 6 ∧ ∃ b12, P7 b10 0 = some b12 ∧ K4 b12 = 10 ∧ (0 ≤ a1 ∧ a1 < N5 b12) ∧ (0 ≤ a1 ∧ a1 < N5 b12) ∧ ∀ I14, I14 = am_u2 I6 b12 (Int.toNat a1) a2 → Q (am_i (I6 b12 (Int.toNat a1))) K4 N5 I14 P7 z8) am_nx) ∧
            (¬ (I b2 6 ≤ 0) →
            X 2 K N I P z))) ∧
          (¬ (a2 ≤ I 2 (Int.toNat a1)) →
          X 1 K N I P z))))) ∧
      (¬ (a1 < 6) →
      X 0 K N I P z))))) :
  am_C d m_X7_set [am_r s, am_i a1, am_i a2] K N I P z Q X := by
  refine am_C_of ok_X7_set (fun v hv => am_v1all _ rfl v hv) (Nat.le_of_ble_eq_true rfl) ?_
  show am_E d m_X7_set 0 0 0 [some (am_r s), some (am_i a1), some (am_i a2), none] [] K N I P z Q X
  refine e_iload_n dX7_set_0 rfl ?_
  refine e_if_lt (tgt := 10) dX7_set_1 (by decide) (fun hc => ?_) (fun hc => ?_)
  · replace h := h.1 hc
    exact e_throw (tx := "there is no such setting") dX7_set_10 dX7_set_13 dX7_set_14 dX7_set_16 dX7_set_19 (by decide) ck_X7_50 xi_0 xt_X7_54 (by decide) rfl (by omega) (Nat.le_of_ble_eq_true rfl) (Nat.le_of_ble_eq_true rfl) (Nat.le_of_ble_eq_true rfl) h
  · replace h := h.2 hc
    refine e_iload_n dX7_set_4 rfl ?_
    refine e_bipush dX7_set_5 ?_
    refine e_icmp_lt (tgt := 20) dX7_set_7 (by decide) (fun hc => ?_) (fun hc => ?_)
    · replace h := h.1 hc
      refine e_iload_n dX7_set_20 rfl ?_
      refine e_gets (a := 1) dX7_set_21 (by decide) (by decide) sk_X7_57 ?_
      refine e_iload_n dX7_set_24 rfl ?_
      obtain ⟨⟨h0, h1⟩, h⟩ := h
      refine e_ialdC dX7_set_25 (by decide) h0 h1 ?_
      refine e_icmp_lt (tgt := 38) dX7_set_26 (by decide) (fun hc => ?_) (fun hc => ?_)
      · replace h := h.1 hc
        exact e_throw (tx := "the value is out of the setting's range") dX7_set_38 dX7_set_41 dX7_set_42 dX7_set_44 dX7_set_47 (by decide) ck_X7_64 xi_1 xt_X7_68 (by decide) rfl (by omega) (Nat.le_of_ble_eq_true rfl) (Nat.le_of_ble_eq_true rfl) (Nat.le_of_ble_eq_true rfl) h
      · replace h := h.2 hc
        refine e_iload_n dX7_set_29 rfl ?_
        refine e_gets (a := 2) dX7_set_30 (by decide) (by decide) sk_X7_61 ?_
        refine e_iload_n dX7_set_33 rfl ?_
        obtain ⟨⟨h0, h1⟩, h⟩ := h
        refine e_ialdC dX7_set_34 (by decide) h0 h1 ?_
        refine e_icmp_le (tgt := 48) dX7_set_35 (by decide) (fun hc => ?_) (fun hc => ?_)
        · replace h := h.1 hc
          refine e_aload_n dX7_set_48 rfl trivial ?_
          obtain ⟨hK1, h⟩ := h
          obtain ⟨b2, hb2, h⟩ := h
          refine e_getr1 dX7_set_49 fk_X7_43 rfl hK1 hb2 ?_
          obtain ⟨hK3, h⟩ := h
          refine e_geti dX7_set_52 fk_X7_69 rfl hK3 ?_
          refine e_if_le (tgt := 68) dX7_set_55 (by decide) (fun hc => ?_) (fun hc => ?_)
          · replace h := h.1 hc
            refine e_aload_n dX7_set_68 rfl trivial ?_
            refine e_callV (Mc := m_X7_save) (vs := []) (st := []) dX7_set_69 ok_X7_save rfl ⟨by decide, rfl⟩ mk_X7_78 im_X7_save sl_X7_save rfl rfl hK1 (by omega) (Nat.le_of_ble_eq_true rfl) (Nat.le_of_ble_eq_true rfl) (Nat.le_of_ble_eq_true rfl) am_xh_nx (am_C_mono h (fun v K4 N5 I6 P7 z8 h => ?_) (fun _ _ _ _ _ _ h => h))
            show am_E d m_X7_set 72 _ _ _ [] K4 N5 I6 P7 z8 Q X
            refine e_aload_n dX7_set_72 rfl trivial ?_
            obtain ⟨hK9, h⟩ := h
            obtain ⟨b10, hb10, h⟩ := h
            refine e_getr1 dX7_set_73 fk_X7_43 rfl hK9 hb10 ?_
            obtain ⟨hK11, h⟩ := h
            obtain ⟨b12, hb12, h⟩ := h
            refine e_getr1 dX7_set_76 fk_X7_81 rfl hK11 hb12 ?_
            refine e_iload_n dX7_set_79 rfl ?_
            obtain ⟨hK13, h⟩ := h
            obtain ⟨⟨h0, h1⟩, h⟩ := h
            refine e_iald dX7_set_80 hK13 h0 h1 ?_
            refine e_istore_n dX7_set_81 ?_
            refine e_aload_n dX7_set_82 rfl trivial ?_
            refine e_getr1 dX7_set_83 fk_X7_43 rfl hK9 hb10 ?_
            refine e_getr1 dX7_set_86 fk_X7_81 rfl hK11 hb12 ?_
            refine e_iload_n dX7_set_89 rfl ?_
            refine e_iload_n dX7_set_90 rfl ?_
            obtain ⟨⟨h0, h1⟩, h⟩ := h
            refine e_iast dX7_set_91 hK13 h0 h1 ?_
            replace h := h _ rfl
            generalize am_u2 I6 b12 (Int.toNat a1) a2 = I14 at h ⊢
            refine e_iload_n dX7_set_92 rfl ?_
            exact e_ret_i dX7_set_93 rfl (Nat.le_of_ble_eq_true rfl) (Nat.le_of_ble_eq_true rfl) h
          · replace h := h.2 hc
            exact e_throw (tx := "there are parts on the belt") dX7_set_58 dX7_set_61 dX7_set_62 dX7_set_64 dX7_set_67 (by decide) ck_X7_73 xi_2 xt_X7_77 (by decide) rfl (by omega) (Nat.le_of_ble_eq_true rfl) (Nat.le_of_ble_eq_true rfl) (Nat.le_of_ble_eq_true rfl) h
        · replace h := h.2 hc
          exact e_throw (tx := "the value is out of the setting's range") dX7_set_38 dX7_set_41 dX7_set_42 dX7_set_44 dX7_set_47 (by decide) ck_X7_64 xi_1 xt_X7_68 (by decide) rfl (by omega) (Nat.le_of_ble_eq_true rfl) (Nat.le_of_ble_eq_true rfl) (Nat.le_of_ble_eq_true rfl) h
    · replace h := h.2 hc
      exact e_throw (tx := "there is no such setting") dX7_set_10 dX7_set_13 dX7_set_14 dX7_set_16 dX7_set_19 (by decide) ck_X7_50 xi_0 xt_X7_54 (by decide) rfl (by omega) (Nat.le_of_ble_eq_true rfl) (Nat.le_of_ble_eq_true rfl) (Nat.le_of_ble_eq_true rfl) h
set_option maxRecDepth 100000 in
set_option maxHeartbeats 4000000 in
theorem wf_X7_addLane {d : Nat} (hd : 6 ≤ d) {s : Nat} {a1 : Int} {a2 : Int} {a3 : Int} {K N : Nat → Nat} {I : Nat → Nat → Int} {P : Nat → Nat → Option Nat} {z : Nat} {Q : am_V → am_T} {X : Nat → am_T} (h :
  ((a1 < 1 →
    X 1 K N I P z) ∧
    (¬ (a1 < 1) →
    ((a1 ≤ 4999 →
      ((a2 < 1 →
        X 1 K N I P z) ∧
        (¬ (a2 < 1) →
        ((a2 ≤ 200 →
          ((a3 < 1 →
            X 1 K N I P z) ∧
            (¬ (a3 < 1) →
            ((a3 ≤ 50 →
              K s = 7 ∧ ∃ b2, P s 0 = some b2 ∧ K b2 = 6 ∧ ((I b2 2 < 6 →
                am_C (d - 1) m_X7_save [am_r s] K N I P z (fun _ K4 N5 I6 P7 z8 =>
                  K4 s = 7 ∧ ∃ b10, P7 s 0 = some b10 ∧ K4 b10 = 6 ∧ ∃ b12, P7 b10 1 = some b12 ∧ K4 b12 = 11 ∧ (0 ≤ I6 b10 2 ∧ I6 b10 2 < N5 b12) ∧ ∃ b14, P7 b12 (Int.toNat (I6 b10 2)) = some b14 ∧ K4 b14 = 0 ∧ am_C (d - 1) m_X0_begin [am_r b14, am_i a1, am_i a2, am_i a3] K4 N5 I6 P7 z8 (fun _ K15 N16 I17 P18 z19 =>
                  K15 s = 7 ∧ ∃ b22, P18 s 0 = some b22 ∧ K15 b22 = 6 ∧ ∀ I24, I24 = am_u2 I17 b22 2 (am_wr (I17 b22 2 + 1)) → Q (am_i (I6 b10 2)) K15 N16 I24 P18 z19) am_nx) am_nx) ∧
                (¬ (I b2 2 < 6) →
                X 2 K N I P z))) ∧
              (¬ (a3 ≤ 50) →
              X 1 K N I P z))))) ∧
          (¬ (a2 ≤ 200) →
          X 1 K N I P z))))) ∧
      (¬ (a1 ≤ 4999) →
      X 1 K N I P z))))) :
  am_C d m_X7_addLane [am_r s, am_i a1, am_i a2, am_i a3] K N I P z Q X := by
  refine am_C_of ok_X7_addLane (fun v hv => am_v1all _ rfl v hv) (Nat.le_of_ble_eq_true rfl) ?_
  show am_E d m_X7_addLane 0 0 0 [some (am_r s), some (am_i a1), some (am_i a2), some (am_i a3), none] [] K N I P z Q X
  refine e_iload_n dX7_addLane_0 rfl ?_
  refine e_iconst dX7_addLane_1 ?_
  refine e_icmp_lt (tgt := 12) dX7_addLane_2 (by decide) (fun hc => ?_) (fun hc => ?_)
  · replace h := h.1 hc
    exact e_throw (tx := "the position is out of range") dX7_addLane_12 dX7_addLane_15 dX7_addLane_16 dX7_addLane_18 dX7_addLane_21 (by decide) ck_X7_64 xi_1 xt_X7_68 (by decide) rfl (by omega) (Nat.le_of_ble_eq_true rfl) (Nat.le_of_ble_eq_true rfl) (Nat.le_of_ble_eq_true rfl) h
  · replace h := h.2 hc
    refine e_iload_n dX7_addLane_5 rfl ?_
    refine e_sipush dX7_addLane_6 ?_
    refine e_icmp_le (tgt := 22) dX7_addLane_9 (by decide) (fun hc => ?_) (fun hc => ?_)
    · replace h := h.1 hc
      refine e_iload_n dX7_addLane_22 rfl ?_
      refine e_iconst dX7_addLane_23 ?_
      refine e_icmp_lt (tgt := 34) dX7_addLane_24 (by decide) (fun hc => ?_) (fun hc => ?_)
      · replace h := h.1 hc
        exact e_throw (tx := "the window is out of range") dX7_addLane_34 dX7_addLane_37 dX7_addLane_38 dX7_addLane_40 dX7_addLane_43 (by decide) ck_X7_64 xi_1 xt_X7_68 (by decide) rfl (by omega) (Nat.le_of_ble_eq_true rfl) (Nat.le_of_ble_eq_true rfl) (Nat.le_of_ble_eq_true rfl) h
      · replace h := h.2 hc
        refine e_iload_n dX7_addLane_27 rfl ?_
        refine e_sipush dX7_addLane_28 ?_
        refine e_icmp_le (tgt := 44) dX7_addLane_31 (by decide) (fun hc => ?_) (fun hc => ?_)
        · replace h := h.1 hc
          refine e_iload_n dX7_addLane_44 rfl ?_
          refine e_iconst dX7_addLane_45 ?_
          refine e_icmp_lt (tgt := 55) dX7_addLane_46 (by decide) (fun hc => ?_) (fun hc => ?_)
          · replace h := h.1 hc
            exact e_throw (tx := "the capacity is out of range") dX7_addLane_55 dX7_addLane_58 dX7_addLane_59 dX7_addLane_61 dX7_addLane_64 (by decide) ck_X7_64 xi_1 xt_X7_68 (by decide) rfl (by omega) (Nat.le_of_ble_eq_true rfl) (Nat.le_of_ble_eq_true rfl) (Nat.le_of_ble_eq_true rfl) h
          · replace h := h.2 hc
            refine e_iload_n dX7_addLane_49 rfl ?_
            refine e_bipush dX7_addLane_50 ?_
            refine e_icmp_le (tgt := 65) dX7_addLane_52 (by decide) (fun hc => ?_) (fun hc => ?_)
            · replace h := h.1 hc
              refine e_aload_n dX7_addLane_65 rfl trivial ?_
              obtain ⟨hK1, h⟩ := h
              obtain ⟨b2, hb2, h⟩ := h
              refine e_getr1 dX7_addLane_66 fk_X7_43 rfl hK1 hb2 ?_
              obtain ⟨hK3, h⟩ := h
              refine e_geti dX7_addLane_69 fk_X7_90 rfl hK3 ?_
              refine e_bipush dX7_addLane_72 ?_
              refine e_icmp_lt (tgt := 87) dX7_addLane_74 (by decide) (fun hc => ?_) (fun hc => ?_)
              · replace h := h.1 hc
                refine e_aload_n dX7_addLane_87 rfl trivial ?_
                refine e_callV (Mc := m_X7_save) (vs := []) (st := []) dX7_addLane_88 ok_X7_save rfl ⟨by decide, rfl⟩ mk_X7_78 im_X7_save sl_X7_save rfl rfl hK1 (by omega) (Nat.le_of_ble_eq_true rfl) (Nat.le_of_ble_eq_true rfl) (Nat.le_of_ble_eq_true rfl) am_xh_nx (am_C_mono h (fun v K4 N5 I6 P7 z8 h => ?_) (fun _ _ _ _ _ _ h => h))
                show am_E d m_X7_addLane 91 _ _ _ [] K4 N5 I6 P7 z8 Q X
                refine e_aload_n dX7_addLane_91 rfl trivial ?_
                obtain ⟨hK9, h⟩ := h
                obtain ⟨b10, hb10, h⟩ := h
                refine e_getr1 dX7_addLane_92 fk_X7_43 rfl hK9 hb10 ?_
                obtain ⟨hK11, h⟩ := h
                refine e_geti dX7_addLane_95 fk_X7_90 rfl hK11 ?_
                refine e_istore dX7_addLane_98 ?_
                refine e_aload_n dX7_addLane_100 rfl trivial ?_
                refine e_getr1 dX7_addLane_101 fk_X7_43 rfl hK9 hb10 ?_
                obtain ⟨b12, hb12, h⟩ := h
                refine e_getr1 dX7_addLane_104 fk_X7_95 rfl hK11 hb12 ?_
                refine e_iload dX7_addLane_107 rfl ?_
                obtain ⟨hK13, h⟩ := h
                obtain ⟨⟨h0, h1⟩, b14, hb14, h⟩ := h
                refine e_aald1 dX7_addLane_109 hK13 (by decide) h0 h1 hb14 ?_
                refine e_iload_n dX7_addLane_110 rfl ?_
                refine e_iload_n dX7_addLane_111 rfl ?_
                refine e_iload_n dX7_addLane_112 rfl ?_
                obtain ⟨hK20, h⟩ := h
                refine e_callV (Mc := m_X0_begin) (vs := [am_i a1, am_i a2, am_i a3]) (st := []) dX7_addLane_113 ok_X0_begin rfl ⟨by decide, rfl⟩ mk_X7_99 im_X0_begin sl_X0_begin rfl rfl hK20 (by omega) (Nat.le_of_ble_eq_true rfl) (Nat.le_of_ble_eq_true rfl) (Nat.le_of_ble_eq_true rfl) am_xh_nx (am_C_mono h (fun v K15 N16 I17 P18 z19 h => ?_) (fun _ _ _ _ _ _ h => h))
                show am_E d m_X7_addLane 116 _ _ _ [] K15 N16 I17 P18 z19 Q X
                refine e_aload_n dX7_addLane_116 rfl trivial ?_
                obtain ⟨hK21, h⟩ := h
                obtain ⟨b22, hb22, h⟩ := h
                refine e_getr1 dX7_addLane_117 fk_X7_43 rfl hK21 hb22 ?_
                refine e_dup dX7_addLane_120 rfl ?_
                obtain ⟨hK23, h⟩ := h
                refine e_geti dX7_addLane_121 fk_X7_90 rfl hK23 ?_
                refine e_iconst dX7_addLane_124 ?_
                refine e_iadd dX7_addLane_125 ?_
                refine e_puti dX7_addLane_126 fk_X7_90 rfl (Or.inl rfl) hK23 ?_
                replace h := h _ rfl
                generalize am_u2 I17 b22 2 (am_wr (I17 b22 2 + 1)) = I24 at h ⊢
                refine e_iload dX7_addLane_129 rfl ?_
                exact e_ret_i dX7_addLane_131 rfl (Nat.le_of_ble_eq_true rfl) (Nat.le_of_ble_eq_true rfl) h
              · replace h := h.2 hc
                exact e_throw (tx := "there is no room for another lane") dX7_addLane_77 dX7_addLane_80 dX7_addLane_81 dX7_addLane_83 dX7_addLane_86 (by decide) ck_X7_73 xi_2 xt_X7_77 (by decide) rfl (by omega) (Nat.le_of_ble_eq_true rfl) (Nat.le_of_ble_eq_true rfl) (Nat.le_of_ble_eq_true rfl) h
            · replace h := h.2 hc
              exact e_throw (tx := "the capacity is out of range") dX7_addLane_55 dX7_addLane_58 dX7_addLane_59 dX7_addLane_61 dX7_addLane_64 (by decide) ck_X7_64 xi_1 xt_X7_68 (by decide) rfl (by omega) (Nat.le_of_ble_eq_true rfl) (Nat.le_of_ble_eq_true rfl) (Nat.le_of_ble_eq_true rfl) h
        · replace h := h.2 hc
          exact e_throw (tx := "the window is out of range") dX7_addLane_34 dX7_addLane_37 dX7_addLane_38 dX7_addLane_40 dX7_addLane_43 (by decide) ck_X7_64 xi_1 xt_X7_68 (by decide) rfl (by omega) (Nat.le_of_ble_eq_true rfl) (Nat.le_of_ble_eq_true rfl) (Nat.le_of_ble_eq_true rfl) h
    · replace h := h.2 hc
      exact e_throw (tx := "the position is out of range") dX7_addLane_12 dX7_addLane_15 dX7_addLane_16 dX7_addLane_18 dX7_addLane_21 (by decide) ck_X7_64 xi_1 xt_X7_68 (by decide) rfl (by omega) (Nat.le_of_ble_eq_true rfl) (Nat.le_of_ble_eq_true rfl) (Nat.le_of_ble_eq_true rfl) h
set_option maxRecDepth 100000 in
set_option maxHeartbeats 4000000 in
theorem wf_X7_emptyLane {d : Nat} (hd : 6 ≤ d) {s : Nat} {a1 : Int} {K N : Nat → Nat} {I : Nat → Nat → Int} {P : Nat → Nat → Option Nat} {z : Nat} {Q : am_V → am_T} {X : Nat → am_T} (h :
  K s = 7 ∧ ∃ b2, P s 0 = some b2 ∧ K b2 = 6 ∧ am_C (d - 1) m_X6_hasLane [am_r b2, am_i a1] K N I P z (fun v K3 N4 I5 P6 z7 => am_iv v fun x9 =>
    ((¬ x9 = 0 →
    K3 s = 7 ∧ am_C (d - 1) m_X7_save [am_r s] K3 N4 I5 P6 z7 (fun _ K10 N11 I12 P13 z14 =>
      K10 s = 7 ∧ ∃ b17, P13 s 0 = some b17 ∧ K10 b17 = 6 ∧ ∃ b19, P13 b17 1 = some b19 ∧ K10 b19 = 11 ∧ (0 ≤ a1 ∧ a1 < N11 b19) ∧ ∃ b21, P13 b19 (Int.toNat a1) = some b21 ∧ K10 b21 = 0 ∧ (0 ≤ a1 ∧ a1 < N11 b19) ∧ ∃ b23, P13 b19 (Int.toNat a1) = some b23 ∧ K10 b23 = 0 ∧ ∀ I25, I25 = am_u2 I12 b23 3 0 → Q (am_i (I12 b21 3)) K10 N11 I25 P13 z14) am_nx) ∧
    (x9 = 0 →
    X 0 K3 N4 I5 P6 z7))) am_nx) :
  am_C d m_X7_emptyLane [am_r s, am_i a1] K N I P z Q X := by
  refine am_C_of ok_X7_emptyLane (fun v hv => am_v1all _ rfl v hv) (Nat.le_of_ble_eq_true rfl) ?_
  show am_E d m_X7_emptyLane 0 0 0 [some (am_r s), some (am_i a1), none] [] K N I P z Q X
  refine e_aload_n dX7_emptyLane_0 rfl trivial ?_
  obtain ⟨hK1, h⟩ := h
  obtain ⟨b2, hb2, h⟩ := h
  refine e_getr1 dX7_emptyLane_1 fk_X7_43 rfl hK1 hb2 ?_
  refine e_iload_n dX7_emptyLane_4 rfl ?_
  obtain ⟨hK8, h⟩ := h
  refine e_callV (Mc := m_X6_hasLane) (vs := [am_i a1]) (st := []) dX7_emptyLane_5 ok_X6_hasLane rfl ⟨by decide, rfl⟩ mk_X7_105 im_X6_hasLane sl_X6_hasLane rfl rfl hK8 (by omega) (Nat.le_of_ble_eq_true rfl) (Nat.le_of_ble_eq_true rfl) (Nat.le_of_ble_eq_true rfl) am_xh_nx (am_C_mono h (fun v K3 N4 I5 P6 z7 h => ?_) (fun _ _ _ _ _ _ h => h))
  replace h := am_iv_or h
  obtain ⟨x9, rfl, h⟩ := h
  show am_E d m_X7_emptyLane 8 _ _ _ [am_i x9] K3 N4 I5 P6 z7 Q X
  refine e_if_ne (tgt := 21) dX7_emptyLane_8 (by decide) (fun hc => ?_) (fun hc => ?_)
  · replace h := h.1 hc
    refine e_aload_n dX7_emptyLane_21 rfl trivial ?_
    obtain ⟨hK15, h⟩ := h
    refine e_callV (Mc := m_X7_save) (vs := []) (st := []) dX7_emptyLane_22 ok_X7_save rfl ⟨by decide, rfl⟩ mk_X7_78 im_X7_save sl_X7_save rfl rfl hK15 (by omega) (Nat.le_of_ble_eq_true rfl) (Nat.le_of_ble_eq_true rfl) (Nat.le_of_ble_eq_true rfl) am_xh_nx (am_C_mono h (fun v K10 N11 I12 P13 z14 h => ?_) (fun _ _ _ _ _ _ h => h))
    show am_E d m_X7_emptyLane 25 _ _ _ [] K10 N11 I12 P13 z14 Q X
    refine e_aload_n dX7_emptyLane_25 rfl trivial ?_
    obtain ⟨hK16, h⟩ := h
    obtain ⟨b17, hb17, h⟩ := h
    refine e_getr1 dX7_emptyLane_26 fk_X7_43 rfl hK16 hb17 ?_
    obtain ⟨hK18, h⟩ := h
    obtain ⟨b19, hb19, h⟩ := h
    refine e_getr1 dX7_emptyLane_29 fk_X7_95 rfl hK18 hb19 ?_
    refine e_iload_n dX7_emptyLane_32 rfl ?_
    obtain ⟨hK20, h⟩ := h
    obtain ⟨⟨h0, h1⟩, b21, hb21, h⟩ := h
    refine e_aald1 dX7_emptyLane_33 hK20 (by decide) h0 h1 hb21 ?_
    obtain ⟨hK22, h⟩ := h
    refine e_geti dX7_emptyLane_34 fk_X7_111 rfl hK22 ?_
    refine e_istore_n dX7_emptyLane_37 ?_
    refine e_aload_n dX7_emptyLane_38 rfl trivial ?_
    refine e_getr1 dX7_emptyLane_39 fk_X7_43 rfl hK16 hb17 ?_
    refine e_getr1 dX7_emptyLane_42 fk_X7_95 rfl hK18 hb19 ?_
    refine e_iload_n dX7_emptyLane_45 rfl ?_
    obtain ⟨⟨h0, h1⟩, b23, hb23, h⟩ := h
    refine e_aald1 dX7_emptyLane_46 hK20 (by decide) h0 h1 hb23 ?_
    refine e_iconst dX7_emptyLane_47 ?_
    obtain ⟨hK24, h⟩ := h
    refine e_puti dX7_emptyLane_48 fk_X7_111 rfl (Or.inl rfl) hK24 ?_
    replace h := h _ rfl
    generalize am_u2 I12 b23 3 0 = I25 at h ⊢
    refine e_iload_n dX7_emptyLane_51 rfl ?_
    exact e_ret_i dX7_emptyLane_52 rfl (Nat.le_of_ble_eq_true rfl) (Nat.le_of_ble_eq_true rfl) h
  · replace h := h.2 hc
    exact e_throw (tx := "there is no such lane") dX7_emptyLane_11 dX7_emptyLane_14 dX7_emptyLane_15 dX7_emptyLane_17 dX7_emptyLane_20 (by decide) ck_X7_50 xi_0 xt_X7_54 (by decide) rfl (by omega) (Nat.le_of_ble_eq_true rfl) (Nat.le_of_ble_eq_true rfl) (Nat.le_of_ble_eq_true rfl) h
set_option maxRecDepth 100000 in
set_option maxHeartbeats 4000000 in
theorem wf_X7_route {d : Nat} (hd : 6 ≤ d) {s : Nat} {a1 : Int} {a2 : Int} {K N : Nat → Nat} {I : Nat → Nat → Int} {P : Nat → Nat → Option Nat} {z : Nat} {Q : am_V → am_T} {X : Nat → am_T} (h :
  ((a1 < 0 →
    X 1 K N I P z) ∧
    (¬ (a1 < 0) →
    ((a1 ≤ 999 →
      K s = 7 ∧ ∃ b2, P s 0 = some b2 ∧ K b2 = 6 ∧ am_C (d - 1) m_X6_hasLane [am_r b2, am_i a2] K N I P z (fun v K3 N4 I5 P6 z7 => am_iv v fun x9 =>
        ((¬ x9 = 0 →
        K3 s = 7 ∧ ∃ b11, P6 s 0 = some b11 ∧ K3 b11 = 6 ∧ ∃ b13, P6 b11 3 = some b13 ∧ K3 b13 = 3 ∧ am_C (d - 1) m_X3_laneOf [am_r b13, am_i a1] K3 N4 I5 P6 z7 (fun v K14 N15 I16 P17 z18 => am_iv v fun x20 =>
          ((¬ x20 = (-1) →
          K14 s = 7 ∧ am_C (d - 1) m_X7_save [am_r s] K14 N15 I16 P17 z18 (fun _ K21 N22 I23 P24 z25 =>
            K21 s = 7 ∧ ∃ b28, P24 s 0 = some b28 ∧ K21 b28 = 6 ∧ ∃ b30, P24 b28 3 = some b30 ∧ K21 b30 = 3 ∧ am_C (d - 1) m_X3_put [am_r b30, am_i a1, am_i a2] K21 N22 I23 P24 z25 (fun _ K31 N32 I33 P34 z35 =>
            Q (am_i x20) K31 N32 I33 P34 z35) am_nx) am_nx) ∧
          (x20 = (-1) →
          K14 s = 7 ∧ ∃ b38, P17 s 0 = some b38 ∧ K14 b38 = 6 ∧ ∃ b40, P17 b38 3 = some b40 ∧ K14 b40 = 3 ∧ ((I16 b40 2 < 30 →
            am_C (d - 1) m_X7_save [am_r s] K14 N15 I16 P17 z18 (fun _ K42 N43 I44 P45 z46 =>
              K42 s = 7 ∧ ∃ b48, P45 s 0 = some b48 ∧ K42 b48 = 6 ∧ ∃ b50, P45 b48 3 = some b50 ∧ K42 b50 = 3 ∧ am_C (d - 1) m_X3_put [am_r b50, am_i a1, am_i a2] K42 N43 I44 P45 z46 (fun _ K51 N52 I53 P54 z55 =>
              Q (am_i x20) K51 N52 I53 P54 z55) am_nx) am_nx) ∧
            (¬ (I16 b40 2 < 30) →
            X 2 K14 N15 I16 P17 z18))))) am_nx) ∧
        (x9 = 0 →
        X 0 K3 N4 I5 P6 z7))) am_nx) ∧
      (¬ (a1 ≤ 999) →
      X 1 K N I P z))))) :
  am_C d m_X7_route [am_r s, am_i a1, am_i a2] K N I P z Q X := by
  refine am_C_of ok_X7_route (fun v hv => am_v1all _ rfl v hv) (Nat.le_of_ble_eq_true rfl) ?_
  show am_E d m_X7_route 0 0 0 [some (am_r s), some (am_i a1), some (am_i a2), none] [] K N I P z Q X
  refine e_iload_n dX7_route_0 rfl ?_
  refine e_if_lt (tgt := 11) dX7_route_1 (by decide) (fun hc => ?_) (fun hc => ?_)
  · replace h := h.1 hc
    exact e_throw (tx := "the code is out of range") dX7_route_11 dX7_route_14 dX7_route_15 dX7_route_17 dX7_route_20 (by decide) ck_X7_64 xi_1 xt_X7_68 (by decide) rfl (by omega) (Nat.le_of_ble_eq_true rfl) (Nat.le_of_ble_eq_true rfl) (Nat.le_of_ble_eq_true rfl) h
  · replace h := h.2 hc
    refine e_iload_n dX7_route_4 rfl ?_
    refine e_sipush dX7_route_5 ?_
    refine e_icmp_le (tgt := 21) dX7_route_8 (by decide) (fun hc => ?_) (fun hc => ?_)
    · replace h := h.1 hc
      refine e_aload_n dX7_route_21 rfl trivial ?_
      obtain ⟨hK1, h⟩ := h
      obtain ⟨b2, hb2, h⟩ := h
      refine e_getr1 dX7_route_22 fk_X7_43 rfl hK1 hb2 ?_
      refine e_iload_n dX7_route_25 rfl ?_
      obtain ⟨hK8, h⟩ := h
      refine e_callV (Mc := m_X6_hasLane) (vs := [am_i a2]) (st := []) dX7_route_26 ok_X6_hasLane rfl ⟨by decide, rfl⟩ mk_X7_105 im_X6_hasLane sl_X6_hasLane rfl rfl hK8 (by omega) (Nat.le_of_ble_eq_true rfl) (Nat.le_of_ble_eq_true rfl) (Nat.le_of_ble_eq_true rfl) am_xh_nx (am_C_mono h (fun v K3 N4 I5 P6 z7 h => ?_) (fun _ _ _ _ _ _ h => h))
      replace h := am_iv_or h
      obtain ⟨x9, rfl, h⟩ := h
      show am_E d m_X7_route 29 _ _ _ [am_i x9] K3 N4 I5 P6 z7 Q X
      refine e_if_ne (tgt := 42) dX7_route_29 (by decide) (fun hc => ?_) (fun hc => ?_)
      · replace h := h.1 hc
        refine e_aload_n dX7_route_42 rfl trivial ?_
        obtain ⟨hK10, h⟩ := h
        obtain ⟨b11, hb11, h⟩ := h
        refine e_getr1 dX7_route_43 fk_X7_43 rfl hK10 hb11 ?_
        obtain ⟨hK12, h⟩ := h
        obtain ⟨b13, hb13, h⟩ := h
        refine e_getr1 dX7_route_46 fk_X7_116 rfl hK12 hb13 ?_
        refine e_iload_n dX7_route_49 rfl ?_
        obtain ⟨hK19, h⟩ := h
        refine e_callV (Mc := m_X3_laneOf) (vs := [am_i a1]) (st := []) dX7_route_50 ok_X3_laneOf rfl ⟨by decide, rfl⟩ mk_X7_120 im_X3_laneOf sl_X3_laneOf rfl rfl hK19 (by omega) (Nat.le_of_ble_eq_true rfl) (Nat.le_of_ble_eq_true rfl) (Nat.le_of_ble_eq_true rfl) am_xh_nx (am_C_mono h (fun v K14 N15 I16 P17 z18 h => ?_) (fun _ _ _ _ _ _ h => h))
        replace h := am_iv_or h
        obtain ⟨x20, rfl, h⟩ := h
        show am_E d m_X7_route 53 _ _ _ [am_i x20] K14 N15 I16 P17 z18 Q X
        refine e_istore_n dX7_route_53 ?_
        refine e_iload_n dX7_route_54 rfl ?_
        refine e_iconst dX7_route_55 ?_
        refine e_icmp_ne (tgt := 84) dX7_route_56 (by decide) (fun hc => ?_) (fun hc => ?_)
        · replace h := h.1 hc
          refine e_aload_n dX7_route_84 rfl trivial ?_
          obtain ⟨hK26, h⟩ := h
          refine e_callV (Mc := m_X7_save) (vs := []) (st := []) dX7_route_85 ok_X7_save rfl ⟨by decide, rfl⟩ mk_X7_78 im_X7_save sl_X7_save rfl rfl hK26 (by omega) (Nat.le_of_ble_eq_true rfl) (Nat.le_of_ble_eq_true rfl) (Nat.le_of_ble_eq_true rfl) am_xh_nx (am_C_mono h (fun v K21 N22 I23 P24 z25 h => ?_) (fun _ _ _ _ _ _ h => h))
          show am_E d m_X7_route 88 _ _ _ [] K21 N22 I23 P24 z25 Q X
          refine e_aload_n dX7_route_88 rfl trivial ?_
          obtain ⟨hK27, h⟩ := h
          obtain ⟨b28, hb28, h⟩ := h
          refine e_getr1 dX7_route_89 fk_X7_43 rfl hK27 hb28 ?_
          obtain ⟨hK29, h⟩ := h
          obtain ⟨b30, hb30, h⟩ := h
          refine e_getr1 dX7_route_92 fk_X7_116 rfl hK29 hb30 ?_
          refine e_iload_n dX7_route_95 rfl ?_
          refine e_iload_n dX7_route_96 rfl ?_
          obtain ⟨hK36, h⟩ := h
          refine e_callV (Mc := m_X3_put) (vs := [am_i a1, am_i a2]) (st := []) dX7_route_97 ok_X3_put rfl ⟨by decide, rfl⟩ mk_X7_131 im_X3_put sl_X3_put rfl rfl hK36 (by omega) (Nat.le_of_ble_eq_true rfl) (Nat.le_of_ble_eq_true rfl) (Nat.le_of_ble_eq_true rfl) am_xh_nx (am_C_mono h (fun v K31 N32 I33 P34 z35 h => ?_) (fun _ _ _ _ _ _ h => h))
          show am_E d m_X7_route 100 _ _ _ [] K31 N32 I33 P34 z35 Q X
          refine e_iload_n dX7_route_100 rfl ?_
          exact e_ret_i dX7_route_101 rfl (Nat.le_of_ble_eq_true rfl) (Nat.le_of_ble_eq_true rfl) h
        · replace h := h.2 hc
          refine e_aload_n dX7_route_59 rfl trivial ?_
          obtain ⟨hK37, h⟩ := h
          obtain ⟨b38, hb38, h⟩ := h
          refine e_getr1 dX7_route_60 fk_X7_43 rfl hK37 hb38 ?_
          obtain ⟨hK39, h⟩ := h
          obtain ⟨b40, hb40, h⟩ := h
          refine e_getr1 dX7_route_63 fk_X7_116 rfl hK39 hb40 ?_
          obtain ⟨hK41, h⟩ := h
          refine e_geti dX7_route_66 fk_X7_126 rfl hK41 ?_
          refine e_bipush dX7_route_69 ?_
          refine e_icmp_lt (tgt := 84) dX7_route_71 (by decide) (fun hc => ?_) (fun hc => ?_)
          · replace h := h.1 hc
            refine e_aload_n dX7_route_84 rfl trivial ?_
            refine e_callV (Mc := m_X7_save) (vs := []) (st := []) dX7_route_85 ok_X7_save rfl ⟨by decide, rfl⟩ mk_X7_78 im_X7_save sl_X7_save rfl rfl hK37 (by omega) (Nat.le_of_ble_eq_true rfl) (Nat.le_of_ble_eq_true rfl) (Nat.le_of_ble_eq_true rfl) am_xh_nx (am_C_mono h (fun v K42 N43 I44 P45 z46 h => ?_) (fun _ _ _ _ _ _ h => h))
            show am_E d m_X7_route 88 _ _ _ [] K42 N43 I44 P45 z46 Q X
            refine e_aload_n dX7_route_88 rfl trivial ?_
            obtain ⟨hK47, h⟩ := h
            obtain ⟨b48, hb48, h⟩ := h
            refine e_getr1 dX7_route_89 fk_X7_43 rfl hK47 hb48 ?_
            obtain ⟨hK49, h⟩ := h
            obtain ⟨b50, hb50, h⟩ := h
            refine e_getr1 dX7_route_92 fk_X7_116 rfl hK49 hb50 ?_
            refine e_iload_n dX7_route_95 rfl ?_
            refine e_iload_n dX7_route_96 rfl ?_
            obtain ⟨hK56, h⟩ := h
            refine e_callV (Mc := m_X3_put) (vs := [am_i a1, am_i a2]) (st := []) dX7_route_97 ok_X3_put rfl ⟨by decide, rfl⟩ mk_X7_131 im_X3_put sl_X3_put rfl rfl hK56 (by omega) (Nat.le_of_ble_eq_true rfl) (Nat.le_of_ble_eq_true rfl) (Nat.le_of_ble_eq_true rfl) am_xh_nx (am_C_mono h (fun v K51 N52 I53 P54 z55 h => ?_) (fun _ _ _ _ _ _ h => h))
            show am_E d m_X7_route 100 _ _ _ [] K51 N52 I53 P54 z55 Q X
            refine e_iload_n dX7_route_100 rfl ?_
            exact e_ret_i dX7_route_101 rfl (Nat.le_of_ble_eq_true rfl) (Nat.le_of_ble_eq_true rfl) h
          · replace h := h.2 hc
            exact e_throw (tx := "there is no room for another route") dX7_route_74 dX7_route_77 dX7_route_78 dX7_route_80 dX7_route_83 (by decide) ck_X7_73 xi_2 xt_X7_77 (by decide) rfl (by omega) (Nat.le_of_ble_eq_true rfl) (Nat.le_of_ble_eq_true rfl) (Nat.le_of_ble_eq_true rfl) h
      · replace h := h.2 hc
        exact e_throw (tx := "there is no such lane") dX7_route_32 dX7_route_35 dX7_route_36 dX7_route_38 dX7_route_41 (by decide) ck_X7_50 xi_0 xt_X7_54 (by decide) rfl (by omega) (Nat.le_of_ble_eq_true rfl) (Nat.le_of_ble_eq_true rfl) (Nat.le_of_ble_eq_true rfl) h
    · replace h := h.2 hc
      exact e_throw (tx := "the code is out of range") dX7_route_11 dX7_route_14 dX7_route_15 dX7_route_17 dX7_route_20 (by decide) ck_X7_64 xi_1 xt_X7_68 (by decide) rfl (by omega) (Nat.le_of_ble_eq_true rfl) (Nat.le_of_ble_eq_true rfl) (Nat.le_of_ble_eq_true rfl) h
set_option maxRecDepth 100000 in
set_option maxHeartbeats 4000000 in
theorem wf_X7_removeRoute {d : Nat} (hd : 6 ≤ d) {s : Nat} {a1 : Int} {K N : Nat → Nat} {I : Nat → Nat → Int} {P : Nat → Nat → Option Nat} {z : Nat} {Q : am_V → am_T} {X : Nat → am_T} (h :
  ((a1 < 0 →
    X 1 K N I P z) ∧
    (¬ (a1 < 0) →
    ((a1 ≤ 999 →
      K s = 7 ∧ ∃ b2, P s 0 = some b2 ∧ K b2 = 6 ∧ ∃ b4, P b2 3 = some b4 ∧ K b4 = 3 ∧ am_C (d - 1) m_X3_laneOf [am_r b4, am_i a1] K N I P z (fun v K5 N6 I7 P8 z9 => am_iv v fun x11 =>
        ((¬ x11 = (-1) →
        K5 s = 7 ∧ am_C (d - 1) m_X7_save [am_r s] K5 N6 I7 P8 z9 (fun _ K12 N13 I14 P15 z16 =>
          K12 s = 7 ∧ ∃ b19, P15 s 0 = some b19 ∧ K12 b19 = 6 ∧ ∃ b21, P15 b19 3 = some b21 ∧ K12 b21 = 3 ∧ am_C (d - 1) m_X3_drop [am_r b21, am_i a1] K12 N13 I14 P15 z16 (fun _ K22 N23 I24 P25 z26 =>
          Q (am_i x11) K22 N23 I24 P25 z26) am_nx) am_nx) ∧
        (x11 = (-1) →
        X 2 K5 N6 I7 P8 z9))) am_nx) ∧
      (¬ (a1 ≤ 999) →
      X 1 K N I P z))))) :
  am_C d m_X7_removeRoute [am_r s, am_i a1] K N I P z Q X := by
  refine am_C_of ok_X7_removeRoute (fun v hv => am_v1all _ rfl v hv) (Nat.le_of_ble_eq_true rfl) ?_
  show am_E d m_X7_removeRoute 0 0 0 [some (am_r s), some (am_i a1), none] [] K N I P z Q X
  refine e_iload_n dX7_removeRoute_0 rfl ?_
  refine e_if_lt (tgt := 11) dX7_removeRoute_1 (by decide) (fun hc => ?_) (fun hc => ?_)
  · replace h := h.1 hc
    exact e_throw (tx := "the code is out of range") dX7_removeRoute_11 dX7_removeRoute_14 dX7_removeRoute_15 dX7_removeRoute_17 dX7_removeRoute_20 (by decide) ck_X7_64 xi_1 xt_X7_68 (by decide) rfl (by omega) (Nat.le_of_ble_eq_true rfl) (Nat.le_of_ble_eq_true rfl) (Nat.le_of_ble_eq_true rfl) h
  · replace h := h.2 hc
    refine e_iload_n dX7_removeRoute_4 rfl ?_
    refine e_sipush dX7_removeRoute_5 ?_
    refine e_icmp_le (tgt := 21) dX7_removeRoute_8 (by decide) (fun hc => ?_) (fun hc => ?_)
    · replace h := h.1 hc
      refine e_aload_n dX7_removeRoute_21 rfl trivial ?_
      obtain ⟨hK1, h⟩ := h
      obtain ⟨b2, hb2, h⟩ := h
      refine e_getr1 dX7_removeRoute_22 fk_X7_43 rfl hK1 hb2 ?_
      obtain ⟨hK3, h⟩ := h
      obtain ⟨b4, hb4, h⟩ := h
      refine e_getr1 dX7_removeRoute_25 fk_X7_116 rfl hK3 hb4 ?_
      refine e_iload_n dX7_removeRoute_28 rfl ?_
      obtain ⟨hK10, h⟩ := h
      refine e_callV (Mc := m_X3_laneOf) (vs := [am_i a1]) (st := []) dX7_removeRoute_29 ok_X3_laneOf rfl ⟨by decide, rfl⟩ mk_X7_120 im_X3_laneOf sl_X3_laneOf rfl rfl hK10 (by omega) (Nat.le_of_ble_eq_true rfl) (Nat.le_of_ble_eq_true rfl) (Nat.le_of_ble_eq_true rfl) am_xh_nx (am_C_mono h (fun v K5 N6 I7 P8 z9 h => ?_) (fun _ _ _ _ _ _ h => h))
      replace h := am_iv_or h
      obtain ⟨x11, rfl, h⟩ := h
      show am_E d m_X7_removeRoute 32 _ _ _ [am_i x11] K5 N6 I7 P8 z9 Q X
      refine e_istore_n dX7_removeRoute_32 ?_
      refine e_iload_n dX7_removeRoute_33 rfl ?_
      refine e_iconst dX7_removeRoute_34 ?_
      refine e_icmp_ne (tgt := 48) dX7_removeRoute_35 (by decide) (fun hc => ?_) (fun hc => ?_)
      · replace h := h.1 hc
        refine e_aload_n dX7_removeRoute_48 rfl trivial ?_
        obtain ⟨hK17, h⟩ := h
        refine e_callV (Mc := m_X7_save) (vs := []) (st := []) dX7_removeRoute_49 ok_X7_save rfl ⟨by decide, rfl⟩ mk_X7_78 im_X7_save sl_X7_save rfl rfl hK17 (by omega) (Nat.le_of_ble_eq_true rfl) (Nat.le_of_ble_eq_true rfl) (Nat.le_of_ble_eq_true rfl) am_xh_nx (am_C_mono h (fun v K12 N13 I14 P15 z16 h => ?_) (fun _ _ _ _ _ _ h => h))
        show am_E d m_X7_removeRoute 52 _ _ _ [] K12 N13 I14 P15 z16 Q X
        refine e_aload_n dX7_removeRoute_52 rfl trivial ?_
        obtain ⟨hK18, h⟩ := h
        obtain ⟨b19, hb19, h⟩ := h
        refine e_getr1 dX7_removeRoute_53 fk_X7_43 rfl hK18 hb19 ?_
        obtain ⟨hK20, h⟩ := h
        obtain ⟨b21, hb21, h⟩ := h
        refine e_getr1 dX7_removeRoute_56 fk_X7_116 rfl hK20 hb21 ?_
        refine e_iload_n dX7_removeRoute_59 rfl ?_
        obtain ⟨hK27, h⟩ := h
        refine e_callV (Mc := m_X3_drop) (vs := [am_i a1]) (st := []) dX7_removeRoute_60 ok_X3_drop rfl ⟨by decide, rfl⟩ mk_X7_137 im_X3_drop sl_X3_drop rfl rfl hK27 (by omega) (Nat.le_of_ble_eq_true rfl) (Nat.le_of_ble_eq_true rfl) (Nat.le_of_ble_eq_true rfl) am_xh_nx (am_C_mono h (fun v K22 N23 I24 P25 z26 h => ?_) (fun _ _ _ _ _ _ h => h))
        show am_E d m_X7_removeRoute 63 _ _ _ [] K22 N23 I24 P25 z26 Q X
        refine e_iload_n dX7_removeRoute_63 rfl ?_
        exact e_ret_i dX7_removeRoute_64 rfl (Nat.le_of_ble_eq_true rfl) (Nat.le_of_ble_eq_true rfl) h
      · replace h := h.2 hc
        exact e_throw (tx := "there is no route of this code") dX7_removeRoute_38 dX7_removeRoute_41 dX7_removeRoute_42 dX7_removeRoute_44 dX7_removeRoute_47 (by decide) ck_X7_73 xi_2 xt_X7_77 (by decide) rfl (by omega) (Nat.le_of_ble_eq_true rfl) (Nat.le_of_ble_eq_true rfl) (Nat.le_of_ble_eq_true rfl) h
    · replace h := h.2 hc
      exact e_throw (tx := "the code is out of range") dX7_removeRoute_11 dX7_removeRoute_14 dX7_removeRoute_15 dX7_removeRoute_17 dX7_removeRoute_20 (by decide) ck_X7_64 xi_1 xt_X7_68 (by decide) rfl (by omega) (Nat.le_of_ble_eq_true rfl) (Nat.le_of_ble_eq_true rfl) (Nat.le_of_ble_eq_true rfl) h
set_option maxRecDepth 100000 in
set_option maxHeartbeats 4000000 in
theorem wf_X7_enter {d : Nat} (hd : 6 ≤ d) {s : Nat} {a1 : Int} {K N : Nat → Nat} {I : Nat → Nat → Int} {P : Nat → Nat → Option Nat} {z : Nat} {Q : am_V → am_T} {X : Nat → am_T} (h :
  ((a1 < 10 →
    X 1 K N I P z) ∧
    (¬ (a1 < 10) →
    ((a1 ≤ 400 →
      K s = 7 ∧ ∃ b2, P s 0 = some b2 ∧ K b2 = 6 ∧ am_C (d - 1) m_X6_freeAtEntry [am_r b2] K N I P z (fun v K3 N4 I5 P6 z7 => am_iv v fun x9 =>
        ((0 ≤ x9 →
        K3 s = 7 ∧ ∃ b11, P6 s 0 = some b11 ∧ K3 b11 = 6 ∧ ((20 ≤ I5 b11 6 →
          X 2 K3 N4 I5 P6 z7) ∧
          (¬ (20 ≤ I5 b11 6) →
          ((I5 b11 7 < 300 →
            am_C (d - 1) m_X7_save [am_r s] K3 N4 I5 P6 z7 (fun _ K13 N14 I15 P16 z17 =>
              K13 s = 7 ∧ ∃ b19, P16 s 0 = some b19 ∧ K13 b19 = 6 ∧ am_C (d - 1) m_X6_beginPart [am_r b19, am_i a1] K13 N14 I15 P16 z17 (fun v K20 N21 I22 P23 z24 => am_iv v fun x26 =>
              Q (am_i x26) K20 N21 I22 P23 z24) am_nx) am_nx) ∧
            (¬ (I5 b11 7 < 300) →
            X 2 K3 N4 I5 P6 z7))))) ∧
        (¬ (0 ≤ x9) →
        X 2 K3 N4 I5 P6 z7))) am_nx) ∧
      (¬ (a1 ≤ 400) →
      X 1 K N I P z))))) :
  am_C d m_X7_enter [am_r s, am_i a1] K N I P z Q X := by
  refine am_C_of ok_X7_enter (fun v hv => am_v1all _ rfl v hv) (Nat.le_of_ble_eq_true rfl) ?_
  show am_E d m_X7_enter 0 0 0 [some (am_r s), some (am_i a1)] [] K N I P z Q X
  refine e_iload_n dX7_enter_0 rfl ?_
  refine e_bipush dX7_enter_1 ?_
  refine e_icmp_lt (tgt := 13) dX7_enter_3 (by decide) (fun hc => ?_) (fun hc => ?_)
  · replace h := h.1 hc
    exact e_throw (tx := "the length is out of range") dX7_enter_13 dX7_enter_16 dX7_enter_17 dX7_enter_19 dX7_enter_22 (by decide) ck_X7_64 xi_1 xt_X7_68 (by decide) rfl (by omega) (Nat.le_of_ble_eq_true rfl) (Nat.le_of_ble_eq_true rfl) (Nat.le_of_ble_eq_true rfl) h
  · replace h := h.2 hc
    refine e_iload_n dX7_enter_6 rfl ?_
    refine e_sipush dX7_enter_7 ?_
    refine e_icmp_le (tgt := 23) dX7_enter_10 (by decide) (fun hc => ?_) (fun hc => ?_)
    · replace h := h.1 hc
      refine e_aload_n dX7_enter_23 rfl trivial ?_
      obtain ⟨hK1, h⟩ := h
      obtain ⟨b2, hb2, h⟩ := h
      refine e_getr1 dX7_enter_24 fk_X7_43 rfl hK1 hb2 ?_
      obtain ⟨hK8, h⟩ := h
      refine e_callV (Mc := m_X6_freeAtEntry) (vs := []) (st := []) dX7_enter_27 ok_X6_freeAtEntry rfl ⟨by decide, rfl⟩ mk_X7_142 im_X6_freeAtEntry sl_X6_freeAtEntry rfl rfl hK8 (by omega) (Nat.le_of_ble_eq_true rfl) (Nat.le_of_ble_eq_true rfl) (Nat.le_of_ble_eq_true rfl) am_xh_nx (am_C_mono h (fun v K3 N4 I5 P6 z7 h => ?_) (fun _ _ _ _ _ _ h => h))
      replace h := am_iv_or h
      obtain ⟨x9, rfl, h⟩ := h
      show am_E d m_X7_enter 30 _ _ _ [am_i x9] K3 N4 I5 P6 z7 Q X
      refine e_if_ge (tgt := 43) dX7_enter_30 (by decide) (fun hc => ?_) (fun hc => ?_)
      · replace h := h.1 hc
        refine e_aload_n dX7_enter_43 rfl trivial ?_
        obtain ⟨hK10, h⟩ := h
        obtain ⟨b11, hb11, h⟩ := h
        refine e_getr1 dX7_enter_44 fk_X7_43 rfl hK10 hb11 ?_
        obtain ⟨hK12, h⟩ := h
        refine e_geti dX7_enter_47 fk_X7_69 rfl hK12 ?_
        refine e_bipush dX7_enter_50 ?_
        refine e_icmp_ge (tgt := 68) dX7_enter_52 (by decide) (fun hc => ?_) (fun hc => ?_)
        · replace h := h.1 hc
          exact e_throw (tx := "there is no room for another part") dX7_enter_68 dX7_enter_71 dX7_enter_72 dX7_enter_74 dX7_enter_77 (by decide) ck_X7_73 xi_2 xt_X7_77 (by decide) rfl (by omega) (Nat.le_of_ble_eq_true rfl) (Nat.le_of_ble_eq_true rfl) (Nat.le_of_ble_eq_true rfl) h
        · replace h := h.2 hc
          refine e_aload_n dX7_enter_55 rfl trivial ?_
          refine e_getr1 dX7_enter_56 fk_X7_43 rfl hK10 hb11 ?_
          refine e_geti dX7_enter_59 fk_X7_148 rfl hK12 ?_
          refine e_sipush dX7_enter_62 ?_
          refine e_icmp_lt (tgt := 78) dX7_enter_65 (by decide) (fun hc => ?_) (fun hc => ?_)
          · replace h := h.1 hc
            refine e_aload_n dX7_enter_78 rfl trivial ?_
            refine e_callV (Mc := m_X7_save) (vs := []) (st := []) dX7_enter_79 ok_X7_save rfl ⟨by decide, rfl⟩ mk_X7_78 im_X7_save sl_X7_save rfl rfl hK10 (by omega) (Nat.le_of_ble_eq_true rfl) (Nat.le_of_ble_eq_true rfl) (Nat.le_of_ble_eq_true rfl) am_xh_nx (am_C_mono h (fun v K13 N14 I15 P16 z17 h => ?_) (fun _ _ _ _ _ _ h => h))
            show am_E d m_X7_enter 82 _ _ _ [] K13 N14 I15 P16 z17 Q X
            refine e_aload_n dX7_enter_82 rfl trivial ?_
            obtain ⟨hK18, h⟩ := h
            obtain ⟨b19, hb19, h⟩ := h
            refine e_getr1 dX7_enter_83 fk_X7_43 rfl hK18 hb19 ?_
            refine e_iload_n dX7_enter_86 rfl ?_
            obtain ⟨hK25, h⟩ := h
            refine e_callV (Mc := m_X6_beginPart) (vs := [am_i a1]) (st := []) dX7_enter_87 ok_X6_beginPart rfl ⟨by decide, rfl⟩ mk_X7_153 im_X6_beginPart sl_X6_beginPart rfl rfl hK25 (by omega) (Nat.le_of_ble_eq_true rfl) (Nat.le_of_ble_eq_true rfl) (Nat.le_of_ble_eq_true rfl) am_xh_nx (am_C_mono h (fun v K20 N21 I22 P23 z24 h => ?_) (fun _ _ _ _ _ _ h => h))
            replace h := am_iv_or h
            obtain ⟨x26, rfl, h⟩ := h
            show am_E d m_X7_enter 90 _ _ _ [am_i x26] K20 N21 I22 P23 z24 Q X
            exact e_ret_i dX7_enter_90 rfl (Nat.le_of_ble_eq_true rfl) (Nat.le_of_ble_eq_true rfl) h
          · replace h := h.2 hc
            exact e_throw (tx := "there is no room for another part") dX7_enter_68 dX7_enter_71 dX7_enter_72 dX7_enter_74 dX7_enter_77 (by decide) ck_X7_73 xi_2 xt_X7_77 (by decide) rfl (by omega) (Nat.le_of_ble_eq_true rfl) (Nat.le_of_ble_eq_true rfl) (Nat.le_of_ble_eq_true rfl) h
      · replace h := h.2 hc
        exact e_throw (tx := "the entry is not free") dX7_enter_33 dX7_enter_36 dX7_enter_37 dX7_enter_39 dX7_enter_42 (by decide) ck_X7_73 xi_2 xt_X7_77 (by decide) rfl (by omega) (Nat.le_of_ble_eq_true rfl) (Nat.le_of_ble_eq_true rfl) (Nat.le_of_ble_eq_true rfl) h
    · replace h := h.2 hc
      exact e_throw (tx := "the length is out of range") dX7_enter_13 dX7_enter_16 dX7_enter_17 dX7_enter_19 dX7_enter_22 (by decide) ck_X7_64 xi_1 xt_X7_68 (by decide) rfl (by omega) (Nat.le_of_ble_eq_true rfl) (Nat.le_of_ble_eq_true rfl) (Nat.le_of_ble_eq_true rfl) h
set_option maxRecDepth 100000 in
set_option maxHeartbeats 4000000 in
theorem wf_X7_read {d : Nat} (hd : 6 ≤ d) {s : Nat} {a1 : Int} {K N : Nat → Nat} {I : Nat → Nat → Int} {P : Nat → Nat → Option Nat} {z : Nat} {Q : am_V → am_T} {X : Nat → am_T} (h :
  ((a1 < 0 →
    X 1 K N I P z) ∧
    (¬ (a1 < 0) →
    ((a1 ≤ 999 →
      K s = 7 ∧ am_C (d - 1) m_X7_save [am_r s] K N I P z (fun _ K1 N2 I3 P4 z5 =>
        K1 s = 7 ∧ ∃ b8, P4 s 0 = some b8 ∧ K1 b8 = 6 ∧ am_C (d - 1) m_X6_ownerOfRead [am_r b8] K1 N2 I3 P4 z5 (fun v K9 N10 I11 P12 z13 => am_ov v fun o15 =>
        ((o15 = none →
        K9 s = 7 ∧ ∃ b18, P12 s 0 = some b18 ∧ K9 b18 = 6 ∧ ∀ I20, I20 = am_u2 I11 b18 9 (am_wr (I11 b18 9 + 1)) → Q (am_i (-1)) K9 N10 I20 P12 z13) ∧
        (∀ b16, o15 = some b16 →
        K9 s = 7 ∧ ∃ b22, P12 s 0 = some b22 ∧ K9 b22 = 6 ∧ ∃ b24, P12 b22 0 = some b24 ∧ K9 b24 = 10 ∧ (0 ≤ (2 : Int) ∧ (2 : Int) < N10 b24) ∧ K9 b16 = 2 ∧ am_C (d - 1) m_X2_accept [am_r b16, am_i a1, am_i (I11 b22 8), am_i (I11 b24 2)] K9 N10 I11 P12 z13 (fun _ K26 N27 I28 P29 z30 =>
          K26 b16 = 2 ∧ Q (am_i (I28 b16 0)) K26 N27 I28 P29 z30) am_nx))) am_nx) am_nx) ∧
      (¬ (a1 ≤ 999) →
      X 1 K N I P z))))) :
  am_C d m_X7_read [am_r s, am_i a1] K N I P z Q X := by
  refine am_C_of ok_X7_read (fun v hv => am_v1all _ rfl v hv) (Nat.le_of_ble_eq_true rfl) ?_
  show am_E d m_X7_read 0 0 0 [some (am_r s), some (am_i a1), none] [] K N I P z Q X
  refine e_iload_n dX7_read_0 rfl ?_
  refine e_if_lt (tgt := 11) dX7_read_1 (by decide) (fun hc => ?_) (fun hc => ?_)
  · replace h := h.1 hc
    exact e_throw (tx := "the code is out of range") dX7_read_11 dX7_read_14 dX7_read_15 dX7_read_17 dX7_read_20 (by decide) ck_X7_64 xi_1 xt_X7_68 (by decide) rfl (by omega) (Nat.le_of_ble_eq_true rfl) (Nat.le_of_ble_eq_true rfl) (Nat.le_of_ble_eq_true rfl) h
  · replace h := h.2 hc
    refine e_iload_n dX7_read_4 rfl ?_
    refine e_sipush dX7_read_5 ?_
    refine e_icmp_le (tgt := 21) dX7_read_8 (by decide) (fun hc => ?_) (fun hc => ?_)
    · replace h := h.1 hc
      refine e_aload_n dX7_read_21 rfl trivial ?_
      obtain ⟨hK6, h⟩ := h
      refine e_callV (Mc := m_X7_save) (vs := []) (st := []) dX7_read_22 ok_X7_save rfl ⟨by decide, rfl⟩ mk_X7_78 im_X7_save sl_X7_save rfl rfl hK6 (by omega) (Nat.le_of_ble_eq_true rfl) (Nat.le_of_ble_eq_true rfl) (Nat.le_of_ble_eq_true rfl) am_xh_nx (am_C_mono h (fun v K1 N2 I3 P4 z5 h => ?_) (fun _ _ _ _ _ _ h => h))
      show am_E d m_X7_read 25 _ _ _ [] K1 N2 I3 P4 z5 Q X
      refine e_aload_n dX7_read_25 rfl trivial ?_
      obtain ⟨hK7, h⟩ := h
      obtain ⟨b8, hb8, h⟩ := h
      refine e_getr1 dX7_read_26 fk_X7_43 rfl hK7 hb8 ?_
      obtain ⟨hK14, h⟩ := h
      refine e_callV (Mc := m_X6_ownerOfRead) (vs := []) (st := []) dX7_read_29 ok_X6_ownerOfRead rfl ⟨by decide, rfl⟩ mk_X7_156 im_X6_ownerOfRead sl_X6_ownerOfRead rfl rfl hK14 (by omega) (Nat.le_of_ble_eq_true rfl) (Nat.le_of_ble_eq_true rfl) (Nat.le_of_ble_eq_true rfl) am_xh_nx (am_C_mono h (fun v K9 N10 I11 P12 z13 h => ?_) (fun _ _ _ _ _ _ h => h))
      replace h := am_ov_or h
      obtain ⟨o15, rfl, h⟩ := h
      show am_E d m_X7_read 32 _ _ _ [am_o o15] K9 N10 I11 P12 z13 Q X
      refine e_astore_n dX7_read_32 (am_isref_o _) ?_
      refine e_aload_n dX7_read_33 rfl (am_isref_o _) ?_
      refine e_ifnonnull1 (tgt := 52) dX7_read_34 (by decide) (fun hc => ?_) (fun b16 hc => ?_)
      · replace h := h.1 hc
        refine e_aload_n dX7_read_37 rfl trivial ?_
        obtain ⟨hK17, h⟩ := h
        obtain ⟨b18, hb18, h⟩ := h
        refine e_getr1 dX7_read_38 fk_X7_43 rfl hK17 hb18 ?_
        refine e_dup dX7_read_41 rfl ?_
        obtain ⟨hK19, h⟩ := h
        refine e_geti dX7_read_42 fk_X7_160 rfl hK19 ?_
        refine e_iconst dX7_read_45 ?_
        refine e_iadd dX7_read_46 ?_
        refine e_puti dX7_read_47 fk_X7_160 rfl (Or.inl rfl) hK19 ?_
        replace h := h _ rfl
        generalize am_u2 I11 b18 9 (am_wr (I11 b18 9 + 1)) = I20 at h ⊢
        refine e_iconst dX7_read_50 ?_
        exact e_ret_i dX7_read_51 rfl (Nat.le_of_ble_eq_true rfl) (Nat.le_of_ble_eq_true rfl) h
      · replace h := h.2 b16 hc
        subst hc
        refine e_aload_n dX7_read_52 rfl trivial ?_
        refine e_iload_n dX7_read_53 rfl ?_
        refine e_aload_n dX7_read_54 rfl trivial ?_
        obtain ⟨hK21, h⟩ := h
        obtain ⟨b22, hb22, h⟩ := h
        refine e_getr1 dX7_read_55 fk_X7_43 rfl hK21 hb22 ?_
        obtain ⟨hK23, h⟩ := h
        refine e_geti dX7_read_58 fk_X7_163 rfl hK23 ?_
        refine e_aload_n dX7_read_61 rfl trivial ?_
        refine e_getr1 dX7_read_62 fk_X7_43 rfl hK21 hb22 ?_
        obtain ⟨b24, hb24, h⟩ := h
        refine e_getr1 dX7_read_65 fk_X7_81 rfl hK23 hb24 ?_
        refine e_iconst dX7_read_68 ?_
        obtain ⟨hK25, h⟩ := h
        obtain ⟨⟨h0, h1⟩, h⟩ := h
        refine e_iald dX7_read_69 hK25 h0 h1 ?_
        show am_E _ _ _ _ _ _ (am_i (I11 b24 2) :: _) _ _ _ _ _ _ _
        obtain ⟨hK31, h⟩ := h
        refine e_callV (Mc := m_X2_accept) (vs := [am_i a1, am_i (I11 b22 8), am_i (I11 b24 2)]) (st := []) dX7_read_70 ok_X2_accept rfl ⟨by decide, rfl⟩ mk_X7_166 im_X2_accept sl_X2_accept rfl rfl hK31 (by omega) (Nat.le_of_ble_eq_true rfl) (Nat.le_of_ble_eq_true rfl) (Nat.le_of_ble_eq_true rfl) am_xh_nx (am_C_mono h (fun v K26 N27 I28 P29 z30 h => ?_) (fun _ _ _ _ _ _ h => h))
        show am_E d m_X7_read 73 _ _ _ [] K26 N27 I28 P29 z30 Q X
        refine e_aload_n dX7_read_73 rfl trivial ?_
        obtain ⟨hK32, h⟩ := h
        refine e_geti dX7_read_74 fk_X7_171 rfl hK32 ?_
        exact e_ret_i dX7_read_77 rfl (Nat.le_of_ble_eq_true rfl) (Nat.le_of_ble_eq_true rfl) h
    · replace h := h.2 hc
      exact e_throw (tx := "the code is out of range") dX7_read_11 dX7_read_14 dX7_read_15 dX7_read_17 dX7_read_20 (by decide) ck_X7_64 xi_1 xt_X7_68 (by decide) rfl (by omega) (Nat.le_of_ble_eq_true rfl) (Nat.le_of_ble_eq_true rfl) (Nat.le_of_ble_eq_true rfl) h
def L_X7_move_70 (d : Nat) (l0 : Nat) (l1 : Int) (l2 : Int) (l3 : Int) (l4 : Int) (K N : Nat → Nat) (I : Nat → Nat → Int) (P : Nat → Nat → Option Nat) (z : Nat) (Q : am_V → am_T) (X : Nat → am_T) : Prop := am_E d m_X7_move 70 0 0 [some (am_r l0), some (am_i l1), some (am_i l2), some (am_i l3), some (am_i l4)] [] K N I P z Q X
set_option maxRecDepth 100000 in
set_option maxHeartbeats 4000000 in
theorem wf_X7_move {d : Nat} (hd : 6 ≤ d) {s : Nat} {a1 : Int} {K N : Nat → Nat} {I : Nat → Nat → Int} {P : Nat → Nat → Option Nat} {z : Nat} {Q : am_V → am_T} {X : Nat → am_T} (h :
  ((a1 < 1 →
    X 1 K N I P z) ∧
    (¬ (a1 < 1) →
    ((a1 ≤ 500 →
      K s = 7 ∧ ∃ b2, P s 0 = some b2 ∧ K b2 = 6 ∧ ((am_wr (I b2 8 + a1) ≤ 50000 →
        am_C (d - 1) m_X7_save [am_r s] K N I P z (fun _ K4 N5 I6 P7 z8 =>
          K4 s = 7 ∧ ∃ b10, P7 s 0 = some b10 ∧ K4 b10 = 6 ∧ am_C (d - 1) m_X6_aimParts [am_r b10] K4 N5 I6 P7 z8 (fun _ K12 N13 I14 P15 z16 =>
          L_X7_move_70 d s a1 (I6 b10 6) 0 0 K12 N13 I14 P15 z16 Q X) am_nx) am_nx) ∧
        (¬ (am_wr (I b2 8 + a1) ≤ 50000) →
        X 2 K N I P z))) ∧
      (¬ (a1 ≤ 500) →
      X 1 K N I P z))))) :
  am_C d m_X7_move [am_r s, am_i a1] K N I P z Q X := by
  refine am_C_of ok_X7_move (fun v hv => am_v1all _ rfl v hv) (Nat.le_of_ble_eq_true rfl) ?_
  show am_E d m_X7_move 0 0 0 [some (am_r s), some (am_i a1), none, none, none] [] K N I P z Q X
  refine e_iload_n dX7_move_0 rfl ?_
  refine e_iconst dX7_move_1 ?_
  refine e_icmp_lt (tgt := 12) dX7_move_2 (by decide) (fun hc => ?_) (fun hc => ?_)
  · replace h := h.1 hc
    exact e_throw (tx := "the number of millimeters is out of range") dX7_move_12 dX7_move_15 dX7_move_16 dX7_move_18 dX7_move_21 (by decide) ck_X7_64 xi_1 xt_X7_68 (by decide) rfl (by omega) (Nat.le_of_ble_eq_true rfl) (Nat.le_of_ble_eq_true rfl) (Nat.le_of_ble_eq_true rfl) h
  · replace h := h.2 hc
    refine e_iload_n dX7_move_5 rfl ?_
    refine e_sipush dX7_move_6 ?_
    refine e_icmp_le (tgt := 22) dX7_move_9 (by decide) (fun hc => ?_) (fun hc => ?_)
    · replace h := h.1 hc
      refine e_aload_n dX7_move_22 rfl trivial ?_
      obtain ⟨hK1, h⟩ := h
      obtain ⟨b2, hb2, h⟩ := h
      refine e_getr1 dX7_move_23 fk_X7_43 rfl hK1 hb2 ?_
      obtain ⟨hK3, h⟩ := h
      refine e_geti dX7_move_26 fk_X7_163 rfl hK3 ?_
      refine e_iload_n dX7_move_29 rfl ?_
      refine e_iadd dX7_move_30 ?_
      refine e_ldc dX7_move_31 lc_X7_176 ?_
      refine e_icmp_le (tgt := 46) dX7_move_33 (by decide) (fun hc => ?_) (fun hc => ?_)
      · replace h := h.1 hc
        refine e_aload_n dX7_move_46 rfl trivial ?_
        refine e_callV (Mc := m_X7_save) (vs := []) (st := []) dX7_move_47 ok_X7_save rfl ⟨by decide, rfl⟩ mk_X7_78 im_X7_save sl_X7_save rfl rfl hK1 (by omega) (Nat.le_of_ble_eq_true rfl) (Nat.le_of_ble_eq_true rfl) (Nat.le_of_ble_eq_true rfl) am_xh_nx (am_C_mono h (fun v K4 N5 I6 P7 z8 h => ?_) (fun _ _ _ _ _ _ h => h))
        show am_E d m_X7_move 50 _ _ _ [] K4 N5 I6 P7 z8 Q X
        refine e_aload_n dX7_move_50 rfl trivial ?_
        obtain ⟨hK9, h⟩ := h
        obtain ⟨b10, hb10, h⟩ := h
        refine e_getr1 dX7_move_51 fk_X7_43 rfl hK9 hb10 ?_
        obtain ⟨hK11, h⟩ := h
        refine e_geti dX7_move_54 fk_X7_69 rfl hK11 ?_
        refine e_istore_n dX7_move_57 ?_
        refine e_aload_n dX7_move_58 rfl trivial ?_
        refine e_getr1 dX7_move_59 fk_X7_43 rfl hK9 hb10 ?_
        refine e_callV (Mc := m_X6_aimParts) (vs := []) (st := []) dX7_move_62 ok_X6_aimParts rfl ⟨by decide, rfl⟩ mk_X7_179 im_X6_aimParts sl_X6_aimParts rfl rfl hK11 (by omega) (Nat.le_of_ble_eq_true rfl) (Nat.le_of_ble_eq_true rfl) (Nat.le_of_ble_eq_true rfl) am_xh_nx (am_C_mono h (fun v K12 N13 I14 P15 z16 h => ?_) (fun _ _ _ _ _ _ h => h))
        show am_E d m_X7_move 65 _ _ _ [] K12 N13 I14 P15 z16 Q X
        refine e_iconst dX7_move_65 ?_
        refine e_istore_n dX7_move_66 ?_
        refine e_iconst dX7_move_67 ?_
        refine e_istore dX7_move_68 ?_
        exact e_forget (am_sub_k (am_sub_k (am_sub_k (am_sub_k (am_sub_k am_sub_nil))))) h
      · replace h := h.2 hc
        exact e_throw (tx := "the belt can't move so far") dX7_move_36 dX7_move_39 dX7_move_40 dX7_move_42 dX7_move_45 (by decide) ck_X7_73 xi_2 xt_X7_77 (by decide) rfl (by omega) (Nat.le_of_ble_eq_true rfl) (Nat.le_of_ble_eq_true rfl) (Nat.le_of_ble_eq_true rfl) h
    · replace h := h.2 hc
      exact e_throw (tx := "the number of millimeters is out of range") dX7_move_12 dX7_move_15 dX7_move_16 dX7_move_18 dX7_move_21 (by decide) ck_X7_64 xi_1 xt_X7_68 (by decide) rfl (by omega) (Nat.le_of_ble_eq_true rfl) (Nat.le_of_ble_eq_true rfl) (Nat.le_of_ble_eq_true rfl) h
set_option maxRecDepth 100000 in
set_option maxHeartbeats 4000000 in
theorem wf_X7_move_70 {d : Nat} (hd : 1 ≤ d) {l0 : Nat} {l1 : Int} {l2 : Int} {l3 : Int} {l4 : Int} {K N : Nat → Nat} {I : Nat → Nat → Int} {P : Nat → Nat → Option Nat} {z : Nat} {Q : am_V → am_T} {X : Nat → am_T} (h :
  ((l1 ≤ l4 →
    K l0 = 7 ∧ am_C (d - 1) m_X7_keepDeparted [am_r l0, am_i l2] K N I P z (fun _ K1 N2 I3 P4 z5 =>
      K1 l0 = 7 ∧ ∃ b8, P4 l0 0 = some b8 ∧ K1 b8 = 6 ∧ Q (am_i (am_wr (l2 - I3 b8 6))) K1 N2 I3 P4 z5) am_nx) ∧
    (¬ (l1 ≤ l4) →
    ((l1 ≤ l3 →
      K l0 = 7 ∧ am_C (d - 1) m_X7_keepDeparted [am_r l0, am_i l2] K N I P z (fun _ K10 N11 I12 P13 z14 =>
        K10 l0 = 7 ∧ ∃ b17, P13 l0 0 = some b17 ∧ K10 b17 = 6 ∧ Q (am_i (am_wr (l2 - I12 b17 6))) K10 N11 I12 P13 z14) am_nx) ∧
      (¬ (l1 ≤ l3) →
      K l0 = 7 ∧ ∃ b20, P l0 0 = some b20 ∧ K b20 = 6 ∧ am_C (d - 1) m_X6_stride [am_r b20, am_i (am_wr (l1 - l3))] K N I P z (fun v K21 N22 I23 P24 z25 => am_iv v fun x27 =>
        L_X7_move_70 d l0 l1 l2 (am_wr (l3 + x27)) (am_wr (l4 + 1)) K21 N22 I23 P24 z25 Q X) am_nx))))) :
  L_X7_move_70 d l0 l1 l2 l3 l4 K N I P z Q X := by
  unfold L_X7_move_70
  refine e_iload dX7_move_70 rfl ?_
  refine e_iload_n dX7_move_72 rfl ?_
  refine e_icmp_ge (tgt := 100) dX7_move_73 (by decide) (fun hc => ?_) (fun hc => ?_)
  · replace h := h.1 hc
    refine e_aload_n dX7_move_100 rfl trivial ?_
    refine e_iload_n dX7_move_101 rfl ?_
    obtain ⟨hK6, h⟩ := h
    refine e_callV (Mc := m_X7_keepDeparted) (vs := [am_i l2]) (st := []) dX7_move_102 ok_X7_keepDeparted rfl ⟨by decide, rfl⟩ mk_X7_185 im_X7_keepDeparted sl_X7_keepDeparted rfl rfl hK6 (by omega) (Nat.le_of_ble_eq_true rfl) (Nat.le_of_ble_eq_true rfl) (Nat.le_of_ble_eq_true rfl) am_xh_nx (am_C_mono h (fun v K1 N2 I3 P4 z5 h => ?_) (fun _ _ _ _ _ _ h => h))
    show am_E d m_X7_move 105 _ _ _ [] K1 N2 I3 P4 z5 Q X
    refine e_iload_n dX7_move_105 rfl ?_
    refine e_aload_n dX7_move_106 rfl trivial ?_
    obtain ⟨hK7, h⟩ := h
    obtain ⟨b8, hb8, h⟩ := h
    refine e_getr1 dX7_move_107 fk_X7_43 rfl hK7 hb8 ?_
    obtain ⟨hK9, h⟩ := h
    refine e_geti dX7_move_110 fk_X7_69 rfl hK9 ?_
    refine e_isub dX7_move_113 ?_
    exact e_ret_i dX7_move_114 rfl (Nat.le_of_ble_eq_true rfl) (Nat.le_of_ble_eq_true rfl) h
  · replace h := h.2 hc
    refine e_iload_n dX7_move_76 rfl ?_
    refine e_iload_n dX7_move_77 rfl ?_
    refine e_icmp_ge (tgt := 100) dX7_move_78 (by decide) (fun hc => ?_) (fun hc => ?_)
    · replace h := h.1 hc
      refine e_aload_n dX7_move_100 rfl trivial ?_
      refine e_iload_n dX7_move_101 rfl ?_
      obtain ⟨hK15, h⟩ := h
      refine e_callV (Mc := m_X7_keepDeparted) (vs := [am_i l2]) (st := []) dX7_move_102 ok_X7_keepDeparted rfl ⟨by decide, rfl⟩ mk_X7_185 im_X7_keepDeparted sl_X7_keepDeparted rfl rfl hK15 (by omega) (Nat.le_of_ble_eq_true rfl) (Nat.le_of_ble_eq_true rfl) (Nat.le_of_ble_eq_true rfl) am_xh_nx (am_C_mono h (fun v K10 N11 I12 P13 z14 h => ?_) (fun _ _ _ _ _ _ h => h))
      show am_E d m_X7_move 105 _ _ _ [] K10 N11 I12 P13 z14 Q X
      refine e_iload_n dX7_move_105 rfl ?_
      refine e_aload_n dX7_move_106 rfl trivial ?_
      obtain ⟨hK16, h⟩ := h
      obtain ⟨b17, hb17, h⟩ := h
      refine e_getr1 dX7_move_107 fk_X7_43 rfl hK16 hb17 ?_
      obtain ⟨hK18, h⟩ := h
      refine e_geti dX7_move_110 fk_X7_69 rfl hK18 ?_
      refine e_isub dX7_move_113 ?_
      exact e_ret_i dX7_move_114 rfl (Nat.le_of_ble_eq_true rfl) (Nat.le_of_ble_eq_true rfl) h
    · replace h := h.2 hc
      refine e_iload_n dX7_move_81 rfl ?_
      refine e_aload_n dX7_move_82 rfl trivial ?_
      obtain ⟨hK19, h⟩ := h
      obtain ⟨b20, hb20, h⟩ := h
      refine e_getr1 dX7_move_83 fk_X7_43 rfl hK19 hb20 ?_
      refine e_iload_n dX7_move_86 rfl ?_
      refine e_iload_n dX7_move_87 rfl ?_
      refine e_isub dX7_move_88 ?_
      obtain ⟨hK26, h⟩ := h
      refine e_callV (Mc := m_X6_stride) (vs := [am_i (am_wr (l1 - l3))]) (st := [am_i l3]) dX7_move_89 ok_X6_stride rfl ⟨by decide, rfl⟩ mk_X7_182 im_X6_stride sl_X6_stride rfl rfl hK26 (by omega) (Nat.le_of_ble_eq_true rfl) (Nat.le_of_ble_eq_true rfl) (Nat.le_of_ble_eq_true rfl) am_xh_nx (am_C_mono h (fun v K21 N22 I23 P24 z25 h => ?_) (fun _ _ _ _ _ _ h => h))
      replace h := am_iv_or h
      obtain ⟨x27, rfl, h⟩ := h
      show am_E d m_X7_move 92 _ _ _ [am_i x27, am_i l3] K21 N22 I23 P24 z25 Q X
      refine e_iadd dX7_move_92 ?_
      refine e_istore_n dX7_move_93 ?_
      refine e_iinc dX7_move_94 rfl ?_
      refine e_goto (tgt := 70) dX7_move_97 (by decide) ?_
      exact e_forget (am_sub_k (am_sub_k (am_sub_k (am_sub_k (am_sub_k am_sub_nil))))) h
set_option maxRecDepth 100000 in
set_option maxHeartbeats 4000000 in
theorem wf_X7_takeOff {d : Nat} (hd : 6 ≤ d) {s : Nat} {a1 : Int} {K N : Nat → Nat} {I : Nat → Nat → Int} {P : Nat → Nat → Option Nat} {z : Nat} {Q : am_V → am_T} {X : Nat → am_T} (h :
  K s = 7 ∧ am_C (d - 1) m_X7_hasEntered [am_r s, am_i a1] K N I P z (fun v K1 N2 I3 P4 z5 => am_iv v fun x7 =>
    ((¬ x7 = 0 →
    K1 s = 7 ∧ ∃ b9, P4 s 0 = some b9 ∧ K1 b9 = 6 ∧ am_C (d - 1) m_X6_placeOf [am_r b9, am_i a1] K1 N2 I3 P4 z5 (fun v K10 N11 I12 P13 z14 => am_iv v fun x16 =>
      ((¬ x16 = (-1) →
      K10 s = 7 ∧ am_C (d - 1) m_X7_save [am_r s] K10 N11 I12 P13 z14 (fun _ K17 N18 I19 P20 z21 =>
        K17 s = 7 ∧ ∃ b24, P20 s 0 = some b24 ∧ K17 b24 = 6 ∧ ∃ b26, P20 b24 5 = some b26 ∧ K17 b26 = 12 ∧ (0 ≤ x16 ∧ x16 < N18 b26) ∧ ∃ b28, P20 b26 (Int.toNat x16) = some b28 ∧ K17 b28 = 2 ∧ am_C (d - 1) m_X6_leave [am_r b24, am_i x16, am_i 9] K17 N18 I19 P20 z21 (fun _ K30 N31 I32 P33 z34 =>
        K30 s = 7 ∧ am_C (d - 1) m_X7_keepDeparted [am_r s, am_i (I19 b24 6)] K30 N31 I32 P33 z34 (fun _ K35 N36 I37 P38 z39 =>
        Q (am_i (I19 b28 2)) K35 N36 I37 P38 z39) am_nx) am_nx) am_nx) ∧
      (x16 = (-1) →
      X 2 K10 N11 I12 P13 z14))) am_nx) ∧
    (x7 = 0 →
    X 0 K1 N2 I3 P4 z5))) am_nx) :
  am_C d m_X7_takeOff [am_r s, am_i a1] K N I P z Q X := by
  refine am_C_of ok_X7_takeOff (fun v hv => am_v1all _ rfl v hv) (Nat.le_of_ble_eq_true rfl) ?_
  show am_E d m_X7_takeOff 0 0 0 [some (am_r s), some (am_i a1), none, none, none] [] K N I P z Q X
  refine e_aload_n dX7_takeOff_0 rfl trivial ?_
  refine e_iload_n dX7_takeOff_1 rfl ?_
  obtain ⟨hK6, h⟩ := h
  refine e_callV (Mc := m_X7_hasEntered) (vs := [am_i a1]) (st := []) dX7_takeOff_2 ok_X7_hasEntered rfl ⟨by decide, rfl⟩ mk_X7_188 im_X7_hasEntered sl_X7_hasEntered rfl rfl hK6 (by omega) (Nat.le_of_ble_eq_true rfl) (Nat.le_of_ble_eq_true rfl) (Nat.le_of_ble_eq_true rfl) am_xh_nx (am_C_mono h (fun v K1 N2 I3 P4 z5 h => ?_) (fun _ _ _ _ _ _ h => h))
  replace h := am_iv_or h
  obtain ⟨x7, rfl, h⟩ := h
  show am_E d m_X7_takeOff 5 _ _ _ [am_i x7] K1 N2 I3 P4 z5 Q X
  refine e_if_ne (tgt := 18) dX7_takeOff_5 (by decide) (fun hc => ?_) (fun hc => ?_)
  · replace h := h.1 hc
    refine e_aload_n dX7_takeOff_18 rfl trivial ?_
    obtain ⟨hK8, h⟩ := h
    obtain ⟨b9, hb9, h⟩ := h
    refine e_getr1 dX7_takeOff_19 fk_X7_43 rfl hK8 hb9 ?_
    refine e_iload_n dX7_takeOff_22 rfl ?_
    obtain ⟨hK15, h⟩ := h
    refine e_callV (Mc := m_X6_placeOf) (vs := [am_i a1]) (st := []) dX7_takeOff_23 ok_X6_placeOf rfl ⟨by decide, rfl⟩ mk_X7_193 im_X6_placeOf sl_X6_placeOf rfl rfl hK15 (by omega) (Nat.le_of_ble_eq_true rfl) (Nat.le_of_ble_eq_true rfl) (Nat.le_of_ble_eq_true rfl) am_xh_nx (am_C_mono h (fun v K10 N11 I12 P13 z14 h => ?_) (fun _ _ _ _ _ _ h => h))
    replace h := am_iv_or h
    obtain ⟨x16, rfl, h⟩ := h
    show am_E d m_X7_takeOff 26 _ _ _ [am_i x16] K10 N11 I12 P13 z14 Q X
    refine e_istore_n dX7_takeOff_26 ?_
    refine e_iload_n dX7_takeOff_27 rfl ?_
    refine e_iconst dX7_takeOff_28 ?_
    refine e_icmp_ne (tgt := 42) dX7_takeOff_29 (by decide) (fun hc => ?_) (fun hc => ?_)
    · replace h := h.1 hc
      refine e_aload_n dX7_takeOff_42 rfl trivial ?_
      obtain ⟨hK22, h⟩ := h
      refine e_callV (Mc := m_X7_save) (vs := []) (st := []) dX7_takeOff_43 ok_X7_save rfl ⟨by decide, rfl⟩ mk_X7_78 im_X7_save sl_X7_save rfl rfl hK22 (by omega) (Nat.le_of_ble_eq_true rfl) (Nat.le_of_ble_eq_true rfl) (Nat.le_of_ble_eq_true rfl) am_xh_nx (am_C_mono h (fun v K17 N18 I19 P20 z21 h => ?_) (fun _ _ _ _ _ _ h => h))
      show am_E d m_X7_takeOff 46 _ _ _ [] K17 N18 I19 P20 z21 Q X
      refine e_aload_n dX7_takeOff_46 rfl trivial ?_
      obtain ⟨hK23, h⟩ := h
      obtain ⟨b24, hb24, h⟩ := h
      refine e_getr1 dX7_takeOff_47 fk_X7_43 rfl hK23 hb24 ?_
      obtain ⟨hK25, h⟩ := h
      refine e_geti dX7_takeOff_50 fk_X7_69 rfl hK25 ?_
      refine e_istore_n dX7_takeOff_53 ?_
      refine e_aload_n dX7_takeOff_54 rfl trivial ?_
      refine e_getr1 dX7_takeOff_55 fk_X7_43 rfl hK23 hb24 ?_
      obtain ⟨b26, hb26, h⟩ := h
      refine e_getr1 dX7_takeOff_58 fk_X7_198 rfl hK25 hb26 ?_
      refine e_iload_n dX7_takeOff_61 rfl ?_
      obtain ⟨hK27, h⟩ := h
      obtain ⟨⟨h0, h1⟩, b28, hb28, h⟩ := h
      refine e_aald1 dX7_takeOff_62 hK27 (by decide) h0 h1 hb28 ?_
      obtain ⟨hK29, h⟩ := h
      refine e_geti dX7_takeOff_63 fk_X7_202 rfl hK29 ?_
      refine e_istore dX7_takeOff_66 ?_
      refine e_aload_n dX7_takeOff_68 rfl trivial ?_
      refine e_getr1 dX7_takeOff_69 fk_X7_43 rfl hK23 hb24 ?_
      refine e_iload_n dX7_takeOff_72 rfl ?_
      refine e_bipush dX7_takeOff_73 ?_
      refine e_callV (Mc := m_X6_leave) (vs := [am_i x16, am_i 9]) (st := []) dX7_takeOff_75 ok_X6_leave rfl ⟨by decide, rfl⟩ mk_X7_205 im_X6_leave sl_X6_leave rfl rfl hK25 (by omega) (Nat.le_of_ble_eq_true rfl) (Nat.le_of_ble_eq_true rfl) (Nat.le_of_ble_eq_true rfl) am_xh_nx (am_C_mono h (fun v K30 N31 I32 P33 z34 h => ?_) (fun _ _ _ _ _ _ h => h))
      show am_E d m_X7_takeOff 78 _ _ _ [] K30 N31 I32 P33 z34 Q X
      refine e_aload_n dX7_takeOff_78 rfl trivial ?_
      refine e_iload_n dX7_takeOff_79 rfl ?_
      obtain ⟨hK40, h⟩ := h
      refine e_callV (Mc := m_X7_keepDeparted) (vs := [am_i (I19 b24 6)]) (st := []) dX7_takeOff_80 ok_X7_keepDeparted rfl ⟨by decide, rfl⟩ mk_X7_185 im_X7_keepDeparted sl_X7_keepDeparted rfl rfl hK40 (by omega) (Nat.le_of_ble_eq_true rfl) (Nat.le_of_ble_eq_true rfl) (Nat.le_of_ble_eq_true rfl) am_xh_nx (am_C_mono h (fun v K35 N36 I37 P38 z39 h => ?_) (fun _ _ _ _ _ _ h => h))
      show am_E d m_X7_takeOff 83 _ _ _ [] K35 N36 I37 P38 z39 Q X
      refine e_iload dX7_takeOff_83 rfl ?_
      exact e_ret_i dX7_takeOff_85 rfl (Nat.le_of_ble_eq_true rfl) (Nat.le_of_ble_eq_true rfl) h
    · replace h := h.2 hc
      exact e_throw (tx := "the part is not on the belt") dX7_takeOff_32 dX7_takeOff_35 dX7_takeOff_36 dX7_takeOff_38 dX7_takeOff_41 (by decide) ck_X7_73 xi_2 xt_X7_77 (by decide) rfl (by omega) (Nat.le_of_ble_eq_true rfl) (Nat.le_of_ble_eq_true rfl) (Nat.le_of_ble_eq_true rfl) h
  · replace h := h.2 hc
    exact e_throw (tx := "no such part has entered") dX7_takeOff_8 dX7_takeOff_11 dX7_takeOff_12 dX7_takeOff_14 dX7_takeOff_17 (by decide) ck_X7_50 xi_0 xt_X7_54 (by decide) rfl (by omega) (Nat.le_of_ble_eq_true rfl) (Nat.le_of_ble_eq_true rfl) (Nat.le_of_ble_eq_true rfl) h
set_option maxRecDepth 100000 in
set_option maxHeartbeats 4000000 in
theorem wf_X7_undo {d : Nat} (hd : 6 ≤ d) {s : Nat} {K N : Nat → Nat} {I : Nat → Nat → Int} {P : Nat → Nat → Option Nat} {z : Nat} {Q : am_V → am_T} {X : Nat → am_T} (h :
  K s = 7 ∧ ((0 < I s 3 →
    ∀ I2, I2 = am_u2 I s 3 (am_wr (I s 3 - 1)) → ∃ b3, P s 0 = some b3 ∧ ∃ b4, P s 2 = some b4 ∧ K b4 = 13 ∧ (0 ≤ I2 s 3 ∧ I2 s 3 < N b4) ∧ ∃ b6, P b4 (Int.toNat (I2 s 3)) = some b6 ∧ K b3 = 6 ∧ am_C (d - 1) m_X6_copyFrom [am_r b3, am_r b6] K N I2 P z (fun _ K7 N8 I9 P10 z11 =>
      K7 s = 7 ∧ Q (am_i (I9 s 3)) K7 N8 I9 P10 z11) am_nx) ∧
    (¬ (0 < I s 3) →
    X 2 K N I P z))) :
  am_C d m_X7_undo [am_r s] K N I P z Q X := by
  refine am_C_of ok_X7_undo (fun v hv => am_v1all _ rfl v hv) (Nat.le_of_ble_eq_true rfl) ?_
  show am_E d m_X7_undo 0 0 0 [some (am_r s)] [] K N I P z Q X
  refine e_aload_n dX7_undo_0 rfl trivial ?_
  obtain ⟨hK1, h⟩ := h
  refine e_geti dX7_undo_1 fk_X7_208 rfl hK1 ?_
  refine e_if_gt (tgt := 17) dX7_undo_4 (by decide) (fun hc => ?_) (fun hc => ?_)
  · replace h := h.1 hc
    refine e_aload_n dX7_undo_17 rfl trivial ?_
    refine e_dup dX7_undo_18 rfl ?_
    refine e_geti dX7_undo_19 fk_X7_208 rfl hK1 ?_
    refine e_iconst dX7_undo_22 ?_
    refine e_isub dX7_undo_23 ?_
    refine e_puti dX7_undo_24 fk_X7_208 rfl (Or.inl rfl) hK1 ?_
    replace h := h _ rfl
    generalize am_u2 I s 3 (am_wr (I s 3 - 1)) = I2 at h ⊢
    refine e_aload_n dX7_undo_27 rfl trivial ?_
    obtain ⟨b3, hb3, h⟩ := h
    refine e_getr1 dX7_undo_28 fk_X7_43 rfl hK1 hb3 ?_
    refine e_aload_n dX7_undo_31 rfl trivial ?_
    obtain ⟨b4, hb4, h⟩ := h
    refine e_getr1 dX7_undo_32 fk_X7_11 rfl hK1 hb4 ?_
    refine e_aload_n dX7_undo_35 rfl trivial ?_
    refine e_geti dX7_undo_36 fk_X7_208 rfl hK1 ?_
    obtain ⟨hK5, h⟩ := h
    obtain ⟨⟨h0, h1⟩, b6, hb6, h⟩ := h
    refine e_aald1 dX7_undo_39 hK5 (by decide) h0 h1 hb6 ?_
    obtain ⟨hK12, h⟩ := h
    refine e_callV (Mc := m_X6_copyFrom) (vs := [am_r b6]) (st := []) dX7_undo_40 ok_X6_copyFrom rfl ⟨by decide, rfl⟩ mk_X7_213 im_X6_copyFrom sl_X6_copyFrom rfl rfl hK12 (by omega) (Nat.le_of_ble_eq_true rfl) (Nat.le_of_ble_eq_true rfl) (Nat.le_of_ble_eq_true rfl) am_xh_nx (am_C_mono h (fun v K7 N8 I9 P10 z11 h => ?_) (fun _ _ _ _ _ _ h => h))
    show am_E d m_X7_undo 43 _ _ _ [] K7 N8 I9 P10 z11 Q X
    refine e_aload_n dX7_undo_43 rfl trivial ?_
    obtain ⟨hK13, h⟩ := h
    refine e_geti dX7_undo_44 fk_X7_208 rfl hK13 ?_
    exact e_ret_i dX7_undo_47 rfl (Nat.le_of_ble_eq_true rfl) (Nat.le_of_ble_eq_true rfl) h
  · replace h := h.2 hc
    exact e_throw (tx := "no state is saved") dX7_undo_7 dX7_undo_10 dX7_undo_11 dX7_undo_13 dX7_undo_16 (by decide) ck_X7_73 xi_2 xt_X7_77 (by decide) rfl (by omega) (Nat.le_of_ble_eq_true rfl) (Nat.le_of_ble_eq_true rfl) (Nat.le_of_ble_eq_true rfl) h
set_option maxRecDepth 100000 in
set_option maxHeartbeats 4000000 in
theorem wf_X7_part {d : Nat} (hd : 6 ≤ d) {s : Nat} {a1 : Int} {a2 : Int} {K N : Nat → Nat} {I : Nat → Nat → Int} {P : Nat → Nat → Option Nat} {z : Nat} {Q : am_V → am_T} {X : Nat → am_T} (h :
  K s = 7 ∧ am_C (d - 1) m_X7_hasEntered [am_r s, am_i a1] K N I P z (fun v K1 N2 I3 P4 z5 => am_iv v fun x7 =>
    ((¬ x7 = 0 →
    ((a2 < 0 →
      X 1 K1 N2 I3 P4 z5) ∧
      (¬ (a2 < 0) →
      ((a2 < 10 →
        K1 s = 7 ∧ am_C (d - 1) m_X7_partProperty [am_r s, am_i a1, am_i a2] K1 N2 I3 P4 z5 (fun v K8 N9 I10 P11 z12 => am_iv v fun x14 =>
          Q (am_i x14) K8 N9 I10 P11 z12) am_nx) ∧
        (¬ (a2 < 10) →
        X 1 K1 N2 I3 P4 z5))))) ∧
    (x7 = 0 →
    X 0 K1 N2 I3 P4 z5))) am_nx) :
  am_C d m_X7_part [am_r s, am_i a1, am_i a2] K N I P z Q X := by
  refine am_C_of ok_X7_part (fun v hv => am_v1all _ rfl v hv) (Nat.le_of_ble_eq_true rfl) ?_
  show am_E d m_X7_part 0 0 0 [some (am_r s), some (am_i a1), some (am_i a2)] [] K N I P z Q X
  refine e_aload_n dX7_part_0 rfl trivial ?_
  refine e_iload_n dX7_part_1 rfl ?_
  obtain ⟨hK6, h⟩ := h
  refine e_callV (Mc := m_X7_hasEntered) (vs := [am_i a1]) (st := []) dX7_part_2 ok_X7_hasEntered rfl ⟨by decide, rfl⟩ mk_X7_188 im_X7_hasEntered sl_X7_hasEntered rfl rfl hK6 (by omega) (Nat.le_of_ble_eq_true rfl) (Nat.le_of_ble_eq_true rfl) (Nat.le_of_ble_eq_true rfl) am_xh_nx (am_C_mono h (fun v K1 N2 I3 P4 z5 h => ?_) (fun _ _ _ _ _ _ h => h))
  replace h := am_iv_or h
  obtain ⟨x7, rfl, h⟩ := h
  show am_E d m_X7_part 5 _ _ _ [am_i x7] K1 N2 I3 P4 z5 Q X
  refine e_if_ne (tgt := 18) dX7_part_5 (by decide) (fun hc => ?_) (fun hc => ?_)
  · replace h := h.1 hc
    refine e_iload_n dX7_part_18 rfl ?_
    refine e_if_lt (tgt := 28) dX7_part_19 (by decide) (fun hc => ?_) (fun hc => ?_)
    · replace h := h.1 hc
      exact e_throw (tx := "there is no such property") dX7_part_28 dX7_part_31 dX7_part_32 dX7_part_34 dX7_part_37 (by decide) ck_X7_64 xi_1 xt_X7_68 (by decide) rfl (by omega) (Nat.le_of_ble_eq_true rfl) (Nat.le_of_ble_eq_true rfl) (Nat.le_of_ble_eq_true rfl) h
    · replace h := h.2 hc
      refine e_iload_n dX7_part_22 rfl ?_
      refine e_bipush dX7_part_23 ?_
      refine e_icmp_lt (tgt := 38) dX7_part_25 (by decide) (fun hc => ?_) (fun hc => ?_)
      · replace h := h.1 hc
        refine e_aload_n dX7_part_38 rfl trivial ?_
        refine e_iload_n dX7_part_39 rfl ?_
        refine e_iload_n dX7_part_40 rfl ?_
        obtain ⟨hK13, h⟩ := h
        refine e_callV (Mc := m_X7_partProperty) (vs := [am_i a1, am_i a2]) (st := []) dX7_part_41 ok_X7_partProperty rfl ⟨by decide, rfl⟩ mk_X7_219 im_X7_partProperty sl_X7_partProperty rfl rfl hK13 (by omega) (Nat.le_of_ble_eq_true rfl) (Nat.le_of_ble_eq_true rfl) (Nat.le_of_ble_eq_true rfl) am_xh_nx (am_C_mono h (fun v K8 N9 I10 P11 z12 h => ?_) (fun _ _ _ _ _ _ h => h))
        replace h := am_iv_or h
        obtain ⟨x14, rfl, h⟩ := h
        show am_E d m_X7_part 44 _ _ _ [am_i x14] K8 N9 I10 P11 z12 Q X
        exact e_ret_i dX7_part_44 rfl (Nat.le_of_ble_eq_true rfl) (Nat.le_of_ble_eq_true rfl) h
      · replace h := h.2 hc
        exact e_throw (tx := "there is no such property") dX7_part_28 dX7_part_31 dX7_part_32 dX7_part_34 dX7_part_37 (by decide) ck_X7_64 xi_1 xt_X7_68 (by decide) rfl (by omega) (Nat.le_of_ble_eq_true rfl) (Nat.le_of_ble_eq_true rfl) (Nat.le_of_ble_eq_true rfl) h
  · replace h := h.2 hc
    exact e_throw (tx := "no such part has entered") dX7_part_8 dX7_part_11 dX7_part_12 dX7_part_14 dX7_part_17 (by decide) ck_X7_50 xi_0 xt_X7_54 (by decide) rfl (by omega) (Nat.le_of_ble_eq_true rfl) (Nat.le_of_ble_eq_true rfl) (Nat.le_of_ble_eq_true rfl) h
set_option maxRecDepth 100000 in
set_option maxHeartbeats 4000000 in
theorem wf_X7_lane {d : Nat} (hd : 6 ≤ d) {s : Nat} {a1 : Int} {a2 : Int} {K N : Nat → Nat} {I : Nat → Nat → Int} {P : Nat → Nat → Option Nat} {z : Nat} {Q : am_V → am_T} {X : Nat → am_T} (h :
  K s = 7 ∧ ∃ b2, P s 0 = some b2 ∧ K b2 = 6 ∧ am_C (d - 1) m_X6_hasLane [am_r b2, am_i a1] K N I P z (fun v K3 N4 I5 P6 z7 => am_iv v fun x9 =>
    ((¬ x9 = 0 →
    ((a2 < 0 →
      X 1 K3 N4 I5 P6 z7) ∧
      (¬ (a2 < 0) →
      ((a2 < 6 →
        ((¬ a2 = 5 →
          K3 s = 7 ∧ ∃ b11, P6 s 0 = some b11 ∧ K3 b11 = 6 ∧ ∃ b13, P6 b11 1 = some b13 ∧ K3 b13 = 11 ∧ (0 ≤ a1 ∧ a1 < N4 b13) ∧ ∃ b15, P6 b13 (Int.toNat a1) = some b15 ∧ K3 b15 = 0 ∧ am_C (d - 1) m_X0_property [am_r b15, am_i a2] K3 N4 I5 P6 z7 (fun v K16 N17 I18 P19 z20 => am_iv v fun x22 =>
            Q (am_i x22) K16 N17 I18 P19 z20) am_nx) ∧
          (a2 = 5 →
          K3 s = 7 ∧ ∃ b24, P6 s 0 = some b24 ∧ K3 b24 = 6 ∧ ∃ b26, P6 b24 3 = some b26 ∧ K3 b26 = 3 ∧ am_C (d - 1) m_X3_countTo [am_r b26, am_i a1] K3 N4 I5 P6 z7 (fun v K27 N28 I29 P30 z31 => am_iv v fun x33 =>
            Q (am_i x33) K27 N28 I29 P30 z31) am_nx))) ∧
        (¬ (a2 < 6) →
        X 1 K3 N4 I5 P6 z7))))) ∧
    (x9 = 0 →
    X 0 K3 N4 I5 P6 z7))) am_nx) :
  am_C d m_X7_lane [am_r s, am_i a1, am_i a2] K N I P z Q X := by
  refine am_C_of ok_X7_lane (fun v hv => am_v1all _ rfl v hv) (Nat.le_of_ble_eq_true rfl) ?_
  show am_E d m_X7_lane 0 0 0 [some (am_r s), some (am_i a1), some (am_i a2)] [] K N I P z Q X
  refine e_aload_n dX7_lane_0 rfl trivial ?_
  obtain ⟨hK1, h⟩ := h
  obtain ⟨b2, hb2, h⟩ := h
  refine e_getr1 dX7_lane_1 fk_X7_43 rfl hK1 hb2 ?_
  refine e_iload_n dX7_lane_4 rfl ?_
  obtain ⟨hK8, h⟩ := h
  refine e_callV (Mc := m_X6_hasLane) (vs := [am_i a1]) (st := []) dX7_lane_5 ok_X6_hasLane rfl ⟨by decide, rfl⟩ mk_X7_105 im_X6_hasLane sl_X6_hasLane rfl rfl hK8 (by omega) (Nat.le_of_ble_eq_true rfl) (Nat.le_of_ble_eq_true rfl) (Nat.le_of_ble_eq_true rfl) am_xh_nx (am_C_mono h (fun v K3 N4 I5 P6 z7 h => ?_) (fun _ _ _ _ _ _ h => h))
  replace h := am_iv_or h
  obtain ⟨x9, rfl, h⟩ := h
  show am_E d m_X7_lane 8 _ _ _ [am_i x9] K3 N4 I5 P6 z7 Q X
  refine e_if_ne (tgt := 21) dX7_lane_8 (by decide) (fun hc => ?_) (fun hc => ?_)
  · replace h := h.1 hc
    refine e_iload_n dX7_lane_21 rfl ?_
    refine e_if_lt (tgt := 31) dX7_lane_22 (by decide) (fun hc => ?_) (fun hc => ?_)
    · replace h := h.1 hc
      exact e_throw (tx := "there is no such property") dX7_lane_31 dX7_lane_34 dX7_lane_35 dX7_lane_37 dX7_lane_40 (by decide) ck_X7_64 xi_1 xt_X7_68 (by decide) rfl (by omega) (Nat.le_of_ble_eq_true rfl) (Nat.le_of_ble_eq_true rfl) (Nat.le_of_ble_eq_true rfl) h
    · replace h := h.2 hc
      refine e_iload_n dX7_lane_25 rfl ?_
      refine e_bipush dX7_lane_26 ?_
      refine e_icmp_lt (tgt := 41) dX7_lane_28 (by decide) (fun hc => ?_) (fun hc => ?_)
      · replace h := h.1 hc
        refine e_iload_n dX7_lane_41 rfl ?_
        refine e_iconst dX7_lane_42 ?_
        refine e_icmp_ne (tgt := 60) dX7_lane_43 (by decide) (fun hc => ?_) (fun hc => ?_)
        · replace h := h.1 hc
          refine e_aload_n dX7_lane_60 rfl trivial ?_
          obtain ⟨hK10, h⟩ := h
          obtain ⟨b11, hb11, h⟩ := h
          refine e_getr1 dX7_lane_61 fk_X7_43 rfl hK10 hb11 ?_
          obtain ⟨hK12, h⟩ := h
          obtain ⟨b13, hb13, h⟩ := h
          refine e_getr1 dX7_lane_64 fk_X7_95 rfl hK12 hb13 ?_
          refine e_iload_n dX7_lane_67 rfl ?_
          obtain ⟨hK14, h⟩ := h
          obtain ⟨⟨h0, h1⟩, b15, hb15, h⟩ := h
          refine e_aald1 dX7_lane_68 hK14 (by decide) h0 h1 hb15 ?_
          refine e_iload_n dX7_lane_69 rfl ?_
          obtain ⟨hK21, h⟩ := h
          refine e_callV (Mc := m_X0_property) (vs := [am_i a2]) (st := []) dX7_lane_70 ok_X0_property rfl ⟨by decide, rfl⟩ mk_X7_226 im_X0_property sl_X0_property rfl rfl hK21 (by omega) (Nat.le_of_ble_eq_true rfl) (Nat.le_of_ble_eq_true rfl) (Nat.le_of_ble_eq_true rfl) am_xh_nx (am_C_mono h (fun v K16 N17 I18 P19 z20 h => ?_) (fun _ _ _ _ _ _ h => h))
          replace h := am_iv_or h
          obtain ⟨x22, rfl, h⟩ := h
          show am_E d m_X7_lane 73 _ _ _ [am_i x22] K16 N17 I18 P19 z20 Q X
          exact e_ret_i dX7_lane_73 rfl (Nat.le_of_ble_eq_true rfl) (Nat.le_of_ble_eq_true rfl) h
        · replace h := h.2 hc
          refine e_aload_n dX7_lane_46 rfl trivial ?_
          obtain ⟨hK23, h⟩ := h
          obtain ⟨b24, hb24, h⟩ := h
          refine e_getr1 dX7_lane_47 fk_X7_43 rfl hK23 hb24 ?_
          obtain ⟨hK25, h⟩ := h
          obtain ⟨b26, hb26, h⟩ := h
          refine e_getr1 dX7_lane_50 fk_X7_116 rfl hK25 hb26 ?_
          refine e_iload_n dX7_lane_53 rfl ?_
          obtain ⟨hK32, h⟩ := h
          refine e_callV (Mc := m_X3_countTo) (vs := [am_i a1]) (st := []) dX7_lane_54 ok_X3_countTo rfl ⟨by decide, rfl⟩ mk_X7_223 im_X3_countTo sl_X3_countTo rfl rfl hK32 (by omega) (Nat.le_of_ble_eq_true rfl) (Nat.le_of_ble_eq_true rfl) (Nat.le_of_ble_eq_true rfl) am_xh_nx (am_C_mono h (fun v K27 N28 I29 P30 z31 h => ?_) (fun _ _ _ _ _ _ h => h))
          replace h := am_iv_or h
          obtain ⟨x33, rfl, h⟩ := h
          show am_E d m_X7_lane 57 _ _ _ [am_i x33] K27 N28 I29 P30 z31 Q X
          refine e_goto (tgt := 73) dX7_lane_57 (by decide) ?_
          exact e_ret_i dX7_lane_73 rfl (Nat.le_of_ble_eq_true rfl) (Nat.le_of_ble_eq_true rfl) h
      · replace h := h.2 hc
        exact e_throw (tx := "there is no such property") dX7_lane_31 dX7_lane_34 dX7_lane_35 dX7_lane_37 dX7_lane_40 (by decide) ck_X7_64 xi_1 xt_X7_68 (by decide) rfl (by omega) (Nat.le_of_ble_eq_true rfl) (Nat.le_of_ble_eq_true rfl) (Nat.le_of_ble_eq_true rfl) h
  · replace h := h.2 hc
    exact e_throw (tx := "there is no such lane") dX7_lane_11 dX7_lane_14 dX7_lane_15 dX7_lane_17 dX7_lane_20 (by decide) ck_X7_50 xi_0 xt_X7_54 (by decide) rfl (by omega) (Nat.le_of_ble_eq_true rfl) (Nat.le_of_ble_eq_true rfl) (Nat.le_of_ble_eq_true rfl) h
set_option maxRecDepth 100000 in
set_option maxHeartbeats 4000000 in
theorem wf_X7_total {d : Nat} (hd : 6 ≤ d) {s : Nat} {a1 : Int} {K N : Nat → Nat} {I : Nat → Nat → Int} {P : Nat → Nat → Option Nat} {z : Nat} {Q : am_V → am_T} {X : Nat → am_T} (h :
  ((a1 = 0 →
    K s = 7 ∧ ∃ b2, P s 0 = some b2 ∧ K b2 = 6 ∧ Q (am_i (I b2 8)) K N I P z) ∧
    (a1 = 1 →
    K s = 7 ∧ ∃ b5, P s 0 = some b5 ∧ K b5 = 6 ∧ Q (am_i (I b5 7)) K N I P z) ∧
    (a1 = 2 →
    K s = 7 ∧ ∃ b8, P s 0 = some b8 ∧ K b8 = 6 ∧ Q (am_i (I b8 6)) K N I P z) ∧
    (a1 = 3 →
    K s = 7 ∧ am_C (d - 1) m_X7_countFates [am_r s, am_i 10, am_i 15] K N I P z (fun v K10 N11 I12 P13 z14 => am_iv v fun x16 =>
      Q (am_i x16) K10 N11 I12 P13 z14) am_nx) ∧
    (a1 = 4 →
    K s = 7 ∧ am_C (d - 1) m_X7_countFates [am_r s, am_i 1, am_i 6] K N I P z (fun v K17 N18 I19 P20 z21 => am_iv v fun x23 =>
      Q (am_i x23) K17 N18 I19 P20 z21) am_nx) ∧
    (a1 = 5 →
    K s = 7 ∧ am_C (d - 1) m_X7_countFates [am_r s, am_i 9, am_i 9] K N I P z (fun v K24 N25 I26 P27 z28 => am_iv v fun x30 =>
      Q (am_i x30) K24 N25 I26 P27 z28) am_nx) ∧
    (a1 = 6 →
    K s = 7 ∧ ∃ b32, P s 0 = some b32 ∧ K b32 = 6 ∧ Q (am_i (I b32 2)) K N I P z) ∧
    (a1 = 7 →
    K s = 7 ∧ ∃ b35, P s 0 = some b35 ∧ K b35 = 6 ∧ ∃ b37, P b35 3 = some b37 ∧ K b37 = 3 ∧ Q (am_i (I b37 2)) K N I P z) ∧
    (a1 = 8 →
    K s = 7 ∧ ∃ b40, P s 0 = some b40 ∧ K b40 = 6 ∧ Q (am_i (I b40 9)) K N I P z) ∧
    (a1 = 9 →
    K s = 7 ∧ am_C (d - 1) m_X7_sumOverParts [am_r s, am_i 7] K N I P z (fun v K42 N43 I44 P45 z46 => am_iv v fun x48 =>
      Q (am_i x48) K42 N43 I44 P45 z46) am_nx) ∧
    (a1 = 10 →
    K s = 7 ∧ am_C (d - 1) m_X7_sumOverParts [am_r s, am_i 6] K N I P z (fun v K49 N50 I51 P52 z53 => am_iv v fun x55 =>
      Q (am_i x55) K49 N50 I51 P52 z53) am_nx) ∧
    (a1 = 11 →
    K s = 7 ∧ am_C (d - 1) m_X7_sumOverParts [am_r s, am_i 4] K N I P z (fun v K56 N57 I58 P59 z60 => am_iv v fun x62 =>
      Q (am_i x62) K56 N57 I58 P59 z60) am_nx) ∧
    (a1 = 12 →
    K s = 7 ∧ am_C (d - 1) m_X7_sumOverParts [am_r s, am_i 5] K N I P z (fun v K63 N64 I65 P66 z67 => am_iv v fun x69 =>
      Q (am_i x69) K63 N64 I65 P66 z67) am_nx) ∧
    (a1 = 13 →
    K s = 7 ∧ Q (am_i (I s 3)) K N I P z) ∧
    (a1 = 14 →
    K s = 7 ∧ ∃ b72, P s 5 = some b72 ∧ K b72 = 5 ∧ Q (am_i (I b72 1)) K N I P z) ∧
    ((a1 < 0 ∨ 14 < a1) →
    X 1 K N I P z))) :
  am_C d m_X7_total [am_r s, am_i a1] K N I P z Q X := by
  refine am_C_of ok_X7_total (fun v hv => am_v1all _ rfl v hv) (Nat.le_of_ble_eq_true rfl) ?_
  show am_E d m_X7_total 0 0 0 [some (am_r s), some (am_i a1)] [] K N I P z Q X
  refine e_iload_n dX7_total_0 rfl ?_
  refine e_tsw dX7_total_1 (by decide) (by decide) (by decide) ?_ ?_
  · refine ⟨fun hc => ?_, ⟨fun hc => ?_, ⟨fun hc => ?_, ⟨fun hc => ?_, ⟨fun hc => ?_, ⟨fun hc => ?_, ⟨fun hc => ?_, ⟨fun hc => ?_, ⟨fun hc => ?_, ⟨fun hc => ?_, ⟨fun hc => ?_, ⟨fun hc => ?_, ⟨fun hc => ?_, ⟨fun hc => ?_, ⟨fun hc => ?_, trivial⟩⟩⟩⟩⟩⟩⟩⟩⟩⟩⟩⟩⟩⟩⟩
    · have h := h.1 (by omega)
      show am_E _ _ 76 _ _ _ _ _ _ _ _ _ _ _
      refine e_aload_n dX7_total_76 rfl trivial ?_
      obtain ⟨hK1, h⟩ := h
      obtain ⟨b2, hb2, h⟩ := h
      refine e_getr1 dX7_total_77 fk_X7_43 rfl hK1 hb2 ?_
      obtain ⟨hK3, h⟩ := h
      refine e_geti dX7_total_80 fk_X7_163 rfl hK3 ?_
      exact e_ret_i dX7_total_83 rfl (Nat.le_of_ble_eq_true rfl) (Nat.le_of_ble_eq_true rfl) h
    · have h := h.2.1 (by omega)
      show am_E _ _ 84 _ _ _ _ _ _ _ _ _ _ _
      refine e_aload_n dX7_total_84 rfl trivial ?_
      obtain ⟨hK4, h⟩ := h
      obtain ⟨b5, hb5, h⟩ := h
      refine e_getr1 dX7_total_85 fk_X7_43 rfl hK4 hb5 ?_
      obtain ⟨hK6, h⟩ := h
      refine e_geti dX7_total_88 fk_X7_148 rfl hK6 ?_
      exact e_ret_i dX7_total_91 rfl (Nat.le_of_ble_eq_true rfl) (Nat.le_of_ble_eq_true rfl) h
    · have h := h.2.2.1 (by omega)
      show am_E _ _ 92 _ _ _ _ _ _ _ _ _ _ _
      refine e_aload_n dX7_total_92 rfl trivial ?_
      obtain ⟨hK7, h⟩ := h
      obtain ⟨b8, hb8, h⟩ := h
      refine e_getr1 dX7_total_93 fk_X7_43 rfl hK7 hb8 ?_
      obtain ⟨hK9, h⟩ := h
      refine e_geti dX7_total_96 fk_X7_69 rfl hK9 ?_
      exact e_ret_i dX7_total_99 rfl (Nat.le_of_ble_eq_true rfl) (Nat.le_of_ble_eq_true rfl) h
    · have h := h.2.2.2.1 (by omega)
      show am_E _ _ 100 _ _ _ _ _ _ _ _ _ _ _
      refine e_aload_n dX7_total_100 rfl trivial ?_
      refine e_bipush dX7_total_101 ?_
      refine e_bipush dX7_total_103 ?_
      obtain ⟨hK15, h⟩ := h
      refine e_callV (Mc := m_X7_countFates) (vs := [am_i 10, am_i 15]) (st := []) dX7_total_105 ok_X7_countFates rfl ⟨by decide, rfl⟩ mk_X7_229 im_X7_countFates sl_X7_countFates rfl rfl hK15 (by omega) (Nat.le_of_ble_eq_true rfl) (Nat.le_of_ble_eq_true rfl) (Nat.le_of_ble_eq_true rfl) am_xh_nx (am_C_mono h (fun v K10 N11 I12 P13 z14 h => ?_) (fun _ _ _ _ _ _ h => h))
      replace h := am_iv_or h
      obtain ⟨x16, rfl, h⟩ := h
      show am_E d m_X7_total 108 _ _ _ [am_i x16] K10 N11 I12 P13 z14 Q X
      exact e_ret_i dX7_total_108 rfl (Nat.le_of_ble_eq_true rfl) (Nat.le_of_ble_eq_true rfl) h
    · have h := h.2.2.2.2.1 (by omega)
      show am_E _ _ 109 _ _ _ _ _ _ _ _ _ _ _
      refine e_aload_n dX7_total_109 rfl trivial ?_
      refine e_iconst dX7_total_110 ?_
      refine e_bipush dX7_total_111 ?_
      obtain ⟨hK22, h⟩ := h
      refine e_callV (Mc := m_X7_countFates) (vs := [am_i 1, am_i 6]) (st := []) dX7_total_113 ok_X7_countFates rfl ⟨by decide, rfl⟩ mk_X7_229 im_X7_countFates sl_X7_countFates rfl rfl hK22 (by omega) (Nat.le_of_ble_eq_true rfl) (Nat.le_of_ble_eq_true rfl) (Nat.le_of_ble_eq_true rfl) am_xh_nx (am_C_mono h (fun v K17 N18 I19 P20 z21 h => ?_) (fun _ _ _ _ _ _ h => h))
      replace h := am_iv_or h
      obtain ⟨x23, rfl, h⟩ := h
      show am_E d m_X7_total 116 _ _ _ [am_i x23] K17 N18 I19 P20 z21 Q X
      exact e_ret_i dX7_total_116 rfl (Nat.le_of_ble_eq_true rfl) (Nat.le_of_ble_eq_true rfl) h
    · have h := h.2.2.2.2.2.1 (by omega)
      show am_E _ _ 117 _ _ _ _ _ _ _ _ _ _ _
      refine e_aload_n dX7_total_117 rfl trivial ?_
      refine e_bipush dX7_total_118 ?_
      refine e_bipush dX7_total_120 ?_
      obtain ⟨hK29, h⟩ := h
      refine e_callV (Mc := m_X7_countFates) (vs := [am_i 9, am_i 9]) (st := []) dX7_total_122 ok_X7_countFates rfl ⟨by decide, rfl⟩ mk_X7_229 im_X7_countFates sl_X7_countFates rfl rfl hK29 (by omega) (Nat.le_of_ble_eq_true rfl) (Nat.le_of_ble_eq_true rfl) (Nat.le_of_ble_eq_true rfl) am_xh_nx (am_C_mono h (fun v K24 N25 I26 P27 z28 h => ?_) (fun _ _ _ _ _ _ h => h))
      replace h := am_iv_or h
      obtain ⟨x30, rfl, h⟩ := h
      show am_E d m_X7_total 125 _ _ _ [am_i x30] K24 N25 I26 P27 z28 Q X
      exact e_ret_i dX7_total_125 rfl (Nat.le_of_ble_eq_true rfl) (Nat.le_of_ble_eq_true rfl) h
    · have h := h.2.2.2.2.2.2.1 (by omega)
      show am_E _ _ 126 _ _ _ _ _ _ _ _ _ _ _
      refine e_aload_n dX7_total_126 rfl trivial ?_
      obtain ⟨hK31, h⟩ := h
      obtain ⟨b32, hb32, h⟩ := h
      refine e_getr1 dX7_total_127 fk_X7_43 rfl hK31 hb32 ?_
      obtain ⟨hK33, h⟩ := h
      refine e_geti dX7_total_130 fk_X7_90 rfl hK33 ?_
      exact e_ret_i dX7_total_133 rfl (Nat.le_of_ble_eq_true rfl) (Nat.le_of_ble_eq_true rfl) h
    · have h := h.2.2.2.2.2.2.2.1 (by omega)
      show am_E _ _ 134 _ _ _ _ _ _ _ _ _ _ _
      refine e_aload_n dX7_total_134 rfl trivial ?_
      obtain ⟨hK34, h⟩ := h
      obtain ⟨b35, hb35, h⟩ := h
      refine e_getr1 dX7_total_135 fk_X7_43 rfl hK34 hb35 ?_
      obtain ⟨hK36, h⟩ := h
      obtain ⟨b37, hb37, h⟩ := h
      refine e_getr1 dX7_total_138 fk_X7_116 rfl hK36 hb37 ?_
      obtain ⟨hK38, h⟩ := h
      refine e_geti dX7_total_141 fk_X7_126 rfl hK38 ?_
      exact e_ret_i dX7_total_144 rfl (Nat.le_of_ble_eq_true rfl) (Nat.le_of_ble_eq_true rfl) h
    · have h := h.2.2.2.2.2.2.2.2.1 (by omega)
      show am_E _ _ 145 _ _ _ _ _ _ _ _ _ _ _
      refine e_aload_n dX7_total_145 rfl trivial ?_
      obtain ⟨hK39, h⟩ := h
      obtain ⟨b40, hb40, h⟩ := h
      refine e_getr1 dX7_total_146 fk_X7_43 rfl hK39 hb40 ?_
      obtain ⟨hK41, h⟩ := h
      refine e_geti dX7_total_149 fk_X7_160 rfl hK41 ?_
      exact e_ret_i dX7_total_152 rfl (Nat.le_of_ble_eq_true rfl) (Nat.le_of_ble_eq_true rfl) h
    · have h := h.2.2.2.2.2.2.2.2.2.1 (by omega)
      show am_E _ _ 153 _ _ _ _ _ _ _ _ _ _ _
      refine e_aload_n dX7_total_153 rfl trivial ?_
      refine e_bipush dX7_total_154 ?_
      obtain ⟨hK47, h⟩ := h
      refine e_callV (Mc := m_X7_sumOverParts) (vs := [am_i 7]) (st := []) dX7_total_156 ok_X7_sumOverParts rfl ⟨by decide, rfl⟩ mk_X7_232 im_X7_sumOverParts sl_X7_sumOverParts rfl rfl hK47 (by omega) (Nat.le_of_ble_eq_true rfl) (Nat.le_of_ble_eq_true rfl) (Nat.le_of_ble_eq_true rfl) am_xh_nx (am_C_mono h (fun v K42 N43 I44 P45 z46 h => ?_) (fun _ _ _ _ _ _ h => h))
      replace h := am_iv_or h
      obtain ⟨x48, rfl, h⟩ := h
      show am_E d m_X7_total 159 _ _ _ [am_i x48] K42 N43 I44 P45 z46 Q X
      exact e_ret_i dX7_total_159 rfl (Nat.le_of_ble_eq_true rfl) (Nat.le_of_ble_eq_true rfl) h
    · have h := h.2.2.2.2.2.2.2.2.2.2.1 (by omega)
      show am_E _ _ 160 _ _ _ _ _ _ _ _ _ _ _
      refine e_aload_n dX7_total_160 rfl trivial ?_
      refine e_bipush dX7_total_161 ?_
      obtain ⟨hK54, h⟩ := h
      refine e_callV (Mc := m_X7_sumOverParts) (vs := [am_i 6]) (st := []) dX7_total_163 ok_X7_sumOverParts rfl ⟨by decide, rfl⟩ mk_X7_232 im_X7_sumOverParts sl_X7_sumOverParts rfl rfl hK54 (by omega) (Nat.le_of_ble_eq_true rfl) (Nat.le_of_ble_eq_true rfl) (Nat.le_of_ble_eq_true rfl) am_xh_nx (am_C_mono h (fun v K49 N50 I51 P52 z53 h => ?_) (fun _ _ _ _ _ _ h => h))
      replace h := am_iv_or h
      obtain ⟨x55, rfl, h⟩ := h
      show am_E d m_X7_total 166 _ _ _ [am_i x55] K49 N50 I51 P52 z53 Q X
      exact e_ret_i dX7_total_166 rfl (Nat.le_of_ble_eq_true rfl) (Nat.le_of_ble_eq_true rfl) h
    · have h := h.2.2.2.2.2.2.2.2.2.2.2.1 (by omega)
      show am_E _ _ 167 _ _ _ _ _ _ _ _ _ _ _
      refine e_aload_n dX7_total_167 rfl trivial ?_
      refine e_iconst dX7_total_168 ?_
      obtain ⟨hK61, h⟩ := h
      refine e_callV (Mc := m_X7_sumOverParts) (vs := [am_i 4]) (st := []) dX7_total_169 ok_X7_sumOverParts rfl ⟨by decide, rfl⟩ mk_X7_232 im_X7_sumOverParts sl_X7_sumOverParts rfl rfl hK61 (by omega) (Nat.le_of_ble_eq_true rfl) (Nat.le_of_ble_eq_true rfl) (Nat.le_of_ble_eq_true rfl) am_xh_nx (am_C_mono h (fun v K56 N57 I58 P59 z60 h => ?_) (fun _ _ _ _ _ _ h => h))
      replace h := am_iv_or h
      obtain ⟨x62, rfl, h⟩ := h
      show am_E d m_X7_total 172 _ _ _ [am_i x62] K56 N57 I58 P59 z60 Q X
      exact e_ret_i dX7_total_172 rfl (Nat.le_of_ble_eq_true rfl) (Nat.le_of_ble_eq_true rfl) h
    · have h := h.2.2.2.2.2.2.2.2.2.2.2.2.1 (by omega)
      show am_E _ _ 173 _ _ _ _ _ _ _ _ _ _ _
      refine e_aload_n dX7_total_173 rfl trivial ?_
      refine e_iconst dX7_total_174 ?_
      obtain ⟨hK68, h⟩ := h
      refine e_callV (Mc := m_X7_sumOverParts) (vs := [am_i 5]) (st := []) dX7_total_175 ok_X7_sumOverParts rfl ⟨by decide, rfl⟩ mk_X7_232 im_X7_sumOverParts sl_X7_sumOverParts rfl rfl hK68 (by omega) (Nat.le_of_ble_eq_true rfl) (Nat.le_of_ble_eq_true rfl) (Nat.le_of_ble_eq_true rfl) am_xh_nx (am_C_mono h (fun v K63 N64 I65 P66 z67 h => ?_) (fun _ _ _ _ _ _ h => h))
      replace h := am_iv_or h
      obtain ⟨x69, rfl, h⟩ := h
      show am_E d m_X7_total 178 _ _ _ [am_i x69] K63 N64 I65 P66 z67 Q X
      exact e_ret_i dX7_total_178 rfl (Nat.le_of_ble_eq_true rfl) (Nat.le_of_ble_eq_true rfl) h
    · have h := h.2.2.2.2.2.2.2.2.2.2.2.2.2.1 (by omega)
      show am_E _ _ 179 _ _ _ _ _ _ _ _ _ _ _
      refine e_aload_n dX7_total_179 rfl trivial ?_
      obtain ⟨hK70, h⟩ := h
      refine e_geti dX7_total_180 fk_X7_208 rfl hK70 ?_
      exact e_ret_i dX7_total_183 rfl (Nat.le_of_ble_eq_true rfl) (Nat.le_of_ble_eq_true rfl) h
    · have h := h.2.2.2.2.2.2.2.2.2.2.2.2.2.2.1 (by omega)
      show am_E _ _ 184 _ _ _ _ _ _ _ _ _ _ _
      refine e_aload_n dX7_total_184 rfl trivial ?_
      obtain ⟨hK71, h⟩ := h
      obtain ⟨b72, hb72, h⟩ := h
      refine e_getr1 dX7_total_185 fk_X7_25 rfl hK71 hb72 ?_
      obtain ⟨hK73, h⟩ := h
      refine e_geti dX7_total_188 fk_X7_235 rfl hK73 ?_
      exact e_ret_i dX7_total_191 rfl (Nat.le_of_ble_eq_true rfl) (Nat.le_of_ble_eq_true rfl) h
  · intro hc
    have h := h.2.2.2.2.2.2.2.2.2.2.2.2.2.2.2 hc
    show am_E _ _ 192 _ _ _ _ _ _ _ _ _ _ _
    exact e_throw (tx := "there is no such total") dX7_total_192 dX7_total_195 dX7_total_196 dX7_total_198 dX7_total_201 (by decide) ck_X7_64 xi_1 xt_X7_68 (by decide) rfl (by omega) (Nat.le_of_ble_eq_true rfl) (Nat.le_of_ble_eq_true rfl) (Nat.le_of_ble_eq_true rfl) h
set_option maxRecDepth 100000 in
set_option maxHeartbeats 4000000 in
theorem wf_X7_lost {d : Nat} (hd : 6 ≤ d) {s : Nat} {a1 : Int} {K N : Nat → Nat} {I : Nat → Nat → Int} {P : Nat → Nat → Option Nat} {z : Nat} {Q : am_V → am_T} {X : Nat → am_T} (h :
  ((a1 < 1 →
    X 1 K N I P z) ∧
    (¬ (a1 < 1) →
    ((a1 ≤ 6 →
      K s = 7 ∧ am_C (d - 1) m_X7_countFates [am_r s, am_i a1, am_i a1] K N I P z (fun v K1 N2 I3 P4 z5 => am_iv v fun x7 =>
        Q (am_i x7) K1 N2 I3 P4 z5) am_nx) ∧
      (¬ (a1 ≤ 6) →
      X 1 K N I P z))))) :
  am_C d m_X7_lost [am_r s, am_i a1] K N I P z Q X := by
  refine am_C_of ok_X7_lost (fun v hv => am_v1all _ rfl v hv) (Nat.le_of_ble_eq_true rfl) ?_
  show am_E d m_X7_lost 0 0 0 [some (am_r s), some (am_i a1)] [] K N I P z Q X
  refine e_iload_n dX7_lost_0 rfl ?_
  refine e_iconst dX7_lost_1 ?_
  refine e_icmp_lt (tgt := 11) dX7_lost_2 (by decide) (fun hc => ?_) (fun hc => ?_)
  · replace h := h.1 hc
    exact e_throw (tx := "there is no such reason") dX7_lost_11 dX7_lost_14 dX7_lost_15 dX7_lost_17 dX7_lost_20 (by decide) ck_X7_64 xi_1 xt_X7_68 (by decide) rfl (by omega) (Nat.le_of_ble_eq_true rfl) (Nat.le_of_ble_eq_true rfl) (Nat.le_of_ble_eq_true rfl) h
  · replace h := h.2 hc
    refine e_iload_n dX7_lost_5 rfl ?_
    refine e_bipush dX7_lost_6 ?_
    refine e_icmp_le (tgt := 21) dX7_lost_8 (by decide) (fun hc => ?_) (fun hc => ?_)
    · replace h := h.1 hc
      refine e_aload_n dX7_lost_21 rfl trivial ?_
      refine e_iload_n dX7_lost_22 rfl ?_
      refine e_iload_n dX7_lost_23 rfl ?_
      obtain ⟨hK6, h⟩ := h
      refine e_callV (Mc := m_X7_countFates) (vs := [am_i a1, am_i a1]) (st := []) dX7_lost_24 ok_X7_countFates rfl ⟨by decide, rfl⟩ mk_X7_229 im_X7_countFates sl_X7_countFates rfl rfl hK6 (by omega) (Nat.le_of_ble_eq_true rfl) (Nat.le_of_ble_eq_true rfl) (Nat.le_of_ble_eq_true rfl) am_xh_nx (am_C_mono h (fun v K1 N2 I3 P4 z5 h => ?_) (fun _ _ _ _ _ _ h => h))
      replace h := am_iv_or h
      obtain ⟨x7, rfl, h⟩ := h
      show am_E d m_X7_lost 27 _ _ _ [am_i x7] K1 N2 I3 P4 z5 Q X
      exact e_ret_i dX7_lost_27 rfl (Nat.le_of_ble_eq_true rfl) (Nat.le_of_ble_eq_true rfl) h
    · replace h := h.2 hc
      exact e_throw (tx := "there is no such reason") dX7_lost_11 dX7_lost_14 dX7_lost_15 dX7_lost_17 dX7_lost_20 (by decide) ck_X7_64 xi_1 xt_X7_68 (by decide) rfl (by omega) (Nat.le_of_ble_eq_true rfl) (Nat.le_of_ble_eq_true rfl) (Nat.le_of_ble_eq_true rfl) h
set_option maxRecDepth 100000 in
set_option maxHeartbeats 4000000 in
theorem wf_X7_setting {d : Nat} (hd : 6 ≤ d) {s : Nat} {a1 : Int} {K N : Nat → Nat} {I : Nat → Nat → Int} {P : Nat → Nat → Option Nat} {z : Nat} {Q : am_V → am_T} {X : Nat → am_T} (h :
  ((a1 < 0 →
    X 0 K N I P z) ∧
    (¬ (a1 < 0) →
    ((a1 < 6 →
      K s = 7 ∧ ∃ b2, P s 0 = some b2 ∧ K b2 = 6 ∧ ∃ b4, P b2 0 = some b4 ∧ K b4 = 10 ∧ (0 ≤ a1 ∧ a1 < N b4) ∧ Q (am_i (I b4 (Int.toNat a1))) K N I P z) ∧
      (¬ (a1 < 6) →
      X 0 K N I P z))))) :
  am_C d m_X7_setting [am_r s, am_i a1] K N I P z Q X := by
  refine am_C_of ok_X7_setting (fun v hv => am_v1all _ rfl v hv) (Nat.le_of_ble_eq_true rfl) ?_
  show am_E d m_X7_setting 0 0 0 [some (am_r s), some (am_i a1)] [] K N I P z Q X
  refine e_iload_n dX7_setting_0 rfl ?_
  refine e_if_lt (tgt := 10) dX7_setting_1 (by decide) (fun hc => ?_) (fun hc => ?_)
  · replace h := h.1 hc
    exact e_throw (tx := "there is no such setting") dX7_setting_10 dX7_setting_13 dX7_setting_14 dX7_setting_16 dX7_setting_19 (by decide) ck_X7_50 xi_0 xt_X7_54 (by decide) rfl (by omega) (Nat.le_of_ble_eq_true rfl) (Nat.le_of_ble_eq_true rfl) (Nat.le_of_ble_eq_true rfl) h
  · replace h := h.2 hc
    refine e_iload_n dX7_setting_4 rfl ?_
    refine e_bipush dX7_setting_5 ?_
    refine e_icmp_lt (tgt := 20) dX7_setting_7 (by decide) (fun hc => ?_) (fun hc => ?_)
    · replace h := h.1 hc
      refine e_aload_n dX7_setting_20 rfl trivial ?_
      obtain ⟨hK1, h⟩ := h
      obtain ⟨b2, hb2, h⟩ := h
      refine e_getr1 dX7_setting_21 fk_X7_43 rfl hK1 hb2 ?_
      obtain ⟨hK3, h⟩ := h
      obtain ⟨b4, hb4, h⟩ := h
      refine e_getr1 dX7_setting_24 fk_X7_81 rfl hK3 hb4 ?_
      refine e_iload_n dX7_setting_27 rfl ?_
      obtain ⟨hK5, h⟩ := h
      obtain ⟨⟨h0, h1⟩, h⟩ := h
      refine e_iald dX7_setting_28 hK5 h0 h1 ?_
      exact e_ret_i dX7_setting_29 rfl (Nat.le_of_ble_eq_true rfl) (Nat.le_of_ble_eq_true rfl) h
    · replace h := h.2 hc
      exact e_throw (tx := "there is no such setting") dX7_setting_10 dX7_setting_13 dX7_setting_14 dX7_setting_16 dX7_setting_19 (by decide) ck_X7_50 xi_0 xt_X7_54 (by decide) rfl (by omega) (Nat.le_of_ble_eq_true rfl) (Nat.le_of_ble_eq_true rfl) (Nat.le_of_ble_eq_true rfl) h
set_option maxRecDepth 100000 in
set_option maxHeartbeats 4000000 in
theorem wf_X7_routeAt {d : Nat} (hd : 6 ≤ d) {s : Nat} {a1 : Int} {K N : Nat → Nat} {I : Nat → Nat → Int} {P : Nat → Nat → Option Nat} {z : Nat} {Q : am_V → am_T} {X : Nat → am_T} (h :
  ((0 ≤ a1 →
    K s = 7 ∧ ∃ b2, P s 0 = some b2 ∧ K b2 = 6 ∧ ∃ b4, P b2 3 = some b4 ∧ K b4 = 3 ∧ am_C (d - 1) m_X3_codeAndLane [am_r b4, am_i a1] K N I P z (fun v K5 N6 I7 P8 z9 => am_iv v fun x11 =>
      Q (am_i x11) K5 N6 I7 P8 z9) am_nx) ∧
    (¬ (0 ≤ a1) →
    X 1 K N I P z))) :
  am_C d m_X7_routeAt [am_r s, am_i a1] K N I P z Q X := by
  refine am_C_of ok_X7_routeAt (fun v hv => am_v1all _ rfl v hv) (Nat.le_of_ble_eq_true rfl) ?_
  show am_E d m_X7_routeAt 0 0 0 [some (am_r s), some (am_i a1)] [] K N I P z Q X
  refine e_iload_n dX7_routeAt_0 rfl ?_
  refine e_if_ge (tgt := 14) dX7_routeAt_1 (by decide) (fun hc => ?_) (fun hc => ?_)
  · replace h := h.1 hc
    refine e_aload_n dX7_routeAt_14 rfl trivial ?_
    obtain ⟨hK1, h⟩ := h
    obtain ⟨b2, hb2, h⟩ := h
    refine e_getr1 dX7_routeAt_15 fk_X7_43 rfl hK1 hb2 ?_
    obtain ⟨hK3, h⟩ := h
    obtain ⟨b4, hb4, h⟩ := h
    refine e_getr1 dX7_routeAt_18 fk_X7_116 rfl hK3 hb4 ?_
    refine e_iload_n dX7_routeAt_21 rfl ?_
    obtain ⟨hK10, h⟩ := h
    refine e_callV (Mc := m_X3_codeAndLane) (vs := [am_i a1]) (st := []) dX7_routeAt_22 ok_X3_codeAndLane rfl ⟨by decide, rfl⟩ mk_X7_244 im_X3_codeAndLane sl_X3_codeAndLane rfl rfl hK10 (by omega) (Nat.le_of_ble_eq_true rfl) (Nat.le_of_ble_eq_true rfl) (Nat.le_of_ble_eq_true rfl) am_xh_nx (am_C_mono h (fun v K5 N6 I7 P8 z9 h => ?_) (fun _ _ _ _ _ _ h => h))
    replace h := am_iv_or h
    obtain ⟨x11, rfl, h⟩ := h
    show am_E d m_X7_routeAt 25 _ _ _ [am_i x11] K5 N6 I7 P8 z9 Q X
    exact e_ret_i dX7_routeAt_25 rfl (Nat.le_of_ble_eq_true rfl) (Nat.le_of_ble_eq_true rfl) h
  · replace h := h.2 hc
    exact e_throw (tx := "the index is negative") dX7_routeAt_4 dX7_routeAt_7 dX7_routeAt_8 dX7_routeAt_10 dX7_routeAt_13 (by decide) ck_X7_64 xi_1 xt_X7_68 (by decide) rfl (by omega) (Nat.le_of_ble_eq_true rfl) (Nat.le_of_ble_eq_true rfl) (Nat.le_of_ble_eq_true rfl) h
set_option maxRecDepth 100000 in
set_option maxHeartbeats 4000000 in
theorem wf_X7_gapAhead {d : Nat} (hd : 6 ≤ d) {s : Nat} {a1 : Int} {K N : Nat → Nat} {I : Nat → Nat → Int} {P : Nat → Nat → Option Nat} {z : Nat} {Q : am_V → am_T} {X : Nat → am_T} (h :
  K s = 7 ∧ am_C (d - 1) m_X7_hasEntered [am_r s, am_i a1] K N I P z (fun v K1 N2 I3 P4 z5 => am_iv v fun x7 =>
    ((¬ x7 = 0 →
    K1 s = 7 ∧ ∃ b9, P4 s 0 = some b9 ∧ K1 b9 = 6 ∧ am_C (d - 1) m_X6_placeOf [am_r b9, am_i a1] K1 N2 I3 P4 z5 (fun v K10 N11 I12 P13 z14 => am_iv v fun x16 =>
      ((¬ x16 = (-1) →
      ((¬ x16 = 0 →
        K10 s = 7 ∧ ∃ b18, P13 s 0 = some b18 ∧ K10 b18 = 6 ∧ am_C (d - 1) m_X6_gapBetween [am_r b18, am_i (am_wr (x16 - 1)), am_i x16] K10 N11 I12 P13 z14 (fun v K19 N20 I21 P22 z23 => am_iv v fun x25 =>
          Q (am_i x25) K19 N20 I21 P22 z23) am_nx) ∧
        (x16 = 0 →
        Q (am_i (-1)) K10 N11 I12 P13 z14))) ∧
      (x16 = (-1) →
      X 2 K10 N11 I12 P13 z14))) am_nx) ∧
    (x7 = 0 →
    X 0 K1 N2 I3 P4 z5))) am_nx) :
  am_C d m_X7_gapAhead [am_r s, am_i a1] K N I P z Q X := by
  refine am_C_of ok_X7_gapAhead (fun v hv => am_v1all _ rfl v hv) (Nat.le_of_ble_eq_true rfl) ?_
  show am_E d m_X7_gapAhead 0 0 0 [some (am_r s), some (am_i a1), none] [] K N I P z Q X
  refine e_aload_n dX7_gapAhead_0 rfl trivial ?_
  refine e_iload_n dX7_gapAhead_1 rfl ?_
  obtain ⟨hK6, h⟩ := h
  refine e_callV (Mc := m_X7_hasEntered) (vs := [am_i a1]) (st := []) dX7_gapAhead_2 ok_X7_hasEntered rfl ⟨by decide, rfl⟩ mk_X7_188 im_X7_hasEntered sl_X7_hasEntered rfl rfl hK6 (by omega) (Nat.le_of_ble_eq_true rfl) (Nat.le_of_ble_eq_true rfl) (Nat.le_of_ble_eq_true rfl) am_xh_nx (am_C_mono h (fun v K1 N2 I3 P4 z5 h => ?_) (fun _ _ _ _ _ _ h => h))
  replace h := am_iv_or h
  obtain ⟨x7, rfl, h⟩ := h
  show am_E d m_X7_gapAhead 5 _ _ _ [am_i x7] K1 N2 I3 P4 z5 Q X
  refine e_if_ne (tgt := 18) dX7_gapAhead_5 (by decide) (fun hc => ?_) (fun hc => ?_)
  · replace h := h.1 hc
    refine e_aload_n dX7_gapAhead_18 rfl trivial ?_
    obtain ⟨hK8, h⟩ := h
    obtain ⟨b9, hb9, h⟩ := h
    refine e_getr1 dX7_gapAhead_19 fk_X7_43 rfl hK8 hb9 ?_
    refine e_iload_n dX7_gapAhead_22 rfl ?_
    obtain ⟨hK15, h⟩ := h
    refine e_callV (Mc := m_X6_placeOf) (vs := [am_i a1]) (st := []) dX7_gapAhead_23 ok_X6_placeOf rfl ⟨by decide, rfl⟩ mk_X7_193 im_X6_placeOf sl_X6_placeOf rfl rfl hK15 (by omega) (Nat.le_of_ble_eq_true rfl) (Nat.le_of_ble_eq_true rfl) (Nat.le_of_ble_eq_true rfl) am_xh_nx (am_C_mono h (fun v K10 N11 I12 P13 z14 h => ?_) (fun _ _ _ _ _ _ h => h))
    replace h := am_iv_or h
    obtain ⟨x16, rfl, h⟩ := h
    show am_E d m_X7_gapAhead 26 _ _ _ [am_i x16] K10 N11 I12 P13 z14 Q X
    refine e_istore_n dX7_gapAhead_26 ?_
    refine e_iload_n dX7_gapAhead_27 rfl ?_
    refine e_iconst dX7_gapAhead_28 ?_
    refine e_icmp_ne (tgt := 42) dX7_gapAhead_29 (by decide) (fun hc => ?_) (fun hc => ?_)
    · replace h := h.1 hc
      refine e_iload_n dX7_gapAhead_42 rfl ?_
      refine e_if_ne (tgt := 50) dX7_gapAhead_43 (by decide) (fun hc => ?_) (fun hc => ?_)
      · replace h := h.1 hc
        refine e_aload_n dX7_gapAhead_50 rfl trivial ?_
        obtain ⟨hK17, h⟩ := h
        obtain ⟨b18, hb18, h⟩ := h
        refine e_getr1 dX7_gapAhead_51 fk_X7_43 rfl hK17 hb18 ?_
        refine e_iload_n dX7_gapAhead_54 rfl ?_
        refine e_iconst dX7_gapAhead_55 ?_
        refine e_isub dX7_gapAhead_56 ?_
        refine e_iload_n dX7_gapAhead_57 rfl ?_
        obtain ⟨hK24, h⟩ := h
        refine e_callV (Mc := m_X6_gapBetween) (vs := [am_i (am_wr (x16 - 1)), am_i x16]) (st := []) dX7_gapAhead_58 ok_X6_gapBetween rfl ⟨by decide, rfl⟩ mk_X7_247 im_X6_gapBetween sl_X6_gapBetween rfl rfl hK24 (by omega) (Nat.le_of_ble_eq_true rfl) (Nat.le_of_ble_eq_true rfl) (Nat.le_of_ble_eq_true rfl) am_xh_nx (am_C_mono h (fun v K19 N20 I21 P22 z23 h => ?_) (fun _ _ _ _ _ _ h => h))
        replace h := am_iv_or h
        obtain ⟨x25, rfl, h⟩ := h
        show am_E d m_X7_gapAhead 61 _ _ _ [am_i x25] K19 N20 I21 P22 z23 Q X
        exact e_ret_i dX7_gapAhead_61 rfl (Nat.le_of_ble_eq_true rfl) (Nat.le_of_ble_eq_true rfl) h
      · replace h := h.2 hc
        refine e_iconst dX7_gapAhead_46 ?_
        refine e_goto (tgt := 61) dX7_gapAhead_47 (by decide) ?_
        exact e_ret_i dX7_gapAhead_61 rfl (Nat.le_of_ble_eq_true rfl) (Nat.le_of_ble_eq_true rfl) h
    · replace h := h.2 hc
      exact e_throw (tx := "the part is not on the belt") dX7_gapAhead_32 dX7_gapAhead_35 dX7_gapAhead_36 dX7_gapAhead_38 dX7_gapAhead_41 (by decide) ck_X7_73 xi_2 xt_X7_77 (by decide) rfl (by omega) (Nat.le_of_ble_eq_true rfl) (Nat.le_of_ble_eq_true rfl) (Nat.le_of_ble_eq_true rfl) h
  · replace h := h.2 hc
    exact e_throw (tx := "no such part has entered") dX7_gapAhead_8 dX7_gapAhead_11 dX7_gapAhead_12 dX7_gapAhead_14 dX7_gapAhead_17 (by decide) ck_X7_50 xi_0 xt_X7_54 (by decide) rfl (by omega) (Nat.le_of_ble_eq_true rfl) (Nat.le_of_ble_eq_true rfl) (Nat.le_of_ble_eq_true rfl) h
def L_X7_ranked_23 (d : Nat) (l0 : Nat) (l1 : Int) (l2 : Int) (K N : Nat → Nat) (I : Nat → Nat → Int) (P : Nat → Nat → Option Nat) (z : Nat) (Q : am_V → am_T) (X : Nat → am_T) : Prop := am_E d m_X7_ranked 23 0 0 [some (am_r l0), some (am_i l1), some (am_i l2)] [] K N I P z Q X
set_option maxRecDepth 100000 in
set_option maxHeartbeats 4000000 in
theorem wf_X7_ranked {d : Nat} (hd : 6 ≤ d) {s : Nat} {a1 : Int} {K N : Nat → Nat} {I : Nat → Nat → Int} {P : Nat → Nat → Option Nat} {z : Nat} {Q : am_V → am_T} {X : Nat → am_T} (h :
  ((0 ≤ a1 →
    K s = 7 ∧ ∃ b2, P s 0 = some b2 ∧ K b2 = 6 ∧ am_C (d - 1) m_X6_aimParts [am_r b2] K N I P z (fun _ K3 N4 I5 P6 z7 =>
      L_X7_ranked_23 d s a1 0 K3 N4 I5 P6 z7 Q X) am_nx) ∧
    (¬ (0 ≤ a1) →
    X 1 K N I P z))) :
  am_C d m_X7_ranked [am_r s, am_i a1] K N I P z Q X := by
  refine am_C_of ok_X7_ranked (fun v hv => am_v1all _ rfl v hv) (Nat.le_of_ble_eq_true rfl) ?_
  show am_E d m_X7_ranked 0 0 0 [some (am_r s), some (am_i a1), none] [] K N I P z Q X
  refine e_iload_n dX7_ranked_0 rfl ?_
  refine e_if_ge (tgt := 14) dX7_ranked_1 (by decide) (fun hc => ?_) (fun hc => ?_)
  · replace h := h.1 hc
    refine e_aload_n dX7_ranked_14 rfl trivial ?_
    obtain ⟨hK1, h⟩ := h
    obtain ⟨b2, hb2, h⟩ := h
    refine e_getr1 dX7_ranked_15 fk_X7_43 rfl hK1 hb2 ?_
    obtain ⟨hK8, h⟩ := h
    refine e_callV (Mc := m_X6_aimParts) (vs := []) (st := []) dX7_ranked_18 ok_X6_aimParts rfl ⟨by decide, rfl⟩ mk_X7_179 im_X6_aimParts sl_X6_aimParts rfl rfl hK8 (by omega) (Nat.le_of_ble_eq_true rfl) (Nat.le_of_ble_eq_true rfl) (Nat.le_of_ble_eq_true rfl) am_xh_nx (am_C_mono h (fun v K3 N4 I5 P6 z7 h => ?_) (fun _ _ _ _ _ _ h => h))
    show am_E d m_X7_ranked 21 _ _ _ [] K3 N4 I5 P6 z7 Q X
    refine e_iconst dX7_ranked_21 ?_
    refine e_istore_n dX7_ranked_22 ?_
    exact e_forget (am_sub_k (am_sub_k (am_sub_k am_sub_nil))) h
  · replace h := h.2 hc
    exact e_throw (tx := "the rank is negative") dX7_ranked_4 dX7_ranked_7 dX7_ranked_8 dX7_ranked_10 dX7_ranked_13 (by decide) ck_X7_64 xi_1 xt_X7_68 (by decide) rfl (by omega) (Nat.le_of_ble_eq_true rfl) (Nat.le_of_ble_eq_true rfl) (Nat.le_of_ble_eq_true rfl) h
set_option maxRecDepth 100000 in
set_option maxHeartbeats 4000000 in
theorem wf_X7_ranked_23 {d : Nat} (hd : 1 ≤ d) {l0 : Nat} {l1 : Int} {l2 : Int} {K N : Nat → Nat} {I : Nat → Nat → Int} {P : Nat → Nat → Option Nat} {z : Nat} {Q : am_V → am_T} {X : Nat → am_T} (h :
  K l0 = 7 ∧ ∃ b2, P l0 0 = some b2 ∧ K b2 = 6 ∧ ((I b2 6 ≤ l2 →
    Q (am_i (-1)) K N I P z) ∧
    (¬ (I b2 6 ≤ l2) →
    am_C (d - 1) m_X6_rankOf [am_r b2, am_i l2] K N I P z (fun v K4 N5 I6 P7 z8 => am_iv v fun x9 =>
      ((¬ x9 = l1 →
      L_X7_ranked_23 d l0 l1 (am_wr (l2 + 1)) K4 N5 I6 P7 z8 Q X) ∧
      (x9 = l1 →
      K4 l0 = 7 ∧ ∃ b11, P7 l0 0 = some b11 ∧ K4 b11 = 6 ∧ ∃ b13, P7 b11 5 = some b13 ∧ K4 b13 = 12 ∧ (0 ≤ l2 ∧ l2 < N5 b13) ∧ ∃ b15, P7 b13 (Int.toNat l2) = some b15 ∧ K4 b15 = 2 ∧ Q (am_i (I6 b15 0)) K4 N5 I6 P7 z8))) am_nx))) :
  L_X7_ranked_23 d l0 l1 l2 K N I P z Q X := by
  unfold L_X7_ranked_23
  refine e_iload_n dX7_ranked_23 rfl ?_
  refine e_aload_n dX7_ranked_24 rfl trivial ?_
  obtain ⟨hK1, h⟩ := h
  obtain ⟨b2, hb2, h⟩ := h
  refine e_getr1 dX7_ranked_25 fk_X7_43 rfl hK1 hb2 ?_
  obtain ⟨hK3, h⟩ := h
  refine e_geti dX7_ranked_28 fk_X7_69 rfl hK3 ?_
  refine e_icmp_ge (tgt := 65) dX7_ranked_31 (by decide) (fun hc => ?_) (fun hc => ?_)
  · replace h := h.1 hc
    refine e_iconst dX7_ranked_65 ?_
    exact e_ret_i dX7_ranked_66 rfl (Nat.le_of_ble_eq_true rfl) (Nat.le_of_ble_eq_true rfl) h
  · replace h := h.2 hc
    refine e_aload_n dX7_ranked_34 rfl trivial ?_
    refine e_getr1 dX7_ranked_35 fk_X7_43 rfl hK1 hb2 ?_
    refine e_iload_n dX7_ranked_38 rfl ?_
    refine e_callV (Mc := m_X6_rankOf) (vs := [am_i l2]) (st := []) dX7_ranked_39 ok_X6_rankOf rfl ⟨by decide, rfl⟩ mk_X7_252 im_X6_rankOf sl_X6_rankOf rfl rfl hK3 (by omega) (Nat.le_of_ble_eq_true rfl) (Nat.le_of_ble_eq_true rfl) (Nat.le_of_ble_eq_true rfl) am_xh_nx (am_C_mono h (fun v K4 N5 I6 P7 z8 h => ?_) (fun _ _ _ _ _ _ h => h))
    replace h := am_iv_or h
    obtain ⟨x9, rfl, h⟩ := h
    show am_E d m_X7_ranked 42 _ _ _ [am_i x9] K4 N5 I6 P7 z8 Q X
    refine e_iload_n dX7_ranked_42 rfl ?_
    refine e_icmp_ne (tgt := 59) dX7_ranked_43 (by decide) (fun hc => ?_) (fun hc => ?_)
    · replace h := h.1 hc
      refine e_iinc dX7_ranked_59 rfl ?_
      refine e_goto (tgt := 23) dX7_ranked_62 (by decide) ?_
      exact e_forget (am_sub_k (am_sub_k (am_sub_k am_sub_nil))) h
    · replace h := h.2 hc
      refine e_aload_n dX7_ranked_46 rfl trivial ?_
      obtain ⟨hK10, h⟩ := h
      obtain ⟨b11, hb11, h⟩ := h
      refine e_getr1 dX7_ranked_47 fk_X7_43 rfl hK10 hb11 ?_
      obtain ⟨hK12, h⟩ := h
      obtain ⟨b13, hb13, h⟩ := h
      refine e_getr1 dX7_ranked_50 fk_X7_198 rfl hK12 hb13 ?_
      refine e_iload_n dX7_ranked_53 rfl ?_
      obtain ⟨hK14, h⟩ := h
      obtain ⟨⟨h0, h1⟩, b15, hb15, h⟩ := h
      refine e_aald1 dX7_ranked_54 hK14 (by decide) h0 h1 hb15 ?_
      obtain ⟨hK16, h⟩ := h
      refine e_geti dX7_ranked_55 fk_X7_171 rfl hK16 ?_
      exact e_ret_i dX7_ranked_58 rfl (Nat.le_of_ble_eq_true rfl) (Nat.le_of_ble_eq_true rfl) h
set_option maxRecDepth 100000 in
set_option maxHeartbeats 4000000 in
theorem wf_X7_share {d : Nat} (hd : 1 ≤ d) {s : Nat} {K N : Nat → Nat} {I : Nat → Nat → Int} {P : Nat → Nat → Option Nat} {z : Nat} {Q : am_V → am_T} (h :
  K s = 7 ∧ ∃ b2, P s 0 = some b2 ∧ K b2 = 6 ∧ ((0 < am_wr (I b2 7 - I b2 6) →
    am_C (d - 1) m_X7_countFates [am_r s, am_i 10, am_i 15] K N I P z (fun v K4 N5 I6 P7 z8 => am_iv v fun x9 =>
      vf_n64 (FP.ddiv (FP.i2d (Int32.ofInt x9)) (FP.i2d (Int32.ofInt (am_wr (I b2 7 - I b2 6))))) ∧ Q (am_d (FP.ddiv (FP.i2d (Int32.ofInt x9)) (FP.i2d (Int32.ofInt (am_wr (I b2 7 - I b2 6)))))) K4 N5 I6 P7 z8) am_nx) ∧
    (¬ (0 < am_wr (I b2 7 - I b2 6)) →
    Q (am_d FP.dconst1) K N I P z))) :
  am_C d m_X7_share [am_r s] K N I P z Q am_nx := by
  refine am_C_of ok_X7_share (fun v hv => am_v1all _ rfl v hv) (Nat.le_of_ble_eq_true rfl) ?_
  show am_E d m_X7_share 0 0 0 [some (am_r s), none] [] K N I P z Q am_nx
  refine e_aload_n dX7_share_0 rfl trivial ?_
  obtain ⟨hK1, h⟩ := h
  obtain ⟨b2, hb2, h⟩ := h
  refine e_getr1 dX7_share_1 fk_X7_43 rfl hK1 hb2 ?_
  obtain ⟨hK3, h⟩ := h
  refine e_geti dX7_share_4 fk_X7_148 rfl hK3 ?_
  refine e_aload_n dX7_share_7 rfl trivial ?_
  refine e_getr1 dX7_share_8 fk_X7_43 rfl hK1 hb2 ?_
  refine e_geti dX7_share_11 fk_X7_69 rfl hK3 ?_
  refine e_isub dX7_share_14 ?_
  refine e_istore_n dX7_share_15 ?_
  refine e_iload_n dX7_share_16 rfl ?_
  refine e_if_gt (tgt := 22) dX7_share_17 (by decide) (fun hc => ?_) (fun hc => ?_)
  · replace h := h.1 hc
    refine e_aload_n dX7_share_22 rfl trivial ?_
    refine e_bipush dX7_share_23 ?_
    refine e_bipush dX7_share_25 ?_
    refine e_callV (Mc := m_X7_countFates) (vs := [am_i 10, am_i 15]) (st := []) dX7_share_27 ok_X7_countFates rfl ⟨by decide, rfl⟩ mk_X7_229 im_X7_countFates sl_X7_countFates rfl rfl hK1 (by omega) (Nat.le_of_ble_eq_true rfl) (Nat.le_of_ble_eq_true rfl) (Nat.le_of_ble_eq_true rfl) am_xh_nx (am_C_mono h (fun v K4 N5 I6 P7 z8 h => ?_) (fun _ _ _ _ _ _ h => h))
    replace h := am_iv_or h
    obtain ⟨x9, rfl, h⟩ := h
    show am_E d m_X7_share 30 _ _ _ [am_i x9] K4 N5 I6 P7 z8 Q am_nx
    refine e_i2d dX7_share_30 ?_
    refine e_iload_n dX7_share_31 rfl ?_
    refine e_i2d dX7_share_32 ?_
    obtain ⟨hvf, h⟩ := h
    refine e_ddiv dX7_share_33 hvf ?_
    exact e_ret_d dX7_share_34 rfl (Nat.le_of_ble_eq_true rfl) (Nat.le_of_ble_eq_true rfl) h
  · replace h := h.2 hc
    refine e_dconst1 dX7_share_20 ?_
    exact e_ret_d dX7_share_21 rfl (Nat.le_of_ble_eq_true rfl) (Nat.le_of_ble_eq_true rfl) h
def L_X7_fateOf_56 (d : Nat) (l0 : Nat) (l3 : Nat) (l4 : Int) (K N : Nat → Nat) (I : Nat → Nat → Int) (P : Nat → Nat → Option Nat) (z : Nat) (Q : am_V → am_T) (X : Nat → am_T) : Prop := am_E d m_X7_fateOf 56 0 0 [some (am_r l0), none, none, some (am_r l3), some (am_i l4)] [] K N I P z Q X
set_option maxRecDepth 100000 in
set_option maxHeartbeats 4000000 in
theorem wf_X7_fateOf {d : Nat} (hd : 6 ≤ d) {s : Nat} {a1 : Int} {K N : Nat → Nat} {I : Nat → Nat → Int} {P : Nat → Nat → Option Nat} {z : Nat} {Q : am_V → am_T} {X : Nat → am_T} (h :
  K s = 7 ∧ am_C (d - 1) m_X7_hasEntered [am_r s, am_i a1] K N I P z (fun v K1 N2 I3 P4 z5 => am_iv v fun x7 =>
    ((¬ x7 = 0 →
    K1 s = 7 ∧ am_C (d - 1) m_X7_startTrial [am_r s] K1 N2 I3 P4 z5 (fun _ K8 N9 I10 P11 z12 =>
      K8 s = 7 ∧ ∃ b15, P11 s 1 = some b15 ∧ K8 b15 = 6 ∧ am_C (d - 1) m_X6_placeOf [am_r b15, am_i a1] K8 N9 I10 P11 z12 (fun v K16 N17 I18 P19 z20 => am_iv v fun x22 =>
      ((¬ x22 = (-1) →
      K16 s = 7 ∧ ∃ b24, P19 s 1 = some b24 ∧ K16 b24 = 6 ∧ ∃ b26, P19 b24 5 = some b26 ∧ K16 b26 = 12 ∧ (0 ≤ x22 ∧ x22 < N17 b26) ∧ ∃ b28, P19 b26 (Int.toNat x22) = some b28 ∧ L_X7_fateOf_56 d s b28 0 K16 N17 I18 P19 z20 Q X) ∧
      (x22 = (-1) →
      K16 s = 7 ∧ am_C (d - 1) m_X7_partProperty [am_r s, am_i a1, am_i 1] K16 N17 I18 P19 z20 (fun v K29 N30 I31 P32 z33 => am_iv v fun x35 =>
        Q (am_i x35) K29 N30 I31 P32 z33) am_nx))) am_nx) am_nx) ∧
    (x7 = 0 →
    X 0 K1 N2 I3 P4 z5))) am_nx) :
  am_C d m_X7_fateOf [am_r s, am_i a1] K N I P z Q X := by
  refine am_C_of ok_X7_fateOf (fun v hv => am_v1all _ rfl v hv) (Nat.le_of_ble_eq_true rfl) ?_
  show am_E d m_X7_fateOf 0 0 0 [some (am_r s), some (am_i a1), none, none, none] [] K N I P z Q X
  refine e_aload_n dX7_fateOf_0 rfl trivial ?_
  refine e_iload_n dX7_fateOf_1 rfl ?_
  obtain ⟨hK6, h⟩ := h
  refine e_callV (Mc := m_X7_hasEntered) (vs := [am_i a1]) (st := []) dX7_fateOf_2 ok_X7_hasEntered rfl ⟨by decide, rfl⟩ mk_X7_188 im_X7_hasEntered sl_X7_hasEntered rfl rfl hK6 (by omega) (Nat.le_of_ble_eq_true rfl) (Nat.le_of_ble_eq_true rfl) (Nat.le_of_ble_eq_true rfl) am_xh_nx (am_C_mono h (fun v K1 N2 I3 P4 z5 h => ?_) (fun _ _ _ _ _ _ h => h))
  replace h := am_iv_or h
  obtain ⟨x7, rfl, h⟩ := h
  show am_E d m_X7_fateOf 5 _ _ _ [am_i x7] K1 N2 I3 P4 z5 Q X
  refine e_if_ne (tgt := 18) dX7_fateOf_5 (by decide) (fun hc => ?_) (fun hc => ?_)
  · replace h := h.1 hc
    refine e_aload_n dX7_fateOf_18 rfl trivial ?_
    obtain ⟨hK13, h⟩ := h
    refine e_callV (Mc := m_X7_startTrial) (vs := []) (st := []) dX7_fateOf_19 ok_X7_startTrial rfl ⟨by decide, rfl⟩ mk_X7_255 im_X7_startTrial sl_X7_startTrial rfl rfl hK13 (by omega) (Nat.le_of_ble_eq_true rfl) (Nat.le_of_ble_eq_true rfl) (Nat.le_of_ble_eq_true rfl) am_xh_nx (am_C_mono h (fun v K8 N9 I10 P11 z12 h => ?_) (fun _ _ _ _ _ _ h => h))
    show am_E d m_X7_fateOf 22 _ _ _ [] K8 N9 I10 P11 z12 Q X
    refine e_aload_n dX7_fateOf_22 rfl trivial ?_
    obtain ⟨hK14, h⟩ := h
    obtain ⟨b15, hb15, h⟩ := h
    refine e_getr1 dX7_fateOf_23 fk_X7_47 rfl hK14 hb15 ?_
    refine e_iload_n dX7_fateOf_26 rfl ?_
    obtain ⟨hK21, h⟩ := h
    refine e_callV (Mc := m_X6_placeOf) (vs := [am_i a1]) (st := []) dX7_fateOf_27 ok_X6_placeOf rfl ⟨by decide, rfl⟩ mk_X7_193 im_X6_placeOf sl_X6_placeOf rfl rfl hK21 (by omega) (Nat.le_of_ble_eq_true rfl) (Nat.le_of_ble_eq_true rfl) (Nat.le_of_ble_eq_true rfl) am_xh_nx (am_C_mono h (fun v K16 N17 I18 P19 z20 h => ?_) (fun _ _ _ _ _ _ h => h))
    replace h := am_iv_or h
    obtain ⟨x22, rfl, h⟩ := h
    show am_E d m_X7_fateOf 30 _ _ _ [am_i x22] K16 N17 I18 P19 z20 Q X
    refine e_istore_n dX7_fateOf_30 ?_
    refine e_iload_n dX7_fateOf_31 rfl ?_
    refine e_iconst dX7_fateOf_32 ?_
    refine e_icmp_ne (tgt := 43) dX7_fateOf_33 (by decide) (fun hc => ?_) (fun hc => ?_)
    · replace h := h.1 hc
      refine e_aload_n dX7_fateOf_43 rfl trivial ?_
      obtain ⟨hK23, h⟩ := h
      obtain ⟨b24, hb24, h⟩ := h
      refine e_getr1 dX7_fateOf_44 fk_X7_47 rfl hK23 hb24 ?_
      obtain ⟨hK25, h⟩ := h
      obtain ⟨b26, hb26, h⟩ := h
      refine e_getr1 dX7_fateOf_47 fk_X7_198 rfl hK25 hb26 ?_
      refine e_iload_n dX7_fateOf_50 rfl ?_
      obtain ⟨hK27, h⟩ := h
      obtain ⟨⟨h0, h1⟩, b28, hb28, h⟩ := h
      refine e_aald1 dX7_fateOf_51 hK27 (by decide) h0 h1 hb28 ?_
      refine e_astore_n dX7_fateOf_52 trivial ?_
      refine e_iconst dX7_fateOf_53 ?_
      refine e_istore dX7_fateOf_54 ?_
      exact e_forget (am_sub_k (am_sub_d (am_sub_d (am_sub_k (am_sub_k am_sub_nil))))) h
    · replace h := h.2 hc
      refine e_aload_n dX7_fateOf_36 rfl trivial ?_
      refine e_iload_n dX7_fateOf_37 rfl ?_
      refine e_iconst dX7_fateOf_38 ?_
      obtain ⟨hK34, h⟩ := h
      refine e_callV (Mc := m_X7_partProperty) (vs := [am_i a1, am_i 1]) (st := []) dX7_fateOf_39 ok_X7_partProperty rfl ⟨by decide, rfl⟩ mk_X7_219 im_X7_partProperty sl_X7_partProperty rfl rfl hK34 (by omega) (Nat.le_of_ble_eq_true rfl) (Nat.le_of_ble_eq_true rfl) (Nat.le_of_ble_eq_true rfl) am_xh_nx (am_C_mono h (fun v K29 N30 I31 P32 z33 h => ?_) (fun _ _ _ _ _ _ h => h))
      replace h := am_iv_or h
      obtain ⟨x35, rfl, h⟩ := h
      show am_E d m_X7_fateOf 42 _ _ _ [am_i x35] K29 N30 I31 P32 z33 Q X
      exact e_ret_i dX7_fateOf_42 rfl (Nat.le_of_ble_eq_true rfl) (Nat.le_of_ble_eq_true rfl) h
  · replace h := h.2 hc
    exact e_throw (tx := "no such part has entered") dX7_fateOf_8 dX7_fateOf_11 dX7_fateOf_12 dX7_fateOf_14 dX7_fateOf_17 (by decide) ck_X7_50 xi_0 xt_X7_54 (by decide) rfl (by omega) (Nat.le_of_ble_eq_true rfl) (Nat.le_of_ble_eq_true rfl) (Nat.le_of_ble_eq_true rfl) h
set_option maxRecDepth 100000 in
set_option maxHeartbeats 4000000 in
theorem wf_X7_fateOf_56 {d : Nat} (hd : 1 ≤ d) {l0 : Nat} {l3 : Nat} {l4 : Int} {K N : Nat → Nat} {I : Nat → Nat → Int} {P : Nat → Nat → Option Nat} {z : Nat} {Q : am_V → am_T} {X : Nat → am_T} (h :
  ((1000000 ≤ l4 →
    K l3 = 2 ∧ Q (am_i (I l3 3)) K N I P z) ∧
    (¬ (1000000 ≤ l4) →
    K l3 = 2 ∧ ((¬ I l3 3 = 0 →
      Q (am_i (I l3 3)) K N I P z) ∧
      (I l3 3 = 0 →
      K l0 = 7 ∧ ∃ b4, P l0 1 = some b4 ∧ K b4 = 6 ∧ am_C (d - 1) m_X6_stride [am_r b4, am_i 1000000] K N I P z (fun v K5 N6 I7 P8 z9 => am_iv v fun x11 =>
        L_X7_fateOf_56 d l0 l3 (am_wr (l4 + 1)) K5 N6 I7 P8 z9 Q X) am_nx))))) :
  L_X7_fateOf_56 d l0 l3 l4 K N I P z Q X := by
  unfold L_X7_fateOf_56
  refine e_iload dX7_fateOf_56 rfl ?_
  refine e_ldcw dX7_fateOf_58 lc_X7_258 ?_
  refine e_icmp_ge (tgt := 88) dX7_fateOf_61 (by decide) (fun hc => ?_) (fun hc => ?_)
  · replace h := h.1 hc
    refine e_aload_n dX7_fateOf_88 rfl trivial ?_
    obtain ⟨hK1, h⟩ := h
    refine e_geti dX7_fateOf_89 fk_X7_259 rfl hK1 ?_
    exact e_ret_i dX7_fateOf_92 rfl (Nat.le_of_ble_eq_true rfl) (Nat.le_of_ble_eq_true rfl) h
  · replace h := h.2 hc
    refine e_aload_n dX7_fateOf_64 rfl trivial ?_
    obtain ⟨hK2, h⟩ := h
    refine e_geti dX7_fateOf_65 fk_X7_259 rfl hK2 ?_
    refine e_if_ne (tgt := 88) dX7_fateOf_68 (by decide) (fun hc => ?_) (fun hc => ?_)
    · replace h := h.1 hc
      refine e_aload_n dX7_fateOf_88 rfl trivial ?_
      refine e_geti dX7_fateOf_89 fk_X7_259 rfl hK2 ?_
      exact e_ret_i dX7_fateOf_92 rfl (Nat.le_of_ble_eq_true rfl) (Nat.le_of_ble_eq_true rfl) h
    · replace h := h.2 hc
      refine e_aload_n dX7_fateOf_71 rfl trivial ?_
      obtain ⟨hK3, h⟩ := h
      obtain ⟨b4, hb4, h⟩ := h
      refine e_getr1 dX7_fateOf_72 fk_X7_47 rfl hK3 hb4 ?_
      refine e_ldcw dX7_fateOf_75 lc_X7_258 ?_
      obtain ⟨hK10, h⟩ := h
      refine e_callV (Mc := m_X6_stride) (vs := [am_i 1000000]) (st := []) dX7_fateOf_78 ok_X6_stride rfl ⟨by decide, rfl⟩ mk_X7_182 im_X6_stride sl_X6_stride rfl rfl hK10 (by omega) (Nat.le_of_ble_eq_true rfl) (Nat.le_of_ble_eq_true rfl) (Nat.le_of_ble_eq_true rfl) am_xh_nx (am_C_mono h (fun v K5 N6 I7 P8 z9 h => ?_) (fun _ _ _ _ _ _ h => h))
      replace h := am_iv_or h
      obtain ⟨x11, rfl, h⟩ := h
      show am_E d m_X7_fateOf 81 _ _ _ [am_i x11] K5 N6 I7 P8 z9 Q X
      refine e_pop dX7_fateOf_81 rfl ?_
      refine e_iinc dX7_fateOf_82 rfl ?_
      refine e_goto (tgt := 56) dX7_fateOf_85 (by decide) ?_
      exact e_forget (am_sub_k (am_sub_d (am_sub_d (am_sub_k (am_sub_k am_sub_nil))))) h
def L_X7_entryIn_8 (d : Nat) (l0 : Nat) (l1 : Int) (l2 : Int) (K N : Nat → Nat) (I : Nat → Nat → Int) (P : Nat → Nat → Option Nat) (z : Nat) (Q : am_V → am_T) : Prop := am_E d m_X7_entryIn 8 0 0 [some (am_r l0), some (am_i l1), some (am_i l2), none] [] K N I P z Q am_nx
set_option maxRecDepth 100000 in
set_option maxHeartbeats 4000000 in
theorem wf_X7_entryIn {d : Nat} (hd : 1 ≤ d) {s : Nat} {K N : Nat → Nat} {I : Nat → Nat → Int} {P : Nat → Nat → Option Nat} {z : Nat} {Q : am_V → am_T} (h :
  K s = 7 ∧ am_C (d - 1) m_X7_startTrial [am_r s] K N I P z (fun _ K1 N2 I3 P4 z5 =>
    L_X7_entryIn_8 d s 0 0 K1 N2 I3 P4 z5 Q) am_nx) :
  am_C d m_X7_entryIn [am_r s] K N I P z Q am_nx := by
  refine am_C_of ok_X7_entryIn (fun v hv => am_v1all _ rfl v hv) (Nat.le_of_ble_eq_true rfl) ?_
  show am_E d m_X7_entryIn 0 0 0 [some (am_r s), none, none, none] [] K N I P z Q am_nx
  refine e_aload_n dX7_entryIn_0 rfl trivial ?_
  obtain ⟨hK6, h⟩ := h
  refine e_callV (Mc := m_X7_startTrial) (vs := []) (st := []) dX7_entryIn_1 ok_X7_startTrial rfl ⟨by decide, rfl⟩ mk_X7_255 im_X7_startTrial sl_X7_startTrial rfl rfl hK6 (by omega) (Nat.le_of_ble_eq_true rfl) (Nat.le_of_ble_eq_true rfl) (Nat.le_of_ble_eq_true rfl) am_xh_nx (am_C_mono h (fun v K1 N2 I3 P4 z5 h => ?_) (fun _ _ _ _ _ _ h => h))
  show am_E d m_X7_entryIn 4 _ _ _ [] K1 N2 I3 P4 z5 Q am_nx
  refine e_iconst dX7_entryIn_4 ?_
  refine e_istore_n dX7_entryIn_5 ?_
  refine e_iconst dX7_entryIn_6 ?_
  refine e_istore_n dX7_entryIn_7 ?_
  exact e_forget (am_sub_k (am_sub_k (am_sub_k (am_sub_d am_sub_nil)))) h
set_option maxRecDepth 100000 in
set_option maxHeartbeats 4000000 in
theorem wf_X7_entryIn_8 {d : Nat} (hd : 1 ≤ d) {l0 : Nat} {l1 : Int} {l2 : Int} {K N : Nat → Nat} {I : Nat → Nat → Int} {P : Nat → Nat → Option Nat} {z : Nat} {Q : am_V → am_T} (h :
  ((1000000 ≤ l2 →
    Q (am_i l1) K N I P z) ∧
    (¬ (1000000 ≤ l2) →
    K l0 = 7 ∧ ∃ b2, P l0 1 = some b2 ∧ K b2 = 6 ∧ ∃ b4, P b2 0 = some b4 ∧ K b4 = 10 ∧ (0 ≤ (5 : Int) ∧ (5 : Int) < N b4) ∧ am_C (d - 1) m_X6_freeAtEntry [am_r b2] K N I P z (fun v K6 N7 I8 P9 z10 => am_iv v fun x11 =>
      ((0 < am_wr (I b4 5 - x11) →
      K6 l0 = 7 ∧ ∃ b13, P9 l0 1 = some b13 ∧ K6 b13 = 6 ∧ am_C (d - 1) m_X6_stride [am_r b13, am_i (am_wr (I b4 5 - x11))] K6 N7 I8 P9 z10 (fun v K14 N15 I16 P17 z18 => am_iv v fun x20 =>
        L_X7_entryIn_8 d l0 (am_wr (l1 + x20)) (am_wr (l2 + 1)) K14 N15 I16 P17 z18 Q) am_nx) ∧
      (¬ (0 < am_wr (I b4 5 - x11)) →
      Q (am_i l1) K6 N7 I8 P9 z10))) am_nx))) :
  L_X7_entryIn_8 d l0 l1 l2 K N I P z Q := by
  unfold L_X7_entryIn_8
  refine e_iload_n dX7_entryIn_8 rfl ?_
  refine e_ldcw dX7_entryIn_9 lc_X7_258 ?_
  refine e_icmp_ge (tgt := 57) dX7_entryIn_12 (by decide) (fun hc => ?_) (fun hc => ?_)
  · replace h := h.1 hc
    refine e_iload_n dX7_entryIn_57 rfl ?_
    exact e_ret_i dX7_entryIn_58 rfl (Nat.le_of_ble_eq_true rfl) (Nat.le_of_ble_eq_true rfl) h
  · replace h := h.2 hc
    refine e_aload_n dX7_entryIn_15 rfl trivial ?_
    obtain ⟨hK1, h⟩ := h
    obtain ⟨b2, hb2, h⟩ := h
    refine e_getr1 dX7_entryIn_16 fk_X7_47 rfl hK1 hb2 ?_
    obtain ⟨hK3, h⟩ := h
    obtain ⟨b4, hb4, h⟩ := h
    refine e_getr1 dX7_entryIn_19 fk_X7_81 rfl hK3 hb4 ?_
    refine e_iconst dX7_entryIn_22 ?_
    obtain ⟨hK5, h⟩ := h
    obtain ⟨⟨h0, h1⟩, h⟩ := h
    refine e_iald dX7_entryIn_23 hK5 h0 h1 ?_
    show am_E _ _ _ _ _ _ (am_i (I b4 5) :: _) _ _ _ _ _ _ _
    refine e_aload_n dX7_entryIn_24 rfl trivial ?_
    refine e_getr1 dX7_entryIn_25 fk_X7_47 rfl hK1 hb2 ?_
    refine e_callV (Mc := m_X6_freeAtEntry) (vs := []) (st := [am_i (I b4 5)]) dX7_entryIn_28 ok_X6_freeAtEntry rfl ⟨by decide, rfl⟩ mk_X7_142 im_X6_freeAtEntry sl_X6_freeAtEntry rfl rfl hK3 (by omega) (Nat.le_of_ble_eq_true rfl) (Nat.le_of_ble_eq_true rfl) (Nat.le_of_ble_eq_true rfl) am_xh_nx (am_C_mono h (fun v K6 N7 I8 P9 z10 h => ?_) (fun _ _ _ _ _ _ h => h))
    replace h := am_iv_or h
    obtain ⟨x11, rfl, h⟩ := h
    show am_E d m_X7_entryIn 31 _ _ _ [am_i x11, am_i (I b4 5)] K6 N7 I8 P9 z10 Q am_nx
    refine e_isub dX7_entryIn_31 ?_
    refine e_istore_n dX7_entryIn_32 ?_
    refine e_iload_n dX7_entryIn_33 rfl ?_
    refine e_if_gt (tgt := 40) dX7_entryIn_34 (by decide) (fun hc => ?_) (fun hc => ?_)
    · replace h := h.1 hc
      refine e_iload_n dX7_entryIn_40 rfl ?_
      refine e_aload_n dX7_entryIn_41 rfl trivial ?_
      obtain ⟨hK12, h⟩ := h
      obtain ⟨b13, hb13, h⟩ := h
      refine e_getr1 dX7_entryIn_42 fk_X7_47 rfl hK12 hb13 ?_
      refine e_iload_n dX7_entryIn_45 rfl ?_
      obtain ⟨hK19, h⟩ := h
      refine e_callV (Mc := m_X6_stride) (vs := [am_i (am_wr (I b4 5 - x11))]) (st := [am_i l1]) dX7_entryIn_46 ok_X6_stride rfl ⟨by decide, rfl⟩ mk_X7_182 im_X6_stride sl_X6_stride rfl rfl hK19 (by omega) (Nat.le_of_ble_eq_true rfl) (Nat.le_of_ble_eq_true rfl) (Nat.le_of_ble_eq_true rfl) am_xh_nx (am_C_mono h (fun v K14 N15 I16 P17 z18 h => ?_) (fun _ _ _ _ _ _ h => h))
      replace h := am_iv_or h
      obtain ⟨x20, rfl, h⟩ := h
      show am_E d m_X7_entryIn 49 _ _ _ [am_i x20, am_i l1] K14 N15 I16 P17 z18 Q am_nx
      refine e_iadd dX7_entryIn_49 ?_
      refine e_istore_n dX7_entryIn_50 ?_
      refine e_iinc dX7_entryIn_51 rfl ?_
      refine e_goto (tgt := 8) dX7_entryIn_54 (by decide) ?_
      exact e_forget (am_sub_k (am_sub_k (am_sub_k (am_sub_d am_sub_nil)))) h
    · replace h := h.2 hc
      refine e_goto (tgt := 57) dX7_entryIn_37 (by decide) ?_
      refine e_iload_n dX7_entryIn_57 rfl ?_
      exact e_ret_i dX7_entryIn_58 rfl (Nat.le_of_ble_eq_true rfl) (Nat.le_of_ble_eq_true rfl) h
def L_X7_nextLeaving_22 (d : Nat) (l0 : Nat) (l1 : Int) (l2 : Int) (l3 : Int) (K N : Nat → Nat) (I : Nat → Nat → Int) (P : Nat → Nat → Option Nat) (z : Nat) (Q : am_V → am_T) : Prop := am_E d m_X7_nextLeaving 22 0 0 [some (am_r l0), some (am_i l1), some (am_i l2), some (am_i l3)] [] K N I P z Q am_nx
set_option maxRecDepth 100000 in
set_option maxHeartbeats 4000000 in
theorem wf_X7_nextLeaving {d : Nat} (hd : 1 ≤ d) {s : Nat} {K N : Nat → Nat} {I : Nat → Nat → Int} {P : Nat → Nat → Option Nat} {z : Nat} {Q : am_V → am_T} (h :
  K s = 7 ∧ ∃ b2, P s 0 = some b2 ∧ K b2 = 6 ∧ ((¬ I b2 6 = 0 →
    am_C (d - 1) m_X7_startTrial [am_r s] K N I P z (fun _ K4 N5 I6 P7 z8 =>
      L_X7_nextLeaving_22 d s (I b2 6) 0 0 K4 N5 I6 P7 z8 Q) am_nx) ∧
    (I b2 6 = 0 →
    Q (am_i (-1)) K N I P z))) :
  am_C d m_X7_nextLeaving [am_r s] K N I P z Q am_nx := by
  refine am_C_of ok_X7_nextLeaving (fun v hv => am_v1all _ rfl v hv) (Nat.le_of_ble_eq_true rfl) ?_
  show am_E d m_X7_nextLeaving 0 0 0 [some (am_r s), none, none, none] [] K N I P z Q am_nx
  refine e_aload_n dX7_nextLeaving_0 rfl trivial ?_
  obtain ⟨hK1, h⟩ := h
  obtain ⟨b2, hb2, h⟩ := h
  refine e_getr1 dX7_nextLeaving_1 fk_X7_43 rfl hK1 hb2 ?_
  obtain ⟨hK3, h⟩ := h
  refine e_geti dX7_nextLeaving_4 fk_X7_69 rfl hK3 ?_
  refine e_istore_n dX7_nextLeaving_7 ?_
  refine e_iload_n dX7_nextLeaving_8 rfl ?_
  refine e_if_ne (tgt := 14) dX7_nextLeaving_9 (by decide) (fun hc => ?_) (fun hc => ?_)
  · replace h := h.1 hc
    refine e_aload_n dX7_nextLeaving_14 rfl trivial ?_
    refine e_callV (Mc := m_X7_startTrial) (vs := []) (st := []) dX7_nextLeaving_15 ok_X7_startTrial rfl ⟨by decide, rfl⟩ mk_X7_255 im_X7_startTrial sl_X7_startTrial rfl rfl hK1 (by omega) (Nat.le_of_ble_eq_true rfl) (Nat.le_of_ble_eq_true rfl) (Nat.le_of_ble_eq_true rfl) am_xh_nx (am_C_mono h (fun v K4 N5 I6 P7 z8 h => ?_) (fun _ _ _ _ _ _ h => h))
    show am_E d m_X7_nextLeaving 18 _ _ _ [] K4 N5 I6 P7 z8 Q am_nx
    refine e_iconst dX7_nextLeaving_18 ?_
    refine e_istore_n dX7_nextLeaving_19 ?_
    refine e_iconst dX7_nextLeaving_20 ?_
    refine e_istore_n dX7_nextLeaving_21 ?_
    exact e_forget (am_sub_k (am_sub_k (am_sub_k (am_sub_k am_sub_nil)))) h
  · replace h := h.2 hc
    refine e_iconst dX7_nextLeaving_12 ?_
    exact e_ret_i dX7_nextLeaving_13 rfl (Nat.le_of_ble_eq_true rfl) (Nat.le_of_ble_eq_true rfl) h
set_option maxRecDepth 100000 in
set_option maxHeartbeats 4000000 in
theorem wf_X7_nextLeaving_22 {d : Nat} (hd : 1 ≤ d) {l0 : Nat} {l1 : Int} {l2 : Int} {l3 : Int} {K N : Nat → Nat} {I : Nat → Nat → Int} {P : Nat → Nat → Option Nat} {z : Nat} {Q : am_V → am_T} (h :
  ((1000000 ≤ l3 →
    Q (am_i l2) K N I P z) ∧
    (¬ (1000000 ≤ l3) →
    K l0 = 7 ∧ ∃ b2, P l0 1 = some b2 ∧ K b2 = 6 ∧ ((¬ I b2 6 = l1 →
      Q (am_i l2) K N I P z) ∧
      (I b2 6 = l1 →
      am_C (d - 1) m_X6_stride [am_r b2, am_i 1000000] K N I P z (fun v K4 N5 I6 P7 z8 => am_iv v fun x9 =>
        L_X7_nextLeaving_22 d l0 l1 (am_wr (l2 + x9)) (am_wr (l3 + 1)) K4 N5 I6 P7 z8 Q) am_nx))))) :
  L_X7_nextLeaving_22 d l0 l1 l2 l3 K N I P z Q := by
  unfold L_X7_nextLeaving_22
  refine e_iload_n dX7_nextLeaving_22 rfl ?_
  refine e_ldcw dX7_nextLeaving_23 lc_X7_258 ?_
  refine e_icmp_ge (tgt := 59) dX7_nextLeaving_26 (by decide) (fun hc => ?_) (fun hc => ?_)
  · replace h := h.1 hc
    refine e_iload_n dX7_nextLeaving_59 rfl ?_
    exact e_ret_i dX7_nextLeaving_60 rfl (Nat.le_of_ble_eq_true rfl) (Nat.le_of_ble_eq_true rfl) h
  · replace h := h.2 hc
    refine e_aload_n dX7_nextLeaving_29 rfl trivial ?_
    obtain ⟨hK1, h⟩ := h
    obtain ⟨b2, hb2, h⟩ := h
    refine e_getr1 dX7_nextLeaving_30 fk_X7_47 rfl hK1 hb2 ?_
    obtain ⟨hK3, h⟩ := h
    refine e_geti dX7_nextLeaving_33 fk_X7_69 rfl hK3 ?_
    refine e_iload_n dX7_nextLeaving_36 rfl ?_
    refine e_icmp_ne (tgt := 59) dX7_nextLeaving_37 (by decide) (fun hc => ?_) (fun hc => ?_)
    · replace h := h.1 hc
      refine e_iload_n dX7_nextLeaving_59 rfl ?_
      exact e_ret_i dX7_nextLeaving_60 rfl (Nat.le_of_ble_eq_true rfl) (Nat.le_of_ble_eq_true rfl) h
    · replace h := h.2 hc
      refine e_iload_n dX7_nextLeaving_40 rfl ?_
      refine e_aload_n dX7_nextLeaving_41 rfl trivial ?_
      refine e_getr1 dX7_nextLeaving_42 fk_X7_47 rfl hK1 hb2 ?_
      refine e_ldcw dX7_nextLeaving_45 lc_X7_258 ?_
      refine e_callV (Mc := m_X6_stride) (vs := [am_i 1000000]) (st := [am_i l2]) dX7_nextLeaving_48 ok_X6_stride rfl ⟨by decide, rfl⟩ mk_X7_182 im_X6_stride sl_X6_stride rfl rfl hK3 (by omega) (Nat.le_of_ble_eq_true rfl) (Nat.le_of_ble_eq_true rfl) (Nat.le_of_ble_eq_true rfl) am_xh_nx (am_C_mono h (fun v K4 N5 I6 P7 z8 h => ?_) (fun _ _ _ _ _ _ h => h))
      replace h := am_iv_or h
      obtain ⟨x9, rfl, h⟩ := h
      show am_E d m_X7_nextLeaving 51 _ _ _ [am_i x9, am_i l2] K4 N5 I6 P7 z8 Q am_nx
      refine e_iadd dX7_nextLeaving_51 ?_
      refine e_istore_n dX7_nextLeaving_52 ?_
      refine e_iinc dX7_nextLeaving_53 rfl ?_
      refine e_goto (tgt := 22) dX7_nextLeaving_56 (by decide) ?_
      exact e_forget (am_sub_k (am_sub_k (am_sub_k (am_sub_k am_sub_nil)))) h
set_option maxRecDepth 100000 in
set_option maxHeartbeats 4000000 in
theorem wf_X7_laneFor {d : Nat} (hd : 6 ≤ d) {s : Nat} {a1 : Int} {a2 : Int} {K N : Nat → Nat} {I : Nat → Nat → Int} {P : Nat → Nat → Option Nat} {z : Nat} {Q : am_V → am_T} {X : Nat → am_T} (h :
  ((a1 < 0 →
    X 1 K N I P z) ∧
    (¬ (a1 < 0) →
    ((a1 ≤ 999 →
      ((a2 < 10 →
        X 1 K N I P z) ∧
        (¬ (a2 < 10) →
        ((a2 ≤ 400 →
          K s = 7 ∧ ∃ b2, P s 0 = some b2 ∧ K b2 = 6 ∧ am_C (d - 1) m_X6_laneGiven [am_r b2, am_i a1, am_i a2] K N I P z (fun v K3 N4 I5 P6 z7 => am_iv v fun x9 =>
            Q (am_i x9) K3 N4 I5 P6 z7) am_nx) ∧
          (¬ (a2 ≤ 400) →
          X 1 K N I P z))))) ∧
      (¬ (a1 ≤ 999) →
      X 1 K N I P z))))) :
  am_C d m_X7_laneFor [am_r s, am_i a1, am_i a2] K N I P z Q X := by
  refine am_C_of ok_X7_laneFor (fun v hv => am_v1all _ rfl v hv) (Nat.le_of_ble_eq_true rfl) ?_
  show am_E d m_X7_laneFor 0 0 0 [some (am_r s), some (am_i a1), some (am_i a2)] [] K N I P z Q X
  refine e_iload_n dX7_laneFor_0 rfl ?_
  refine e_if_lt (tgt := 11) dX7_laneFor_1 (by decide) (fun hc => ?_) (fun hc => ?_)
  · replace h := h.1 hc
    exact e_throw (tx := "the code is out of range") dX7_laneFor_11 dX7_laneFor_14 dX7_laneFor_15 dX7_laneFor_17 dX7_laneFor_20 (by decide) ck_X7_64 xi_1 xt_X7_68 (by decide) rfl (by omega) (Nat.le_of_ble_eq_true rfl) (Nat.le_of_ble_eq_true rfl) (Nat.le_of_ble_eq_true rfl) h
  · replace h := h.2 hc
    refine e_iload_n dX7_laneFor_4 rfl ?_
    refine e_sipush dX7_laneFor_5 ?_
    refine e_icmp_le (tgt := 21) dX7_laneFor_8 (by decide) (fun hc => ?_) (fun hc => ?_)
    · replace h := h.1 hc
      refine e_iload_n dX7_laneFor_21 rfl ?_
      refine e_bipush dX7_laneFor_22 ?_
      refine e_icmp_lt (tgt := 34) dX7_laneFor_24 (by decide) (fun hc => ?_) (fun hc => ?_)
      · replace h := h.1 hc
        exact e_throw (tx := "the length is out of range") dX7_laneFor_34 dX7_laneFor_37 dX7_laneFor_38 dX7_laneFor_40 dX7_laneFor_43 (by decide) ck_X7_64 xi_1 xt_X7_68 (by decide) rfl (by omega) (Nat.le_of_ble_eq_true rfl) (Nat.le_of_ble_eq_true rfl) (Nat.le_of_ble_eq_true rfl) h
      · replace h := h.2 hc
        refine e_iload_n dX7_laneFor_27 rfl ?_
        refine e_sipush dX7_laneFor_28 ?_
        refine e_icmp_le (tgt := 44) dX7_laneFor_31 (by decide) (fun hc => ?_) (fun hc => ?_)
        · replace h := h.1 hc
          refine e_aload_n dX7_laneFor_44 rfl trivial ?_
          obtain ⟨hK1, h⟩ := h
          obtain ⟨b2, hb2, h⟩ := h
          refine e_getr1 dX7_laneFor_45 fk_X7_43 rfl hK1 hb2 ?_
          refine e_iload_n dX7_laneFor_48 rfl ?_
          refine e_iload_n dX7_laneFor_49 rfl ?_
          obtain ⟨hK8, h⟩ := h
          refine e_callV (Mc := m_X6_laneGiven) (vs := [am_i a1, am_i a2]) (st := []) dX7_laneFor_50 ok_X6_laneGiven rfl ⟨by decide, rfl⟩ mk_X7_262 im_X6_laneGiven sl_X6_laneGiven rfl rfl hK8 (by omega) (Nat.le_of_ble_eq_true rfl) (Nat.le_of_ble_eq_true rfl) (Nat.le_of_ble_eq_true rfl) am_xh_nx (am_C_mono h (fun v K3 N4 I5 P6 z7 h => ?_) (fun _ _ _ _ _ _ h => h))
          replace h := am_iv_or h
          obtain ⟨x9, rfl, h⟩ := h
          show am_E d m_X7_laneFor 53 _ _ _ [am_i x9] K3 N4 I5 P6 z7 Q X
          exact e_ret_i dX7_laneFor_53 rfl (Nat.le_of_ble_eq_true rfl) (Nat.le_of_ble_eq_true rfl) h
        · replace h := h.2 hc
          exact e_throw (tx := "the length is out of range") dX7_laneFor_34 dX7_laneFor_37 dX7_laneFor_38 dX7_laneFor_40 dX7_laneFor_43 (by decide) ck_X7_64 xi_1 xt_X7_68 (by decide) rfl (by omega) (Nat.le_of_ble_eq_true rfl) (Nat.le_of_ble_eq_true rfl) (Nat.le_of_ble_eq_true rfl) h
    · replace h := h.2 hc
      exact e_throw (tx := "the code is out of range") dX7_laneFor_11 dX7_laneFor_14 dX7_laneFor_15 dX7_laneFor_17 dX7_laneFor_20 (by decide) ck_X7_64 xi_1 xt_X7_68 (by decide) rfl (by omega) (Nat.le_of_ble_eq_true rfl) (Nat.le_of_ble_eq_true rfl) (Nat.le_of_ble_eq_true rfl) h
set_option maxRecDepth 100000 in
set_option maxHeartbeats 4000000 in
theorem wf_X7_errorPosition {d : Nat} (hd : 1 ≤ d) {s : Nat} {K N : Nat → Nat} {I : Nat → Nat → Int} {P : Nat → Nat → Option Nat} {z : Nat} {Q : am_V → am_T} (h :
  K s = 7 ∧ ∃ b2, P s 5 = some b2 ∧ ∃ b3, P s 6 = some b3 ∧ K b2 = 5 ∧ am_C (d - 1) m_X5_parseInto [am_r b2, am_r b3] K N I P z (fun v K4 N5 I6 P7 z8 => am_iv v fun x10 =>
    Q (am_i x10) K4 N5 I6 P7 z8) am_nx) :
  am_C d m_X7_errorPosition [am_r s] K N I P z Q am_nx := by
  refine am_C_of ok_X7_errorPosition (fun v hv => am_v1all _ rfl v hv) (Nat.le_of_ble_eq_true rfl) ?_
  show am_E d m_X7_errorPosition 0 0 0 [some (am_r s)] [] K N I P z Q am_nx
  refine e_aload_n dX7_errorPosition_0 rfl trivial ?_
  obtain ⟨hK1, h⟩ := h
  obtain ⟨b2, hb2, h⟩ := h
  refine e_getr1 dX7_errorPosition_1 fk_X7_25 rfl hK1 hb2 ?_
  refine e_aload_n dX7_errorPosition_4 rfl trivial ?_
  obtain ⟨b3, hb3, h⟩ := h
  refine e_getr1 dX7_errorPosition_5 fk_X7_32 rfl hK1 hb3 ?_
  obtain ⟨hK9, h⟩ := h
  refine e_callV (Mc := m_X5_parseInto) (vs := [am_r b3]) (st := []) dX7_errorPosition_8 ok_X5_parseInto rfl ⟨by decide, rfl⟩ mk_X7_272 im_X5_parseInto sl_X5_parseInto rfl rfl hK9 (by omega) (Nat.le_of_ble_eq_true rfl) (Nat.le_of_ble_eq_true rfl) (Nat.le_of_ble_eq_true rfl) am_xh_nx (am_C_mono h (fun v K4 N5 I6 P7 z8 h => ?_) (fun _ _ _ _ _ _ h => h))
  replace h := am_iv_or h
  obtain ⟨x10, rfl, h⟩ := h
  show am_E d m_X7_errorPosition 11 _ _ _ [am_i x10] K4 N5 I6 P7 z8 Q am_nx
  exact e_ret_i dX7_errorPosition_11 rfl (Nat.le_of_ble_eq_true rfl) (Nat.le_of_ble_eq_true rfl) h
set_option maxRecDepth 100000 in
set_option maxHeartbeats 4000000 in
theorem wf_X7_save {d : Nat} (hd : 1 ≤ d) {s : Nat} {K N : Nat → Nat} {I : Nat → Nat → Int} {P : Nat → Nat → Option Nat} {z : Nat} {Q : am_V → am_T} (h :
  K s = 7 ∧ ((I s 3 < 6 →
    ∃ b2, P s 2 = some b2 ∧ K b2 = 13 ∧ (0 ≤ I s 3 ∧ I s 3 < N b2) ∧ ∃ b4, P b2 (Int.toNat (I s 3)) = some b4 ∧ ∃ b5, P s 0 = some b5 ∧ K b4 = 6 ∧ am_C (d - 1) m_X6_copyFrom [am_r b4, am_r b5] K N I P z (fun _ K6 N7 I8 P9 z10 =>
      K6 s = 7 ∧ ∀ I13, I13 = am_u2 I8 s 3 (am_wr (I8 s 3 + 1)) → Q am_nl K6 N7 I13 P9 z10) am_nx) ∧
    (¬ (I s 3 < 6) →
    am_C (d - 1) m_X7_dropOldestSaved [am_r s] K N I P z (fun _ K14 N15 I16 P17 z18 =>
      K14 s = 7 ∧ ∃ b20, P17 s 2 = some b20 ∧ K14 b20 = 13 ∧ (0 ≤ I16 s 3 ∧ I16 s 3 < N15 b20) ∧ ∃ b22, P17 b20 (Int.toNat (I16 s 3)) = some b22 ∧ ∃ b23, P17 s 0 = some b23 ∧ K14 b22 = 6 ∧ am_C (d - 1) m_X6_copyFrom [am_r b22, am_r b23] K14 N15 I16 P17 z18 (fun _ K24 N25 I26 P27 z28 =>
      K24 s = 7 ∧ ∀ I31, I31 = am_u2 I26 s 3 (am_wr (I26 s 3 + 1)) → Q am_nl K24 N25 I31 P27 z28) am_nx) am_nx))) :
  am_C d m_X7_save [am_r s] K N I P z Q am_nx := by
  refine am_C_of ok_X7_save (fun v hv => am_v1all _ rfl v hv) (Nat.le_of_ble_eq_true rfl) ?_
  show am_E d m_X7_save 0 0 0 [some (am_r s)] [] K N I P z Q am_nx
  refine e_aload_n dX7_save_0 rfl trivial ?_
  obtain ⟨hK1, h⟩ := h
  refine e_geti dX7_save_1 fk_X7_208 rfl hK1 ?_
  refine e_bipush dX7_save_4 ?_
  refine e_icmp_lt (tgt := 13) dX7_save_6 (by decide) (fun hc => ?_) (fun hc => ?_)
  · replace h := h.1 hc
    refine e_aload_n dX7_save_13 rfl trivial ?_
    obtain ⟨b2, hb2, h⟩ := h
    refine e_getr1 dX7_save_14 fk_X7_11 rfl hK1 hb2 ?_
    refine e_aload_n dX7_save_17 rfl trivial ?_
    refine e_geti dX7_save_18 fk_X7_208 rfl hK1 ?_
    obtain ⟨hK3, h⟩ := h
    obtain ⟨⟨h0, h1⟩, b4, hb4, h⟩ := h
    refine e_aald1 dX7_save_21 hK3 (by decide) h0 h1 hb4 ?_
    refine e_aload_n dX7_save_22 rfl trivial ?_
    obtain ⟨b5, hb5, h⟩ := h
    refine e_getr1 dX7_save_23 fk_X7_43 rfl hK1 hb5 ?_
    obtain ⟨hK11, h⟩ := h
    refine e_callV (Mc := m_X6_copyFrom) (vs := [am_r b5]) (st := []) dX7_save_26 ok_X6_copyFrom rfl ⟨by decide, rfl⟩ mk_X7_213 im_X6_copyFrom sl_X6_copyFrom rfl rfl hK11 (by omega) (Nat.le_of_ble_eq_true rfl) (Nat.le_of_ble_eq_true rfl) (Nat.le_of_ble_eq_true rfl) am_xh_nx (am_C_mono h (fun v K6 N7 I8 P9 z10 h => ?_) (fun _ _ _ _ _ _ h => h))
    show am_E d m_X7_save 29 _ _ _ [] K6 N7 I8 P9 z10 Q am_nx
    refine e_aload_n dX7_save_29 rfl trivial ?_
    refine e_dup dX7_save_30 rfl ?_
    obtain ⟨hK12, h⟩ := h
    refine e_geti dX7_save_31 fk_X7_208 rfl hK12 ?_
    refine e_iconst dX7_save_34 ?_
    refine e_iadd dX7_save_35 ?_
    refine e_puti dX7_save_36 fk_X7_208 rfl (Or.inl rfl) hK12 ?_
    replace h := h _ rfl
    generalize am_u2 I8 s 3 (am_wr (I8 s 3 + 1)) = I13 at h ⊢
    exact e_ret_v dX7_save_39 rfl (Nat.le_of_ble_eq_true rfl) (Nat.le_of_ble_eq_true rfl) h
  · replace h := h.2 hc
    refine e_aload_n dX7_save_9 rfl trivial ?_
    refine e_callV (Mc := m_X7_dropOldestSaved) (vs := []) (st := []) dX7_save_10 ok_X7_dropOldestSaved rfl ⟨by decide, rfl⟩ mk_X7_284 im_X7_dropOldestSaved sl_X7_dropOldestSaved rfl rfl hK1 (by omega) (Nat.le_of_ble_eq_true rfl) (Nat.le_of_ble_eq_true rfl) (Nat.le_of_ble_eq_true rfl) am_xh_nx (am_C_mono h (fun v K14 N15 I16 P17 z18 h => ?_) (fun _ _ _ _ _ _ h => h))
    show am_E d m_X7_save 13 _ _ _ [] K14 N15 I16 P17 z18 Q am_nx
    refine e_aload_n dX7_save_13 rfl trivial ?_
    obtain ⟨hK19, h⟩ := h
    obtain ⟨b20, hb20, h⟩ := h
    refine e_getr1 dX7_save_14 fk_X7_11 rfl hK19 hb20 ?_
    refine e_aload_n dX7_save_17 rfl trivial ?_
    refine e_geti dX7_save_18 fk_X7_208 rfl hK19 ?_
    obtain ⟨hK21, h⟩ := h
    obtain ⟨⟨h0, h1⟩, b22, hb22, h⟩ := h
    refine e_aald1 dX7_save_21 hK21 (by decide) h0 h1 hb22 ?_
    refine e_aload_n dX7_save_22 rfl trivial ?_
    obtain ⟨b23, hb23, h⟩ := h
    refine e_getr1 dX7_save_23 fk_X7_43 rfl hK19 hb23 ?_
    obtain ⟨hK29, h⟩ := h
    refine e_callV (Mc := m_X6_copyFrom) (vs := [am_r b23]) (st := []) dX7_save_26 ok_X6_copyFrom rfl ⟨by decide, rfl⟩ mk_X7_213 im_X6_copyFrom sl_X6_copyFrom rfl rfl hK29 (by omega) (Nat.le_of_ble_eq_true rfl) (Nat.le_of_ble_eq_true rfl) (Nat.le_of_ble_eq_true rfl) am_xh_nx (am_C_mono h (fun v K24 N25 I26 P27 z28 h => ?_) (fun _ _ _ _ _ _ h => h))
    show am_E d m_X7_save 29 _ _ _ [] K24 N25 I26 P27 z28 Q am_nx
    refine e_aload_n dX7_save_29 rfl trivial ?_
    refine e_dup dX7_save_30 rfl ?_
    obtain ⟨hK30, h⟩ := h
    refine e_geti dX7_save_31 fk_X7_208 rfl hK30 ?_
    refine e_iconst dX7_save_34 ?_
    refine e_iadd dX7_save_35 ?_
    refine e_puti dX7_save_36 fk_X7_208 rfl (Or.inl rfl) hK30 ?_
    replace h := h _ rfl
    generalize am_u2 I26 s 3 (am_wr (I26 s 3 + 1)) = I31 at h ⊢
    exact e_ret_v dX7_save_39 rfl (Nat.le_of_ble_eq_true rfl) (Nat.le_of_ble_eq_true rfl) h
def L_X7_dropOldestSaved_9 (d : Nat) (l0 : Nat) (l1 : Nat) (l2 : Int) (K N : Nat → Nat) (I : Nat → Nat → Int) (P : Nat → Nat → Option Nat) (z : Nat) (Q : am_V → am_T) : Prop := am_E d m_X7_dropOldestSaved 9 0 0 [some (am_r l0), some (am_r l1), some (am_i l2)] [] K N I P z Q am_nx
set_option maxRecDepth 100000 in
set_option maxHeartbeats 4000000 in
theorem wf_X7_dropOldestSaved {d : Nat} {s : Nat} {K N : Nat → Nat} {I : Nat → Nat → Int} {P : Nat → Nat → Option Nat} {z : Nat} {Q : am_V → am_T} (h :
  K s = 7 ∧ ∃ b2, P s 2 = some b2 ∧ K b2 = 13 ∧ (0 ≤ (0 : Int) ∧ (0 : Int) < N b2) ∧ ∃ b4, P b2 0 = some b4 ∧ L_X7_dropOldestSaved_9 d s b4 1 K N I P z Q) :
  am_C d m_X7_dropOldestSaved [am_r s] K N I P z Q am_nx := by
  refine am_C_of ok_X7_dropOldestSaved (fun v hv => am_v1all _ rfl v hv) (Nat.le_of_ble_eq_true rfl) ?_
  show am_E d m_X7_dropOldestSaved 0 0 0 [some (am_r s), none, none] [] K N I P z Q am_nx
  refine e_aload_n dX7_dropOldestSaved_0 rfl trivial ?_
  obtain ⟨hK1, h⟩ := h
  obtain ⟨b2, hb2, h⟩ := h
  refine e_getr1 dX7_dropOldestSaved_1 fk_X7_11 rfl hK1 hb2 ?_
  refine e_iconst dX7_dropOldestSaved_4 ?_
  obtain ⟨hK3, h⟩ := h
  obtain ⟨⟨h0, h1⟩, b4, hb4, h⟩ := h
  refine e_aald1 dX7_dropOldestSaved_5 hK3 (by decide) h0 h1 hb4 ?_
  refine e_astore_n dX7_dropOldestSaved_6 trivial ?_
  refine e_iconst dX7_dropOldestSaved_7 ?_
  refine e_istore_n dX7_dropOldestSaved_8 ?_
  exact e_forget (am_sub_k (am_sub_k (am_sub_k am_sub_nil))) h
set_option maxRecDepth 100000 in
set_option maxHeartbeats 4000000 in
theorem wf_X7_dropOldestSaved_9 {d : Nat} {l0 : Nat} {l1 : Nat} {l2 : Int} {K N : Nat → Nat} {I : Nat → Nat → Int} {P : Nat → Nat → Option Nat} {z : Nat} {Q : am_V → am_T} (h :
  ((6 ≤ l2 →
    K l0 = 7 ∧ ∃ b2, P l0 2 = some b2 ∧ K b2 = 13 ∧ (0 ≤ (5 : Int) ∧ (5 : Int) < N b2) ∧ K l1 = 6 ∧ ∀ P5, P5 = am_p2 P b2 (Int.toNat 5) (some l1) → ∀ I6, I6 = am_u2 I l0 3 5 → Q am_nl K N I6 P5 z) ∧
    (¬ (6 ≤ l2) →
    K l0 = 7 ∧ ∃ b8, P l0 2 = some b8 ∧ K b8 = 13 ∧ (0 ≤ l2 ∧ l2 < N b8) ∧ ∃ b10, P b8 (Int.toNat l2) = some b10 ∧ (0 ≤ am_wr (l2 - 1) ∧ am_wr (l2 - 1) < N b8) ∧ K b10 = 6 ∧ ∀ P12, P12 = am_p2 P b8 (Int.toNat (am_wr (l2 - 1))) (some b10) → L_X7_dropOldestSaved_9 d l0 l1 (am_wr (l2 + 1)) K N I P12 z Q))) :
  L_X7_dropOldestSaved_9 d l0 l1 l2 K N I P z Q := by
  unfold L_X7_dropOldestSaved_9
  refine e_iload_n dX7_dropOldestSaved_9 rfl ?_
  refine e_bipush dX7_dropOldestSaved_10 ?_
  refine e_icmp_ge (tgt := 35) dX7_dropOldestSaved_12 (by decide) (fun hc => ?_) (fun hc => ?_)
  · replace h := h.1 hc
    refine e_aload_n dX7_dropOldestSaved_35 rfl trivial ?_
    obtain ⟨hK1, h⟩ := h
    obtain ⟨b2, hb2, h⟩ := h
    refine e_getr1 dX7_dropOldestSaved_36 fk_X7_11 rfl hK1 hb2 ?_
    refine e_iconst dX7_dropOldestSaved_39 ?_
    refine e_aload_n dX7_dropOldestSaved_40 rfl trivial ?_
    obtain ⟨hK3, h⟩ := h
    obtain ⟨⟨h0, h1⟩, h⟩ := h
    obtain ⟨hK4, h⟩ := h
    refine e_aast dX7_dropOldestSaved_41 hK3 (Or.inr (Or.inr ⟨rfl, hK4⟩)) h0 h1 ?_
    replace h := h _ rfl
    generalize am_p2 P b2 (Int.toNat 5) (some l1) = P5 at h ⊢
    refine e_aload_n dX7_dropOldestSaved_42 rfl trivial ?_
    refine e_iconst dX7_dropOldestSaved_43 ?_
    refine e_puti dX7_dropOldestSaved_44 fk_X7_208 rfl (Or.inl rfl) hK1 ?_
    replace h := h _ rfl
    generalize am_u2 I l0 3 5 = I6 at h ⊢
    exact e_ret_v dX7_dropOldestSaved_47 rfl (Nat.le_of_ble_eq_true rfl) (Nat.le_of_ble_eq_true rfl) h
  · replace h := h.2 hc
    refine e_aload_n dX7_dropOldestSaved_15 rfl trivial ?_
    obtain ⟨hK7, h⟩ := h
    obtain ⟨b8, hb8, h⟩ := h
    refine e_getr1 dX7_dropOldestSaved_16 fk_X7_11 rfl hK7 hb8 ?_
    refine e_iload_n dX7_dropOldestSaved_19 rfl ?_
    refine e_iconst dX7_dropOldestSaved_20 ?_
    refine e_isub dX7_dropOldestSaved_21 ?_
    refine e_aload_n dX7_dropOldestSaved_22 rfl trivial ?_
    refine e_getr1 dX7_dropOldestSaved_23 fk_X7_11 rfl hK7 hb8 ?_
    refine e_iload_n dX7_dropOldestSaved_26 rfl ?_
    obtain ⟨hK9, h⟩ := h
    obtain ⟨⟨h0, h1⟩, b10, hb10, h⟩ := h
    refine e_aald1 dX7_dropOldestSaved_27 hK9 (by decide) h0 h1 hb10 ?_
    obtain ⟨⟨h0, h1⟩, h⟩ := h
    obtain ⟨hK11, h⟩ := h
    refine e_aast dX7_dropOldestSaved_28 hK9 (Or.inr (Or.inr ⟨rfl, hK11⟩)) h0 h1 ?_
    replace h := h _ rfl
    generalize am_p2 P b8 (Int.toNat (am_wr (l2 - 1))) (some b10) = P12 at h ⊢
    refine e_iinc dX7_dropOldestSaved_29 rfl ?_
    refine e_goto (tgt := 9) dX7_dropOldestSaved_32 (by decide) ?_
    exact e_forget (am_sub_k (am_sub_k (am_sub_k am_sub_nil))) h
set_option maxRecDepth 100000 in
set_option maxHeartbeats 4000000 in
theorem wf_X7_hasEntered {d : Nat} {s : Nat} {a1 : Int} {K N : Nat → Nat} {I : Nat → Nat → Int} {P : Nat → Nat → Option Nat} {z : Nat} {Q : am_V → am_T} (h :
  ((a1 < 0 →
    Q (am_i 0) K N I P z) ∧
    (¬ (a1 < 0) →
    K s = 7 ∧ ∃ b2, P s 0 = some b2 ∧ K b2 = 6 ∧ ((I b2 7 ≤ a1 →
      Q (am_i 0) K N I P z) ∧
      (¬ (I b2 7 ≤ a1) →
      Q (am_i 1) K N I P z))))) :
  am_C d m_X7_hasEntered [am_r s, am_i a1] K N I P z Q am_nx := by
  refine am_C_of ok_X7_hasEntered (fun v hv => am_v1all _ rfl v hv) (Nat.le_of_ble_eq_true rfl) ?_
  show am_E d m_X7_hasEntered 0 0 0 [some (am_r s), some (am_i a1)] [] K N I P z Q am_nx
  refine e_iload_n dX7_hasEntered_0 rfl ?_
  refine e_if_lt (tgt := 19) dX7_hasEntered_1 (by decide) (fun hc => ?_) (fun hc => ?_)
  · replace h := h.1 hc
    refine e_iconst dX7_hasEntered_19 ?_
    exact e_ret_z dX7_hasEntered_20 rfl (by decide) (Nat.le_of_ble_eq_true rfl) (Nat.le_of_ble_eq_true rfl) h
  · replace h := h.2 hc
    refine e_iload_n dX7_hasEntered_4 rfl ?_
    refine e_aload_n dX7_hasEntered_5 rfl trivial ?_
    obtain ⟨hK1, h⟩ := h
    obtain ⟨b2, hb2, h⟩ := h
    refine e_getr1 dX7_hasEntered_6 fk_X7_43 rfl hK1 hb2 ?_
    obtain ⟨hK3, h⟩ := h
    refine e_geti dX7_hasEntered_9 fk_X7_148 rfl hK3 ?_
    refine e_icmp_ge (tgt := 19) dX7_hasEntered_12 (by decide) (fun hc => ?_) (fun hc => ?_)
    · replace h := h.1 hc
      refine e_iconst dX7_hasEntered_19 ?_
      exact e_ret_z dX7_hasEntered_20 rfl (by decide) (Nat.le_of_ble_eq_true rfl) (Nat.le_of_ble_eq_true rfl) h
    · replace h := h.2 hc
      refine e_iconst dX7_hasEntered_15 ?_
      refine e_goto (tgt := 20) dX7_hasEntered_16 (by decide) ?_
      exact e_ret_z dX7_hasEntered_20 rfl (by decide) (Nat.le_of_ble_eq_true rfl) (Nat.le_of_ble_eq_true rfl) h
def L_X7_keepDeparted_8 (d : Nat) (l0 : Nat) (l1 : Int) (l2 : Int) (K N : Nat → Nat) (I : Nat → Nat → Int) (P : Nat → Nat → Option Nat) (z : Nat) (Q : am_V → am_T) : Prop := am_E d m_X7_keepDeparted 8 0 0 [some (am_r l0), some (am_i l1), some (am_i l2)] [] K N I P z Q am_nx
set_option maxRecDepth 100000 in
set_option maxHeartbeats 4000000 in
theorem wf_X7_keepDeparted {d : Nat} {s : Nat} {a1 : Int} {K N : Nat → Nat} {I : Nat → Nat → Int} {P : Nat → Nat → Option Nat} {z : Nat} {Q : am_V → am_T} (h :
  K s = 7 ∧ ∃ b2, P s 0 = some b2 ∧ K b2 = 6 ∧ L_X7_keepDeparted_8 d s a1 (I b2 6) K N I P z Q) :
  am_C d m_X7_keepDeparted [am_r s, am_i a1] K N I P z Q am_nx := by
  refine am_C_of ok_X7_keepDeparted (fun v hv => am_v1all _ rfl v hv) (Nat.le_of_ble_eq_true rfl) ?_
  show am_E d m_X7_keepDeparted 0 0 0 [some (am_r s), some (am_i a1), none] [] K N I P z Q am_nx
  refine e_aload_n dX7_keepDeparted_0 rfl trivial ?_
  obtain ⟨hK1, h⟩ := h
  obtain ⟨b2, hb2, h⟩ := h
  refine e_getr1 dX7_keepDeparted_1 fk_X7_43 rfl hK1 hb2 ?_
  obtain ⟨hK3, h⟩ := h
  refine e_geti dX7_keepDeparted_4 fk_X7_69 rfl hK3 ?_
  refine e_istore_n dX7_keepDeparted_7 ?_
  exact e_forget (am_sub_k (am_sub_k (am_sub_k am_sub_nil))) h
set_option maxRecDepth 100000 in
set_option maxHeartbeats 4000000 in
theorem wf_X7_keepDeparted_8 {d : Nat} (hd : 1 ≤ d) {l0 : Nat} {l1 : Int} {l2 : Int} {K N : Nat → Nat} {I : Nat → Nat → Int} {P : Nat → Nat → Option Nat} {z : Nat} {Q : am_V → am_T} (h :
  ((l1 ≤ l2 →
    Q am_nl K N I P z) ∧
    (¬ (l1 ≤ l2) →
    ((20 ≤ l2 →
      Q am_nl K N I P z) ∧
      (¬ (20 ≤ l2) →
      K l0 = 7 ∧ ∃ b2, P l0 4 = some b2 ∧ ∃ b3, P l0 0 = some b3 ∧ K b3 = 6 ∧ ∃ b5, P b3 5 = some b5 ∧ K b5 = 12 ∧ (0 ≤ l2 ∧ l2 < N b5) ∧ ∃ b7, P b5 (Int.toNat l2) = some b7 ∧ K b2 = 1 ∧ am_C (d - 1) m_X1_keep [am_r b2, am_r b7] K N I P z (fun _ K8 N9 I10 P11 z12 =>
        L_X7_keepDeparted_8 d l0 l1 (am_wr (l2 + 1)) K8 N9 I10 P11 z12 Q) am_nx))))) :
  L_X7_keepDeparted_8 d l0 l1 l2 K N I P z Q := by
  unfold L_X7_keepDeparted_8
  refine e_iload_n dX7_keepDeparted_8 rfl ?_
  refine e_iload_n dX7_keepDeparted_9 rfl ?_
  refine e_icmp_ge (tgt := 41) dX7_keepDeparted_10 (by decide) (fun hc => ?_) (fun hc => ?_)
  · replace h := h.1 hc
    exact e_ret_v dX7_keepDeparted_41 rfl (Nat.le_of_ble_eq_true rfl) (Nat.le_of_ble_eq_true rfl) h
  · replace h := h.2 hc
    refine e_iload_n dX7_keepDeparted_13 rfl ?_
    refine e_bipush dX7_keepDeparted_14 ?_
    refine e_icmp_ge (tgt := 41) dX7_keepDeparted_16 (by decide) (fun hc => ?_) (fun hc => ?_)
    · replace h := h.1 hc
      exact e_ret_v dX7_keepDeparted_41 rfl (Nat.le_of_ble_eq_true rfl) (Nat.le_of_ble_eq_true rfl) h
    · replace h := h.2 hc
      refine e_aload_n dX7_keepDeparted_19 rfl trivial ?_
      obtain ⟨hK1, h⟩ := h
      obtain ⟨b2, hb2, h⟩ := h
      refine e_getr1 dX7_keepDeparted_20 fk_X7_18 rfl hK1 hb2 ?_
      refine e_aload_n dX7_keepDeparted_23 rfl trivial ?_
      obtain ⟨b3, hb3, h⟩ := h
      refine e_getr1 dX7_keepDeparted_24 fk_X7_43 rfl hK1 hb3 ?_
      obtain ⟨hK4, h⟩ := h
      obtain ⟨b5, hb5, h⟩ := h
      refine e_getr1 dX7_keepDeparted_27 fk_X7_198 rfl hK4 hb5 ?_
      refine e_iload_n dX7_keepDeparted_30 rfl ?_
      obtain ⟨hK6, h⟩ := h
      obtain ⟨⟨h0, h1⟩, b7, hb7, h⟩ := h
      refine e_aald1 dX7_keepDeparted_31 hK6 (by decide) h0 h1 hb7 ?_
      obtain ⟨hK13, h⟩ := h
      refine e_callV (Mc := m_X1_keep) (vs := [am_r b7]) (st := []) dX7_keepDeparted_32 ok_X1_keep rfl ⟨by decide, rfl⟩ mk_X7_287 im_X1_keep sl_X1_keep rfl rfl hK13 (by omega) (Nat.le_of_ble_eq_true rfl) (Nat.le_of_ble_eq_true rfl) (Nat.le_of_ble_eq_true rfl) am_xh_nx (am_C_mono h (fun v K8 N9 I10 P11 z12 h => ?_) (fun _ _ _ _ _ _ h => h))
      show am_E d m_X7_keepDeparted 35 _ _ _ [] K8 N9 I10 P11 z12 Q am_nx
      refine e_iinc dX7_keepDeparted_35 rfl ?_
      refine e_goto (tgt := 8) dX7_keepDeparted_38 (by decide) ?_
      exact e_forget (am_sub_k (am_sub_k (am_sub_k am_sub_nil))) h
set_option maxRecDepth 100000 in
set_option maxHeartbeats 4000000 in
theorem wf_X7_partProperty {d : Nat} (hd : 1 ≤ d) {s : Nat} {a1 : Int} {a2 : Int} {K N : Nat → Nat} {I : Nat → Nat → Int} {P : Nat → Nat → Option Nat} {z : Nat} {Q : am_V → am_T} (h :
  K s = 7 ∧ ∃ b2, P s 0 = some b2 ∧ K b2 = 6 ∧ am_C (d - 1) m_X6_placeOf [am_r b2, am_i a1] K N I P z (fun v K3 N4 I5 P6 z7 => am_iv v fun x9 =>
    ((¬ x9 = (-1) →
    ((¬ a2 = 8 →
      K3 s = 7 ∧ ∃ b11, P6 s 0 = some b11 ∧ K3 b11 = 6 ∧ ∃ b13, P6 b11 5 = some b13 ∧ K3 b13 = 12 ∧ (0 ≤ x9 ∧ x9 < N4 b13) ∧ ∃ b15, P6 b13 (Int.toNat x9) = some b15 ∧ K3 b15 = 2 ∧ am_C (d - 1) m_X2_property [am_r b15, am_i a2] K3 N4 I5 P6 z7 (fun v K16 N17 I18 P19 z20 => am_iv v fun x22 =>
        Q (am_i x22) K16 N17 I18 P19 z20) am_nx) ∧
      (a2 = 8 →
      K3 s = 7 ∧ ∃ b24, P6 s 0 = some b24 ∧ K3 b24 = 6 ∧ ∃ b26, P6 b24 5 = some b26 ∧ K3 b26 = 12 ∧ (0 ≤ x9 ∧ x9 < N4 b26) ∧ ∃ b28, P6 b26 (Int.toNat x9) = some b28 ∧ am_C (d - 1) m_X6_laneOf [am_r b24, am_r b28] K3 N4 I5 P6 z7 (fun v K29 N30 I31 P32 z33 => am_iv v fun x34 =>
        Q (am_i x34) K29 N30 I31 P32 z33) am_nx))) ∧
    (x9 = (-1) →
    K3 s = 7 ∧ ∃ b36, P6 s 4 = some b36 ∧ K3 b36 = 1 ∧ am_C (d - 1) m_X1_propertyOf [am_r b36, am_i a1, am_i a2] K3 N4 I5 P6 z7 (fun v K37 N38 I39 P40 z41 => am_iv v fun x43 =>
      Q (am_i x43) K37 N38 I39 P40 z41) am_nx))) am_nx) :
  am_C d m_X7_partProperty [am_r s, am_i a1, am_i a2] K N I P z Q am_nx := by
  refine am_C_of ok_X7_partProperty (fun v hv => am_v1all _ rfl v hv) (Nat.le_of_ble_eq_true rfl) ?_
  show am_E d m_X7_partProperty 0 0 0 [some (am_r s), some (am_i a1), some (am_i a2), none] [] K N I P z Q am_nx
  refine e_aload_n dX7_partProperty_0 rfl trivial ?_
  obtain ⟨hK1, h⟩ := h
  obtain ⟨b2, hb2, h⟩ := h
  refine e_getr1 dX7_partProperty_1 fk_X7_43 rfl hK1 hb2 ?_
  refine e_iload_n dX7_partProperty_4 rfl ?_
  obtain ⟨hK8, h⟩ := h
  refine e_callV (Mc := m_X6_placeOf) (vs := [am_i a1]) (st := []) dX7_partProperty_5 ok_X6_placeOf rfl ⟨by decide, rfl⟩ mk_X7_193 im_X6_placeOf sl_X6_placeOf rfl rfl hK8 (by omega) (Nat.le_of_ble_eq_true rfl) (Nat.le_of_ble_eq_true rfl) (Nat.le_of_ble_eq_true rfl) am_xh_nx (am_C_mono h (fun v K3 N4 I5 P6 z7 h => ?_) (fun _ _ _ _ _ _ h => h))
  replace h := am_iv_or h
  obtain ⟨x9, rfl, h⟩ := h
  show am_E d m_X7_partProperty 8 _ _ _ [am_i x9] K3 N4 I5 P6 z7 Q am_nx
  refine e_istore_n dX7_partProperty_8 ?_
  refine e_iload_n dX7_partProperty_9 rfl ?_
  refine e_iconst dX7_partProperty_10 ?_
  refine e_icmp_ne (tgt := 24) dX7_partProperty_11 (by decide) (fun hc => ?_) (fun hc => ?_)
  · replace h := h.1 hc
    refine e_iload_n dX7_partProperty_24 rfl ?_
    refine e_bipush dX7_partProperty_25 ?_
    refine e_icmp_ne (tgt := 49) dX7_partProperty_27 (by decide) (fun hc => ?_) (fun hc => ?_)
    · replace h := h.1 hc
      refine e_aload_n dX7_partProperty_49 rfl trivial ?_
      obtain ⟨hK10, h⟩ := h
      obtain ⟨b11, hb11, h⟩ := h
      refine e_getr1 dX7_partProperty_50 fk_X7_43 rfl hK10 hb11 ?_
      obtain ⟨hK12, h⟩ := h
      obtain ⟨b13, hb13, h⟩ := h
      refine e_getr1 dX7_partProperty_53 fk_X7_198 rfl hK12 hb13 ?_
      refine e_iload_n dX7_partProperty_56 rfl ?_
      obtain ⟨hK14, h⟩ := h
      obtain ⟨⟨h0, h1⟩, b15, hb15, h⟩ := h
      refine e_aald1 dX7_partProperty_57 hK14 (by decide) h0 h1 hb15 ?_
      refine e_iload_n dX7_partProperty_58 rfl ?_
      obtain ⟨hK21, h⟩ := h
      refine e_callV (Mc := m_X2_property) (vs := [am_i a2]) (st := []) dX7_partProperty_59 ok_X2_property rfl ⟨by decide, rfl⟩ mk_X7_297 im_X2_property sl_X2_property rfl rfl hK21 (by omega) (Nat.le_of_ble_eq_true rfl) (Nat.le_of_ble_eq_true rfl) (Nat.le_of_ble_eq_true rfl) am_xh_nx (am_C_mono h (fun v K16 N17 I18 P19 z20 h => ?_) (fun _ _ _ _ _ _ h => h))
      replace h := am_iv_or h
      obtain ⟨x22, rfl, h⟩ := h
      show am_E d m_X7_partProperty 62 _ _ _ [am_i x22] K16 N17 I18 P19 z20 Q am_nx
      exact e_ret_i dX7_partProperty_62 rfl (Nat.le_of_ble_eq_true rfl) (Nat.le_of_ble_eq_true rfl) h
    · replace h := h.2 hc
      refine e_aload_n dX7_partProperty_30 rfl trivial ?_
      obtain ⟨hK23, h⟩ := h
      obtain ⟨b24, hb24, h⟩ := h
      refine e_getr1 dX7_partProperty_31 fk_X7_43 rfl hK23 hb24 ?_
      refine e_aload_n dX7_partProperty_34 rfl trivial ?_
      refine e_getr1 dX7_partProperty_35 fk_X7_43 rfl hK23 hb24 ?_
      obtain ⟨hK25, h⟩ := h
      obtain ⟨b26, hb26, h⟩ := h
      refine e_getr1 dX7_partProperty_38 fk_X7_198 rfl hK25 hb26 ?_
      refine e_iload_n dX7_partProperty_41 rfl ?_
      obtain ⟨hK27, h⟩ := h
      obtain ⟨⟨h0, h1⟩, b28, hb28, h⟩ := h
      refine e_aald1 dX7_partProperty_42 hK27 (by decide) h0 h1 hb28 ?_
      refine e_callV (Mc := m_X6_laneOf) (vs := [am_r b28]) (st := []) dX7_partProperty_43 ok_X6_laneOf rfl ⟨by decide, rfl⟩ mk_X7_294 im_X6_laneOf sl_X6_laneOf rfl rfl hK25 (by omega) (Nat.le_of_ble_eq_true rfl) (Nat.le_of_ble_eq_true rfl) (Nat.le_of_ble_eq_true rfl) am_xh_nx (am_C_mono h (fun v K29 N30 I31 P32 z33 h => ?_) (fun _ _ _ _ _ _ h => h))
      replace h := am_iv_or h
      obtain ⟨x34, rfl, h⟩ := h
      show am_E d m_X7_partProperty 46 _ _ _ [am_i x34] K29 N30 I31 P32 z33 Q am_nx
      refine e_goto (tgt := 62) dX7_partProperty_46 (by decide) ?_
      exact e_ret_i dX7_partProperty_62 rfl (Nat.le_of_ble_eq_true rfl) (Nat.le_of_ble_eq_true rfl) h
  · replace h := h.2 hc
    refine e_aload_n dX7_partProperty_14 rfl trivial ?_
    obtain ⟨hK35, h⟩ := h
    obtain ⟨b36, hb36, h⟩ := h
    refine e_getr1 dX7_partProperty_15 fk_X7_18 rfl hK35 hb36 ?_
    refine e_iload_n dX7_partProperty_18 rfl ?_
    refine e_iload_n dX7_partProperty_19 rfl ?_
    obtain ⟨hK42, h⟩ := h
    refine e_callV (Mc := m_X1_propertyOf) (vs := [am_i a1, am_i a2]) (st := []) dX7_partProperty_20 ok_X1_propertyOf rfl ⟨by decide, rfl⟩ mk_X7_291 im_X1_propertyOf sl_X1_propertyOf rfl rfl hK42 (by omega) (Nat.le_of_ble_eq_true rfl) (Nat.le_of_ble_eq_true rfl) (Nat.le_of_ble_eq_true rfl) am_xh_nx (am_C_mono h (fun v K37 N38 I39 P40 z41 h => ?_) (fun _ _ _ _ _ _ h => h))
    replace h := am_iv_or h
    obtain ⟨x43, rfl, h⟩ := h
    show am_E d m_X7_partProperty 23 _ _ _ [am_i x43] K37 N38 I39 P40 z41 Q am_nx
    exact e_ret_i dX7_partProperty_23 rfl (Nat.le_of_ble_eq_true rfl) (Nat.le_of_ble_eq_true rfl) h
def L_X7_sumOverParts_4 (d : Nat) (l0 : Nat) (l1 : Int) (l2 : Int) (l3 : Int) (K N : Nat → Nat) (I : Nat → Nat → Int) (P : Nat → Nat → Option Nat) (z : Nat) (Q : am_V → am_T) : Prop := am_E d m_X7_sumOverParts 4 0 0 [some (am_r l0), some (am_i l1), some (am_i l2), some (am_i l3)] [] K N I P z Q am_nx
set_option maxRecDepth 100000 in
set_option maxHeartbeats 4000000 in
theorem wf_X7_sumOverParts {d : Nat} {s : Nat} {a1 : Int} {K N : Nat → Nat} {I : Nat → Nat → Int} {P : Nat → Nat → Option Nat} {z : Nat} {Q : am_V → am_T} (h :
  L_X7_sumOverParts_4 d s a1 0 0 K N I P z Q) :
  am_C d m_X7_sumOverParts [am_r s, am_i a1] K N I P z Q am_nx := by
  refine am_C_of ok_X7_sumOverParts (fun v hv => am_v1all _ rfl v hv) (Nat.le_of_ble_eq_true rfl) ?_
  show am_E d m_X7_sumOverParts 0 0 0 [some (am_r s), some (am_i a1), none, none] [] K N I P z Q am_nx
  refine e_iconst dX7_sumOverParts_0 ?_
  refine e_istore_n dX7_sumOverParts_1 ?_
  refine e_iconst dX7_sumOverParts_2 ?_
  refine e_istore_n dX7_sumOverParts_3 ?_
  exact e_forget (am_sub_k (am_sub_k (am_sub_k (am_sub_k am_sub_nil)))) h
set_option maxRecDepth 100000 in
set_option maxHeartbeats 4000000 in
theorem wf_X7_sumOverParts_4 {d : Nat} (hd : 1 ≤ d) {l0 : Nat} {l1 : Int} {l2 : Int} {l3 : Int} {K N : Nat → Nat} {I : Nat → Nat → Int} {P : Nat → Nat → Option Nat} {z : Nat} {Q : am_V → am_T} (h :
  K l0 = 7 ∧ ∃ b2, P l0 0 = some b2 ∧ K b2 = 6 ∧ ((I b2 7 ≤ l3 →
    Q (am_i l2) K N I P z) ∧
    (¬ (I b2 7 ≤ l3) →
    am_C (d - 1) m_X7_partProperty [am_r l0, am_i l3, am_i l1] K N I P z (fun v K4 N5 I6 P7 z8 => am_iv v fun x9 =>
      L_X7_sumOverParts_4 d l0 l1 (am_wr (l2 + x9)) (am_wr (l3 + 1)) K4 N5 I6 P7 z8 Q) am_nx))) :
  L_X7_sumOverParts_4 d l0 l1 l2 l3 K N I P z Q := by
  unfold L_X7_sumOverParts_4
  refine e_iload_n dX7_sumOverParts_4 rfl ?_
  refine e_aload_n dX7_sumOverParts_5 rfl trivial ?_
  obtain ⟨hK1, h⟩ := h
  obtain ⟨b2, hb2, h⟩ := h
  refine e_getr1 dX7_sumOverParts_6 fk_X7_43 rfl hK1 hb2 ?_
  obtain ⟨hK3, h⟩ := h
  refine e_geti dX7_sumOverParts_9 fk_X7_148 rfl hK3 ?_
  refine e_icmp_ge (tgt := 30) dX7_sumOverParts_12 (by decide) (fun hc => ?_) (fun hc => ?_)
  · replace h := h.1 hc
    refine e_iload_n dX7_sumOverParts_30 rfl ?_
    exact e_ret_i dX7_sumOverParts_31 rfl (Nat.le_of_ble_eq_true rfl) (Nat.le_of_ble_eq_true rfl) h
  · replace h := h.2 hc
    refine e_iload_n dX7_sumOverParts_15 rfl ?_
    refine e_aload_n dX7_sumOverParts_16 rfl trivial ?_
    refine e_iload_n dX7_sumOverParts_17 rfl ?_
    refine e_iload_n dX7_sumOverParts_18 rfl ?_
    refine e_callV (Mc := m_X7_partProperty) (vs := [am_i l3, am_i l1]) (st := [am_i l2]) dX7_sumOverParts_19 ok_X7_partProperty rfl ⟨by decide, rfl⟩ mk_X7_219 im_X7_partProperty sl_X7_partProperty rfl rfl hK1 (by omega) (Nat.le_of_ble_eq_true rfl) (Nat.le_of_ble_eq_true rfl) (Nat.le_of_ble_eq_true rfl) am_xh_nx (am_C_mono h (fun v K4 N5 I6 P7 z8 h => ?_) (fun _ _ _ _ _ _ h => h))
    replace h := am_iv_or h
    obtain ⟨x9, rfl, h⟩ := h
    show am_E d m_X7_sumOverParts 22 _ _ _ [am_i x9, am_i l2] K4 N5 I6 P7 z8 Q am_nx
    refine e_iadd dX7_sumOverParts_22 ?_
    refine e_istore_n dX7_sumOverParts_23 ?_
    refine e_iinc dX7_sumOverParts_24 rfl ?_
    refine e_goto (tgt := 4) dX7_sumOverParts_27 (by decide) ?_
    exact e_forget (am_sub_k (am_sub_k (am_sub_k (am_sub_k am_sub_nil)))) h
def L_X7_countFates_5 (d : Nat) (l0 : Nat) (l1 : Int) (l2 : Int) (l3 : Int) (l4 : Int) (K N : Nat → Nat) (I : Nat → Nat → Int) (P : Nat → Nat → Option Nat) (z : Nat) (Q : am_V → am_T) : Prop := am_E d m_X7_countFates 5 0 0 [some (am_r l0), some (am_i l1), some (am_i l2), some (am_i l3), some (am_i l4), none] [] K N I P z Q am_nx
set_option maxRecDepth 100000 in
set_option maxHeartbeats 4000000 in
theorem wf_X7_countFates {d : Nat} {s : Nat} {a1 : Int} {a2 : Int} {K N : Nat → Nat} {I : Nat → Nat → Int} {P : Nat → Nat → Option Nat} {z : Nat} {Q : am_V → am_T} (h :
  L_X7_countFates_5 d s a1 a2 0 0 K N I P z Q) :
  am_C d m_X7_countFates [am_r s, am_i a1, am_i a2] K N I P z Q am_nx := by
  refine am_C_of ok_X7_countFates (fun v hv => am_v1all _ rfl v hv) (Nat.le_of_ble_eq_true rfl) ?_
  show am_E d m_X7_countFates 0 0 0 [some (am_r s), some (am_i a1), some (am_i a2), none, none, none] [] K N I P z Q am_nx
  refine e_iconst dX7_countFates_0 ?_
  refine e_istore_n dX7_countFates_1 ?_
  refine e_iconst dX7_countFates_2 ?_
  refine e_istore dX7_countFates_3 ?_
  exact e_forget (am_sub_k (am_sub_k (am_sub_k (am_sub_k (am_sub_k (am_sub_d am_sub_nil)))))) h
set_option maxRecDepth 100000 in
set_option maxHeartbeats 4000000 in
theorem wf_X7_countFates_5 {d : Nat} (hd : 1 ≤ d) {l0 : Nat} {l1 : Int} {l2 : Int} {l3 : Int} {l4 : Int} {K N : Nat → Nat} {I : Nat → Nat → Int} {P : Nat → Nat → Option Nat} {z : Nat} {Q : am_V → am_T} (h :
  K l0 = 7 ∧ ∃ b2, P l0 0 = some b2 ∧ K b2 = 6 ∧ ((I b2 7 ≤ l4 →
    Q (am_i l3) K N I P z) ∧
    (¬ (I b2 7 ≤ l4) →
    am_C (d - 1) m_X7_partProperty [am_r l0, am_i l4, am_i 1] K N I P z (fun v K4 N5 I6 P7 z8 => am_iv v fun x9 =>
      ((x9 < l1 →
      L_X7_countFates_5 d l0 l1 l2 l3 (am_wr (l4 + 1)) K4 N5 I6 P7 z8 Q) ∧
      (¬ (x9 < l1) →
      ((l2 < x9 →
        L_X7_countFates_5 d l0 l1 l2 l3 (am_wr (l4 + 1)) K4 N5 I6 P7 z8 Q) ∧
        (¬ (l2 < x9) →
        L_X7_countFates_5 d l0 l1 l2 (am_wr (l3 + 1)) (am_wr (l4 + 1)) K4 N5 I6 P7 z8 Q))))) am_nx))) :
  L_X7_countFates_5 d l0 l1 l2 l3 l4 K N I P z Q := by
  unfold L_X7_countFates_5
  refine e_iload dX7_countFates_5 rfl ?_
  refine e_aload_n dX7_countFates_7 rfl trivial ?_
  obtain ⟨hK1, h⟩ := h
  obtain ⟨b2, hb2, h⟩ := h
  refine e_getr1 dX7_countFates_8 fk_X7_43 rfl hK1 hb2 ?_
  obtain ⟨hK3, h⟩ := h
  refine e_geti dX7_countFates_11 fk_X7_148 rfl hK3 ?_
  refine e_icmp_ge (tgt := 47) dX7_countFates_14 (by decide) (fun hc => ?_) (fun hc => ?_)
  · replace h := h.1 hc
    refine e_iload_n dX7_countFates_47 rfl ?_
    exact e_ret_i dX7_countFates_48 rfl (Nat.le_of_ble_eq_true rfl) (Nat.le_of_ble_eq_true rfl) h
  · replace h := h.2 hc
    refine e_aload_n dX7_countFates_17 rfl trivial ?_
    refine e_iload dX7_countFates_18 rfl ?_
    refine e_iconst dX7_countFates_20 ?_
    refine e_callV (Mc := m_X7_partProperty) (vs := [am_i l4, am_i 1]) (st := []) dX7_countFates_21 ok_X7_partProperty rfl ⟨by decide, rfl⟩ mk_X7_219 im_X7_partProperty sl_X7_partProperty rfl rfl hK1 (by omega) (Nat.le_of_ble_eq_true rfl) (Nat.le_of_ble_eq_true rfl) (Nat.le_of_ble_eq_true rfl) am_xh_nx (am_C_mono h (fun v K4 N5 I6 P7 z8 h => ?_) (fun _ _ _ _ _ _ h => h))
    replace h := am_iv_or h
    obtain ⟨x9, rfl, h⟩ := h
    show am_E d m_X7_countFates 24 _ _ _ [am_i x9] K4 N5 I6 P7 z8 Q am_nx
    refine e_istore dX7_countFates_24 ?_
    refine e_iload dX7_countFates_26 rfl ?_
    refine e_iload_n dX7_countFates_28 rfl ?_
    refine e_icmp_lt (tgt := 41) dX7_countFates_29 (by decide) (fun hc => ?_) (fun hc => ?_)
    · replace h := h.1 hc
      refine e_iinc dX7_countFates_41 rfl ?_
      refine e_goto (tgt := 5) dX7_countFates_44 (by decide) ?_
      exact e_forget (am_sub_k (am_sub_k (am_sub_k (am_sub_k (am_sub_k (am_sub_d am_sub_nil)))))) h
    · replace h := h.2 hc
      refine e_iload dX7_countFates_32 rfl ?_
      refine e_iload_n dX7_countFates_34 rfl ?_
      refine e_icmp_gt (tgt := 41) dX7_countFates_35 (by decide) (fun hc => ?_) (fun hc => ?_)
      · replace h := h.1 hc
        refine e_iinc dX7_countFates_41 rfl ?_
        refine e_goto (tgt := 5) dX7_countFates_44 (by decide) ?_
        exact e_forget (am_sub_k (am_sub_k (am_sub_k (am_sub_k (am_sub_k (am_sub_d am_sub_nil)))))) h
      · replace h := h.2 hc
        refine e_iinc dX7_countFates_38 rfl ?_
        refine e_iinc dX7_countFates_41 rfl ?_
        refine e_goto (tgt := 5) dX7_countFates_44 (by decide) ?_
        exact e_forget (am_sub_k (am_sub_k (am_sub_k (am_sub_k (am_sub_k (am_sub_d am_sub_nil)))))) h
set_option maxRecDepth 100000 in
set_option maxHeartbeats 4000000 in
theorem wf_X7_startTrial {d : Nat} (hd : 1 ≤ d) {s : Nat} {K N : Nat → Nat} {I : Nat → Nat → Int} {P : Nat → Nat → Option Nat} {z : Nat} {Q : am_V → am_T} (h :
  K s = 7 ∧ ∃ b2, P s 1 = some b2 ∧ ∃ b3, P s 0 = some b3 ∧ K b2 = 6 ∧ am_C (d - 1) m_X6_copyFrom [am_r b2, am_r b3] K N I P z (fun _ K4 N5 I6 P7 z8 =>
    K4 s = 7 ∧ ∃ b11, P7 s 1 = some b11 ∧ K4 b11 = 6 ∧ am_C (d - 1) m_X6_aimParts [am_r b11] K4 N5 I6 P7 z8 (fun _ K12 N13 I14 P15 z16 =>
    Q am_nl K12 N13 I14 P15 z16) am_nx) am_nx) :
  am_C d m_X7_startTrial [am_r s] K N I P z Q am_nx := by
  refine am_C_of ok_X7_startTrial (fun v hv => am_v1all _ rfl v hv) (Nat.le_of_ble_eq_true rfl) ?_
  show am_E d m_X7_startTrial 0 0 0 [some (am_r s)] [] K N I P z Q am_nx
  refine e_aload_n dX7_startTrial_0 rfl trivial ?_
  obtain ⟨hK1, h⟩ := h
  obtain ⟨b2, hb2, h⟩ := h
  refine e_getr1 dX7_startTrial_1 fk_X7_47 rfl hK1 hb2 ?_
  refine e_aload_n dX7_startTrial_4 rfl trivial ?_
  obtain ⟨b3, hb3, h⟩ := h
  refine e_getr1 dX7_startTrial_5 fk_X7_43 rfl hK1 hb3 ?_
  obtain ⟨hK9, h⟩ := h
  refine e_callV (Mc := m_X6_copyFrom) (vs := [am_r b3]) (st := []) dX7_startTrial_8 ok_X6_copyFrom rfl ⟨by decide, rfl⟩ mk_X7_213 im_X6_copyFrom sl_X6_copyFrom rfl rfl hK9 (by omega) (Nat.le_of_ble_eq_true rfl) (Nat.le_of_ble_eq_true rfl) (Nat.le_of_ble_eq_true rfl) am_xh_nx (am_C_mono h (fun v K4 N5 I6 P7 z8 h => ?_) (fun _ _ _ _ _ _ h => h))
  show am_E d m_X7_startTrial 11 _ _ _ [] K4 N5 I6 P7 z8 Q am_nx
  refine e_aload_n dX7_startTrial_11 rfl trivial ?_
  obtain ⟨hK10, h⟩ := h
  obtain ⟨b11, hb11, h⟩ := h
  refine e_getr1 dX7_startTrial_12 fk_X7_47 rfl hK10 hb11 ?_
  obtain ⟨hK17, h⟩ := h
  refine e_callV (Mc := m_X6_aimParts) (vs := []) (st := []) dX7_startTrial_15 ok_X6_aimParts rfl ⟨by decide, rfl⟩ mk_X7_179 im_X6_aimParts sl_X6_aimParts rfl rfl hK17 (by omega) (Nat.le_of_ble_eq_true rfl) (Nat.le_of_ble_eq_true rfl) (Nat.le_of_ble_eq_true rfl) am_xh_nx (am_C_mono h (fun v K12 N13 I14 P15 z16 h => ?_) (fun _ _ _ _ _ _ h => h))
  show am_E d m_X7_startTrial 18 _ _ _ [] K12 N13 I14 P15 z16 Q am_nx
  exact e_ret_v dX7_startTrial_18 rfl (Nat.le_of_ble_eq_true rfl) (Nat.le_of_ble_eq_true rfl) h
