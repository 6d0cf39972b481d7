/-! the law, its row read as the row that is only read (written by wip/whole/gen_code.py; the law of part 15 asks too much) -/
def L_N_law_23 (d : Nat) (k n : Nat) (l0 : Nat) (l1 : Nat) (l2 : Nat) (l3 : Nat) (l4 : Int) (K N : Nat → Nat) (I : Nat → Nat → Int) (P : Nat → Nat → Option Nat) (z : Nat) (Q : am_V → am_T) : Prop := am_E d m_L_law 23 k n [some (am_r l0), some (am_r l1), some (am_r l2), some (am_r l3), some (am_i l4), none, none, none, none] [] K N I P z Q am_nx
set_option maxRecDepth 100000 in
set_option maxHeartbeats 4000000 in
theorem wf_N_law {d : Nat} (hd : 1 ≤ d) {a1 : Nat} {K N : Nat → Nat} {I : Nat → Nat → Int} {P : Nat → Nat → Option Nat} {z : Nat} {Q : am_V → am_T} (h :
  (0 + 1 ≤ 601024 ∧ 0 + 7 ≤ 7293033) ∧ ∀ K1 N2 b3 z4, K1 = am_u1 K (z + 4) 7 → N2 = am_u1 N (z + 4) 0 → b3 = z + 4 → z4 = z + 1 → (0 + 1 + 279 ≤ 601024 ∧ 0 + 7 + 6750 ≤ 7293033) ∧ am_C (d - 1) m_X7_init [am_r b3] K1 N2 I P z4 (fun _ K6 N7 I8 P9 z10 =>
    (0 + 1 + 279 + 1 ≤ 601024 ∧ 0 + 7 + 6750 + 14 ≤ 7293033) ∧ ∀ K11 N12 b13 z14, K11 = am_u1 K6 (z10 + 4) 8 → N12 = am_u1 N7 (z10 + 4) 0 → b13 = z10 + 4 → z14 = z10 + 1 → (0 + 1 + 279 + 1 + 5 ≤ 601024 ∧ 0 + 7 + 6750 + 14 + 25688 ≤ 7293033) ∧ am_C (d - 1) m_X8_init [am_r b13] K11 N12 I8 P9 z14 (fun _ K16 N17 I18 P19 z20 =>
    (0 + 1 + 279 + 1 + 5 + 1 ≤ 601024 ∧ 0 + 7 + 6750 + 14 + 25688 + 1 ≤ 7293033) ∧ ∀ K21 N22 b23 z24, K21 = am_u1 K16 (z20 + 4) 14 → N22 = am_u1 N17 (z20 + 4) (Int.toNat 1) → b23 = z20 + 4 → z24 = z20 + 1 → L_N_law_23 d (0 + 1 + 279 + 1 + 5 + 1) (0 + 7 + 6750 + 14 + 25688 + 1) a1 b3 b13 b23 0 K21 N22 I18 P19 z24 Q) am_nx) am_nx) :
  am_E d m_L_law 0 0 0 [some (am_r a1), none, none, none, none, none, none, none, none] [] K N I P z Q am_nx := by
  obtain ⟨⟨hk9, hn9⟩, h⟩ := h
  refine e_new (cc := 7) dL_law_0 (by decide) ck_L_8 in_7 ii_7 hk9 hn9 ?_
  replace h := h _ _ _ _ rfl rfl rfl rfl
  have hK5 : (am_u1 K (z + 4) 7) (z + 4) = 7 := by simp [am_u1]
  generalize eK1 : am_u1 K (z + 4) 7 = K1 at h hK5 ⊢
  generalize eN2 : am_u1 N (z + 4) 0 = N2 at h ⊢
  generalize eb3 : z + 4 = b3 at h hK5 ⊢
  generalize ez4 : z + 1 = z4 at h ⊢
  refine e_dup dL_law_3 rfl ?_
  obtain ⟨⟨hk9, hn9⟩, h⟩ := h
  refine e_callI (Mc := m_X7_init) (vs := []) (st := [am_r b3]) dL_law_4 ok_X7_init rfl rfl mk_L_85 im_X7_init rfl rfl rfl (by omega) (Nat.le_of_ble_eq_true rfl) hk9 hn9 am_xh_nx (am_C_mono h (fun v K6 N7 I8 P9 z10 h => ?_) (fun _ _ _ _ _ _ h => h))
  show am_E d m_L_law 7 (0 + 1 + 279) (0 + 7 + 6750) _ [am_r b3] K6 N7 I8 P9 z10 Q am_nx
  refine e_astore_n dL_law_7 trivial ?_
  obtain ⟨⟨hk9, hn9⟩, h⟩ := h
  refine e_new (cc := 8) dL_law_8 (by decide) ck_L_86 in_8 ii_8 hk9 hn9 ?_
  replace h := h _ _ _ _ rfl rfl rfl rfl
  have hK15 : (am_u1 K6 (z10 + 4) 8) (z10 + 4) = 8 := by simp [am_u1]
  generalize eK11 : am_u1 K6 (z10 + 4) 8 = K11 at h hK15 ⊢
  generalize eN12 : am_u1 N7 (z10 + 4) 0 = N12 at h ⊢
  generalize eb13 : z10 + 4 = b13 at h hK15 ⊢
  generalize ez14 : z10 + 1 = z14 at h ⊢
  refine e_dup dL_law_11 rfl ?_
  obtain ⟨⟨hk9, hn9⟩, h⟩ := h
  refine e_callI (Mc := m_X8_init) (vs := []) (st := [am_r b13]) dL_law_12 ok_X8_init rfl rfl mk_L_88 im_X8_init rfl rfl rfl (by omega) (Nat.le_of_ble_eq_true rfl) hk9 hn9 am_xh_nx (am_C_mono h (fun v K16 N17 I18 P19 z20 h => ?_) (fun _ _ _ _ _ _ h => h))
  show am_E d m_L_law 15 (0 + 1 + 279 + 1 + 5) (0 + 7 + 6750 + 14 + 25688) _ [am_r b13] K16 N17 I18 P19 z20 Q am_nx
  refine e_astore_n dL_law_15 trivial ?_
  refine e_iconst dL_law_16 ?_
  obtain ⟨⟨hk9, hn9⟩, h⟩ := h
  refine e_newa_long dL_law_17 ac_long (by decide) (by decide) hk9 hn9 ?_
  replace h := h _ _ _ _ rfl rfl rfl rfl
  have hK25 : (am_u1 K16 (z20 + 4) 14) (z20 + 4) = 14 := by simp [am_u1]
  generalize eK21 : am_u1 K16 (z20 + 4) 14 = K21 at h hK25 ⊢
  generalize eN22 : am_u1 N17 (z20 + 4) (Int.toNat 1) = N22 at h ⊢
  generalize eb23 : z20 + 4 = b23 at h hK25 ⊢
  generalize ez24 : z20 + 1 = z24 at h ⊢
  refine e_astore_n dL_law_19 trivial ?_
  refine e_iconst dL_law_20 ?_
  refine e_istore dL_law_21 ?_
  exact e_forget (am_sub_k (am_sub_k (am_sub_k (am_sub_k (am_sub_k (am_sub_d (am_sub_d (am_sub_d (am_sub_d am_sub_nil))))))))) h
set_option maxRecDepth 100000 in
set_option maxHeartbeats 4000000 in
theorem wf_N_law_23 {d : Nat} (hd : 1 ≤ d) {k n : Nat} {l0 : Nat} {l1 : Nat} {l2 : Nat} {l3 : Nat} {l4 : Int} {K N : Nat → Nat} {I : Nat → Nat → Int} {P : Nat → Nat → Option Nat} {z : Nat} {Q : am_V → am_T} (h :
  l0 < 4 ∧ N l0 < 2147483648 ∧ ((am_wr ((N l0 : Int) - 4) < l4 →
    (k ≤ 601024 ∧ n ≤ 7293033) ∧ Q (am_i 1) K N I P z) ∧
    (¬ (am_wr ((N l0 : Int) - 4) < l4) →
    (0 ≤ l4 ∧ l4 < N l0) ∧ ((am_wr ((Int32.ofInt (I l0 (Int.toNat l4)) &&& Int32.ofInt 31).toInt) = 0 →
      (0 ≤ am_wr (l4 + 1) ∧ am_wr (l4 + 1) < N l0) ∧ (0 ≤ am_wr (l4 + 2) ∧ am_wr (l4 + 2) < N l0) ∧ (k + 1 ≤ 601024 ∧ n + 6 ≤ 7293033) ∧ am_C (d - 1) m_L_set [am_r l1, am_i (I l0 (Int.toNat (am_wr (l4 + 1)))), am_i (I l0 (Int.toNat (am_wr (l4 + 2)))), am_r l3] K N I P z (fun v K1 N2 I3 P4 z5 => am_iv v fun x6 =>
        (0 ≤ am_wr (l4 + 1) ∧ am_wr (l4 + 1) < N2 l0) ∧ (0 ≤ am_wr (l4 + 2) ∧ am_wr (l4 + 2) < N2 l0) ∧ (k + 1 + 0 ≤ 601024 ∧ n + 6 + 0 ≤ 7293033) ∧ K1 l2 = 8 ∧ am_C (d - 1) m_X8_set [am_r l2, am_i (I3 l0 (Int.toNat (am_wr (l4 + 1)))), am_i (I3 l0 (Int.toNat (am_wr (l4 + 2))))] K1 N2 I3 P4 z5 (fun v K7 N8 I9 P10 z11 => am_iv v fun x13 =>
        (k + 1 + 0 ≤ 601024 ∧ n + 6 + 0 ≤ 7293033) ∧ K7 l2 = 8 ∧ am_C (d - 1) m_X8_thrown [am_r l2] K7 N8 I9 P10 z11 (fun v K14 N15 I16 P17 z18 => am_iv v fun x20 =>
        ((x20 = x6 →
        ((¬ x6 = 0 →
          L_N_law_23 d (k + 1) (n + 6) l0 l1 l2 l3 (am_wr (l4 + 4)) K14 N15 I16 P17 z18 Q) ∧
          (x6 = 0 →
          K14 l3 = 14 ∧ (0 ≤ (0 : Int) ∧ (0 : Int) < N15 l3) ∧ ((I16 l3 0 = x13 →
            L_N_law_23 d (k + 1) (n + 6) l0 l1 l2 l3 (am_wr (l4 + 4)) K14 N15 I16 P17 z18 Q) ∧
            (¬ (I16 l3 0 = x13) →
            (k + 1 ≤ 601024 ∧ n + 6 ≤ 7293033) ∧ Q (am_i 0) K14 N15 I16 P17 z18))))) ∧
        (¬ (x20 = x6) →
        (k + 1 ≤ 601024 ∧ n + 6 ≤ 7293033) ∧ Q (am_i 0) K14 N15 I16 P17 z18))) am_nx) am_nx) am_nx) ∧
      (am_wr ((Int32.ofInt (I l0 (Int.toNat l4)) &&& Int32.ofInt 31).toInt) = 1 →
      (0 ≤ am_wr (l4 + 1) ∧ am_wr (l4 + 1) < N l0) ∧ (0 ≤ am_wr (l4 + 2) ∧ am_wr (l4 + 2) < N l0) ∧ (0 ≤ am_wr (l4 + 3) ∧ am_wr (l4 + 3) < N l0) ∧ (k + 1 ≤ 601024 ∧ n + 6 ≤ 7293033) ∧ am_C (d - 1) m_L_addLane [am_r l1, am_i (I l0 (Int.toNat (am_wr (l4 + 1)))), am_i (I l0 (Int.toNat (am_wr (l4 + 2)))), am_i (I l0 (Int.toNat (am_wr (l4 + 3)))), am_r l3] K N I P z (fun v K22 N23 I24 P25 z26 => am_iv v fun x27 =>
        (0 ≤ am_wr (l4 + 1) ∧ am_wr (l4 + 1) < N23 l0) ∧ (0 ≤ am_wr (l4 + 2) ∧ am_wr (l4 + 2) < N23 l0) ∧ (0 ≤ am_wr (l4 + 3) ∧ am_wr (l4 + 3) < N23 l0) ∧ (k + 1 + 0 ≤ 601024 ∧ n + 6 + 0 ≤ 7293033) ∧ K22 l2 = 8 ∧ am_C (d - 1) m_X8_addLane [am_r l2, am_i (I24 l0 (Int.toNat (am_wr (l4 + 1)))), am_i (I24 l0 (Int.toNat (am_wr (l4 + 2)))), am_i (I24 l0 (Int.toNat (am_wr (l4 + 3))))] K22 N23 I24 P25 z26 (fun v K28 N29 I30 P31 z32 => am_iv v fun x34 =>
        (k + 1 + 0 ≤ 601024 ∧ n + 6 + 0 ≤ 7293033) ∧ K28 l2 = 8 ∧ am_C (d - 1) m_X8_thrown [am_r l2] K28 N29 I30 P31 z32 (fun v K35 N36 I37 P38 z39 => am_iv v fun x41 =>
        ((x41 = x27 →
        ((¬ x27 = 0 →
          L_N_law_23 d (k + 1) (n + 6) l0 l1 l2 l3 (am_wr (l4 + 4)) K35 N36 I37 P38 z39 Q) ∧
          (x27 = 0 →
          K35 l3 = 14 ∧ (0 ≤ (0 : Int) ∧ (0 : Int) < N36 l3) ∧ ((I37 l3 0 = x34 →
            L_N_law_23 d (k + 1) (n + 6) l0 l1 l2 l3 (am_wr (l4 + 4)) K35 N36 I37 P38 z39 Q) ∧
            (¬ (I37 l3 0 = x34) →
            (k + 1 ≤ 601024 ∧ n + 6 ≤ 7293033) ∧ Q (am_i 0) K35 N36 I37 P38 z39))))) ∧
        (¬ (x41 = x27) →
        (k + 1 ≤ 601024 ∧ n + 6 ≤ 7293033) ∧ Q (am_i 0) K35 N36 I37 P38 z39))) am_nx) am_nx) am_nx) ∧
      (am_wr ((Int32.ofInt (I l0 (Int.toNat l4)) &&& Int32.ofInt 31).toInt) = 2 →
      (0 ≤ am_wr (l4 + 1) ∧ am_wr (l4 + 1) < N l0) ∧ (k + 1 ≤ 601024 ∧ n + 6 ≤ 7293033) ∧ am_C (d - 1) m_L_emptyLane [am_r l1, am_i (I l0 (Int.toNat (am_wr (l4 + 1)))), am_r l3] K N I P z (fun v K43 N44 I45 P46 z47 => am_iv v fun x48 =>
        (0 ≤ am_wr (l4 + 1) ∧ am_wr (l4 + 1) < N44 l0) ∧ (k + 1 + 0 ≤ 601024 ∧ n + 6 + 0 ≤ 7293033) ∧ K43 l2 = 8 ∧ am_C (d - 1) m_X8_emptyLane [am_r l2, am_i (I45 l0 (Int.toNat (am_wr (l4 + 1))))] K43 N44 I45 P46 z47 (fun v K49 N50 I51 P52 z53 => am_iv v fun x55 =>
        (k + 1 + 0 ≤ 601024 ∧ n + 6 + 0 ≤ 7293033) ∧ K49 l2 = 8 ∧ am_C (d - 1) m_X8_thrown [am_r l2] K49 N50 I51 P52 z53 (fun v K56 N57 I58 P59 z60 => am_iv v fun x62 =>
        ((x62 = x48 →
        ((¬ x48 = 0 →
          L_N_law_23 d (k + 1) (n + 6) l0 l1 l2 l3 (am_wr (l4 + 4)) K56 N57 I58 P59 z60 Q) ∧
          (x48 = 0 →
          K56 l3 = 14 ∧ (0 ≤ (0 : Int) ∧ (0 : Int) < N57 l3) ∧ ((I58 l3 0 = x55 →
            L_N_law_23 d (k + 1) (n + 6) l0 l1 l2 l3 (am_wr (l4 + 4)) K56 N57 I58 P59 z60 Q) ∧
            (¬ (I58 l3 0 = x55) →
            (k + 1 ≤ 601024 ∧ n + 6 ≤ 7293033) ∧ Q (am_i 0) K56 N57 I58 P59 z60))))) ∧
        (¬ (x62 = x48) →
        (k + 1 ≤ 601024 ∧ n + 6 ≤ 7293033) ∧ Q (am_i 0) K56 N57 I58 P59 z60))) am_nx) am_nx) am_nx) ∧
      (am_wr ((Int32.ofInt (I l0 (Int.toNat l4)) &&& Int32.ofInt 31).toInt) = 3 →
      (0 ≤ am_wr (l4 + 1) ∧ am_wr (l4 + 1) < N l0) ∧ (0 ≤ am_wr (l4 + 2) ∧ am_wr (l4 + 2) < N l0) ∧ (k + 1 ≤ 601024 ∧ n + 6 ≤ 7293033) ∧ am_C (d - 1) m_L_route [am_r l1, am_i (I l0 (Int.toNat (am_wr (l4 + 1)))), am_i (I l0 (Int.toNat (am_wr (l4 + 2)))), am_r l3] K N I P z (fun v K64 N65 I66 P67 z68 => am_iv v fun x69 =>
        (0 ≤ am_wr (l4 + 1) ∧ am_wr (l4 + 1) < N65 l0) ∧ (0 ≤ am_wr (l4 + 2) ∧ am_wr (l4 + 2) < N65 l0) ∧ (k + 1 + 0 ≤ 601024 ∧ n + 6 + 0 ≤ 7293033) ∧ K64 l2 = 8 ∧ am_C (d - 1) m_X8_route [am_r l2, am_i (I66 l0 (Int.toNat (am_wr (l4 + 1)))), am_i (I66 l0 (Int.toNat (am_wr (l4 + 2))))] K64 N65 I66 P67 z68 (fun v K70 N71 I72 P73 z74 => am_iv v fun x76 =>
        (k + 1 + 0 ≤ 601024 ∧ n + 6 + 0 ≤ 7293033) ∧ K70 l2 = 8 ∧ am_C (d - 1) m_X8_thrown [am_r l2] K70 N71 I72 P73 z74 (fun v K77 N78 I79 P80 z81 => am_iv v fun x83 =>
        ((x83 = x69 →
        ((¬ x69 = 0 →
          L_N_law_23 d (k + 1) (n + 6) l0 l1 l2 l3 (am_wr (l4 + 4)) K77 N78 I79 P80 z81 Q) ∧
          (x69 = 0 →
          K77 l3 = 14 ∧ (0 ≤ (0 : Int) ∧ (0 : Int) < N78 l3) ∧ ((I79 l3 0 = x76 →
            L_N_law_23 d (k + 1) (n + 6) l0 l1 l2 l3 (am_wr (l4 + 4)) K77 N78 I79 P80 z81 Q) ∧
            (¬ (I79 l3 0 = x76) →
            (k + 1 ≤ 601024 ∧ n + 6 ≤ 7293033) ∧ Q (am_i 0) K77 N78 I79 P80 z81))))) ∧
        (¬ (x83 = x69) →
        (k + 1 ≤ 601024 ∧ n + 6 ≤ 7293033) ∧ Q (am_i 0) K77 N78 I79 P80 z81))) am_nx) am_nx) am_nx) ∧
      (am_wr ((Int32.ofInt (I l0 (Int.toNat l4)) &&& Int32.ofInt 31).toInt) = 4 →
      (0 ≤ am_wr (l4 + 1) ∧ am_wr (l4 + 1) < N l0) ∧ (k + 1 ≤ 601024 ∧ n + 6 ≤ 7293033) ∧ am_C (d - 1) m_L_removeRoute [am_r l1, am_i (I l0 (Int.toNat (am_wr (l4 + 1)))), am_r l3] K N I P z (fun v K85 N86 I87 P88 z89 => am_iv v fun x90 =>
        (0 ≤ am_wr (l4 + 1) ∧ am_wr (l4 + 1) < N86 l0) ∧ (k + 1 + 0 ≤ 601024 ∧ n + 6 + 0 ≤ 7293033) ∧ K85 l2 = 8 ∧ am_C (d - 1) m_X8_removeRoute [am_r l2, am_i (I87 l0 (Int.toNat (am_wr (l4 + 1))))] K85 N86 I87 P88 z89 (fun v K91 N92 I93 P94 z95 => am_iv v fun x97 =>
        (k + 1 + 0 ≤ 601024 ∧ n + 6 + 0 ≤ 7293033) ∧ K91 l2 = 8 ∧ am_C (d - 1) m_X8_thrown [am_r l2] K91 N92 I93 P94 z95 (fun v K98 N99 I100 P101 z102 => am_iv v fun x104 =>
        ((x104 = x90 →
        ((¬ x90 = 0 →
          L_N_law_23 d (k + 1) (n + 6) l0 l1 l2 l3 (am_wr (l4 + 4)) K98 N99 I100 P101 z102 Q) ∧
          (x90 = 0 →
          K98 l3 = 14 ∧ (0 ≤ (0 : Int) ∧ (0 : Int) < N99 l3) ∧ ((I100 l3 0 = x97 →
            L_N_law_23 d (k + 1) (n + 6) l0 l1 l2 l3 (am_wr (l4 + 4)) K98 N99 I100 P101 z102 Q) ∧
            (¬ (I100 l3 0 = x97) →
            (k + 1 ≤ 601024 ∧ n + 6 ≤ 7293033) ∧ Q (am_i 0) K98 N99 I100 P101 z102))))) ∧
        (¬ (x104 = x90) →
        (k + 1 ≤ 601024 ∧ n + 6 ≤ 7293033) ∧ Q (am_i 0) K98 N99 I100 P101 z102))) am_nx) am_nx) am_nx) ∧
      (am_wr ((Int32.ofInt (I l0 (Int.toNat l4)) &&& Int32.ofInt 31).toInt) = 5 →
      (0 ≤ am_wr (l4 + 1) ∧ am_wr (l4 + 1) < N l0) ∧ (k + 1 ≤ 601024 ∧ n + 6 ≤ 7293033) ∧ am_C (d - 1) m_L_enter [am_r l1, am_i (I l0 (Int.toNat (am_wr (l4 + 1)))), am_r l3] K N I P z (fun v K106 N107 I108 P109 z110 => am_iv v fun x111 =>
        (0 ≤ am_wr (l4 + 1) ∧ am_wr (l4 + 1) < N107 l0) ∧ (k + 1 + 0 ≤ 601024 ∧ n + 6 + 0 ≤ 7293033) ∧ K106 l2 = 8 ∧ am_C (d - 1) m_X8_enter [am_r l2, am_i (I108 l0 (Int.toNat (am_wr (l4 + 1))))] K106 N107 I108 P109 z110 (fun v K112 N113 I114 P115 z116 => am_iv v fun x118 =>
        (k + 1 + 0 ≤ 601024 ∧ n + 6 + 0 ≤ 7293033) ∧ K112 l2 = 8 ∧ am_C (d - 1) m_X8_thrown [am_r l2] K112 N113 I114 P115 z116 (fun v K119 N120 I121 P122 z123 => am_iv v fun x125 =>
        ((x125 = x111 →
        ((¬ x111 = 0 →
          L_N_law_23 d (k + 1) (n + 6) l0 l1 l2 l3 (am_wr (l4 + 4)) K119 N120 I121 P122 z123 Q) ∧
          (x111 = 0 →
          K119 l3 = 14 ∧ (0 ≤ (0 : Int) ∧ (0 : Int) < N120 l3) ∧ ((I121 l3 0 = x118 →
            L_N_law_23 d (k + 1) (n + 6) l0 l1 l2 l3 (am_wr (l4 + 4)) K119 N120 I121 P122 z123 Q) ∧
            (¬ (I121 l3 0 = x118) →
            (k + 1 ≤ 601024 ∧ n + 6 ≤ 7293033) ∧ Q (am_i 0) K119 N120 I121 P122 z123))))) ∧
        (¬ (x125 = x111) →
        (k + 1 ≤ 601024 ∧ n + 6 ≤ 7293033) ∧ Q (am_i 0) K119 N120 I121 P122 z123))) am_nx) am_nx) am_nx) ∧
      (am_wr ((Int32.ofInt (I l0 (Int.toNat l4)) &&& Int32.ofInt 31).toInt) = 6 →
      (0 ≤ am_wr (l4 + 1) ∧ am_wr (l4 + 1) < N l0) ∧ (k + 1 ≤ 601024 ∧ n + 6 ≤ 7293033) ∧ am_C (d - 1) m_L_read [am_r l1, am_i (I l0 (Int.toNat (am_wr (l4 + 1)))), am_r l3] K N I P z (fun v K127 N128 I129 P130 z131 => am_iv v fun x132 =>
        (0 ≤ am_wr (l4 + 1) ∧ am_wr (l4 + 1) < N128 l0) ∧ (k + 1 + 0 ≤ 601024 ∧ n + 6 + 0 ≤ 7293033) ∧ K127 l2 = 8 ∧ am_C (d - 1) m_X8_read [am_r l2, am_i (I129 l0 (Int.toNat (am_wr (l4 + 1))))] K127 N128 I129 P130 z131 (fun v K133 N134 I135 P136 z137 => am_iv v fun x139 =>
        (k + 1 + 0 ≤ 601024 ∧ n + 6 + 0 ≤ 7293033) ∧ K133 l2 = 8 ∧ am_C (d - 1) m_X8_thrown [am_r l2] K133 N134 I135 P136 z137 (fun v K140 N141 I142 P143 z144 => am_iv v fun x146 =>
        ((x146 = x132 →
        ((¬ x132 = 0 →
          L_N_law_23 d (k + 1) (n + 6) l0 l1 l2 l3 (am_wr (l4 + 4)) K140 N141 I142 P143 z144 Q) ∧
          (x132 = 0 →
          K140 l3 = 14 ∧ (0 ≤ (0 : Int) ∧ (0 : Int) < N141 l3) ∧ ((I142 l3 0 = x139 →
            L_N_law_23 d (k + 1) (n + 6) l0 l1 l2 l3 (am_wr (l4 + 4)) K140 N141 I142 P143 z144 Q) ∧
            (¬ (I142 l3 0 = x139) →
            (k + 1 ≤ 601024 ∧ n + 6 ≤ 7293033) ∧ Q (am_i 0) K140 N141 I142 P143 z144))))) ∧
        (¬ (x146 = x132) →
        (k + 1 ≤ 601024 ∧ n + 6 ≤ 7293033) ∧ Q (am_i 0) K140 N141 I142 P143 z144))) am_nx) am_nx) am_nx) ∧
      (am_wr ((Int32.ofInt (I l0 (Int.toNat l4)) &&& Int32.ofInt 31).toInt) = 7 →
      (0 ≤ am_wr (l4 + 1) ∧ am_wr (l4 + 1) < N l0) ∧ (k + 1 ≤ 601024 ∧ n + 6 ≤ 7293033) ∧ am_C (d - 1) m_L_move [am_r l1, am_i (I l0 (Int.toNat (am_wr (l4 + 1)))), am_r l3] K N I P z (fun v K148 N149 I150 P151 z152 => am_iv v fun x153 =>
        (0 ≤ am_wr (l4 + 1) ∧ am_wr (l4 + 1) < N149 l0) ∧ (k + 1 + 0 ≤ 601024 ∧ n + 6 + 0 ≤ 7293033) ∧ K148 l2 = 8 ∧ am_C (d - 1) m_X8_move [am_r l2, am_i (I150 l0 (Int.toNat (am_wr (l4 + 1))))] K148 N149 I150 P151 z152 (fun v K154 N155 I156 P157 z158 => am_iv v fun x160 =>
        (k + 1 + 0 ≤ 601024 ∧ n + 6 + 0 ≤ 7293033) ∧ K154 l2 = 8 ∧ am_C (d - 1) m_X8_thrown [am_r l2] K154 N155 I156 P157 z158 (fun v K161 N162 I163 P164 z165 => am_iv v fun x167 =>
        ((x167 = x153 →
        ((¬ x153 = 0 →
          L_N_law_23 d (k + 1) (n + 6) l0 l1 l2 l3 (am_wr (l4 + 4)) K161 N162 I163 P164 z165 Q) ∧
          (x153 = 0 →
          K161 l3 = 14 ∧ (0 ≤ (0 : Int) ∧ (0 : Int) < N162 l3) ∧ ((I163 l3 0 = x160 →
            L_N_law_23 d (k + 1) (n + 6) l0 l1 l2 l3 (am_wr (l4 + 4)) K161 N162 I163 P164 z165 Q) ∧
            (¬ (I163 l3 0 = x160) →
            (k + 1 ≤ 601024 ∧ n + 6 ≤ 7293033) ∧ Q (am_i 0) K161 N162 I163 P164 z165))))) ∧
        (¬ (x167 = x153) →
        (k + 1 ≤ 601024 ∧ n + 6 ≤ 7293033) ∧ Q (am_i 0) K161 N162 I163 P164 z165))) am_nx) am_nx) am_nx) ∧
      (am_wr ((Int32.ofInt (I l0 (Int.toNat l4)) &&& Int32.ofInt 31).toInt) = 8 →
      (0 ≤ am_wr (l4 + 1) ∧ am_wr (l4 + 1) < N l0) ∧ (k + 1 ≤ 601024 ∧ n + 6 ≤ 7293033) ∧ am_C (d - 1) m_L_takeOff [am_r l1, am_i (I l0 (Int.toNat (am_wr (l4 + 1)))), am_r l3] K N I P z (fun v K169 N170 I171 P172 z173 => am_iv v fun x174 =>
        (0 ≤ am_wr (l4 + 1) ∧ am_wr (l4 + 1) < N170 l0) ∧ (k + 1 + 0 ≤ 601024 ∧ n + 6 + 0 ≤ 7293033) ∧ K169 l2 = 8 ∧ am_C (d - 1) m_X8_takeOff [am_r l2, am_i (I171 l0 (Int.toNat (am_wr (l4 + 1))))] K169 N170 I171 P172 z173 (fun v K175 N176 I177 P178 z179 => am_iv v fun x181 =>
        (k + 1 + 0 ≤ 601024 ∧ n + 6 + 0 ≤ 7293033) ∧ K175 l2 = 8 ∧ am_C (d - 1) m_X8_thrown [am_r l2] K175 N176 I177 P178 z179 (fun v K182 N183 I184 P185 z186 => am_iv v fun x188 =>
        ((x188 = x174 →
        ((¬ x174 = 0 →
          L_N_law_23 d (k + 1) (n + 6) l0 l1 l2 l3 (am_wr (l4 + 4)) K182 N183 I184 P185 z186 Q) ∧
          (x174 = 0 →
          K182 l3 = 14 ∧ (0 ≤ (0 : Int) ∧ (0 : Int) < N183 l3) ∧ ((I184 l3 0 = x181 →
            L_N_law_23 d (k + 1) (n + 6) l0 l1 l2 l3 (am_wr (l4 + 4)) K182 N183 I184 P185 z186 Q) ∧
            (¬ (I184 l3 0 = x181) →
            (k + 1 ≤ 601024 ∧ n + 6 ≤ 7293033) ∧ Q (am_i 0) K182 N183 I184 P185 z186))))) ∧
        (¬ (x188 = x174) →
        (k + 1 ≤ 601024 ∧ n + 6 ≤ 7293033) ∧ Q (am_i 0) K182 N183 I184 P185 z186))) am_nx) am_nx) am_nx) ∧
      (am_wr ((Int32.ofInt (I l0 (Int.toNat l4)) &&& Int32.ofInt 31).toInt) = 9 →
      (k + 1 ≤ 601024 ∧ n + 6 ≤ 7293033) ∧ am_C (d - 1) m_L_undo [am_r l1, am_r l3] K N I P z (fun v K190 N191 I192 P193 z194 => am_iv v fun x195 =>
        (k + 1 + 0 ≤ 601024 ∧ n + 6 + 0 ≤ 7293033) ∧ K190 l2 = 8 ∧ am_C (d - 1) m_X8_undo [am_r l2] K190 N191 I192 P193 z194 (fun v K196 N197 I198 P199 z200 => am_iv v fun x202 =>
        (k + 1 + 0 ≤ 601024 ∧ n + 6 + 0 ≤ 7293033) ∧ K196 l2 = 8 ∧ am_C (d - 1) m_X8_thrown [am_r l2] K196 N197 I198 P199 z200 (fun v K203 N204 I205 P206 z207 => am_iv v fun x209 =>
        ((x209 = x195 →
        ((¬ x195 = 0 →
          L_N_law_23 d (k + 1) (n + 6) l0 l1 l2 l3 (am_wr (l4 + 4)) K203 N204 I205 P206 z207 Q) ∧
          (x195 = 0 →
          K203 l3 = 14 ∧ (0 ≤ (0 : Int) ∧ (0 : Int) < N204 l3) ∧ ((I205 l3 0 = x202 →
            L_N_law_23 d (k + 1) (n + 6) l0 l1 l2 l3 (am_wr (l4 + 4)) K203 N204 I205 P206 z207 Q) ∧
            (¬ (I205 l3 0 = x202) →
            (k + 1 ≤ 601024 ∧ n + 6 ≤ 7293033) ∧ Q (am_i 0) K203 N204 I205 P206 z207))))) ∧
        (¬ (x209 = x195) →
        (k + 1 ≤ 601024 ∧ n + 6 ≤ 7293033) ∧ Q (am_i 0) K203 N204 I205 P206 z207))) am_nx) am_nx) am_nx) ∧
      (am_wr ((Int32.ofInt (I l0 (Int.toNat l4)) &&& Int32.ofInt 31).toInt) = 10 →
      (0 ≤ am_wr (l4 + 1) ∧ am_wr (l4 + 1) < N l0) ∧ (0 ≤ am_wr (l4 + 2) ∧ am_wr (l4 + 2) < N l0) ∧ (k + 1 ≤ 601024 ∧ n + 6 ≤ 7293033) ∧ am_C (d - 1) m_L_part [am_r l1, am_i (I l0 (Int.toNat (am_wr (l4 + 1)))), am_i (I l0 (Int.toNat (am_wr (l4 + 2)))), am_r l3] K N I P z (fun v K211 N212 I213 P214 z215 => am_iv v fun x216 =>
        (0 ≤ am_wr (l4 + 1) ∧ am_wr (l4 + 1) < N212 l0) ∧ (0 ≤ am_wr (l4 + 2) ∧ am_wr (l4 + 2) < N212 l0) ∧ (k + 1 + 0 ≤ 601024 ∧ n + 6 + 0 ≤ 7293033) ∧ K211 l2 = 8 ∧ am_C (d - 1) m_X8_part [am_r l2, am_i (I213 l0 (Int.toNat (am_wr (l4 + 1)))), am_i (I213 l0 (Int.toNat (am_wr (l4 + 2))))] K211 N212 I213 P214 z215 (fun v K217 N218 I219 P220 z221 => am_iv v fun x223 =>
        (k + 1 + 0 ≤ 601024 ∧ n + 6 + 0 ≤ 7293033) ∧ K217 l2 = 8 ∧ am_C (d - 1) m_X8_thrown [am_r l2] K217 N218 I219 P220 z221 (fun v K224 N225 I226 P227 z228 => am_iv v fun x230 =>
        ((x230 = x216 →
        ((¬ x216 = 0 →
          L_N_law_23 d (k + 1) (n + 6) l0 l1 l2 l3 (am_wr (l4 + 4)) K224 N225 I226 P227 z228 Q) ∧
          (x216 = 0 →
          K224 l3 = 14 ∧ (0 ≤ (0 : Int) ∧ (0 : Int) < N225 l3) ∧ ((I226 l3 0 = x223 →
            L_N_law_23 d (k + 1) (n + 6) l0 l1 l2 l3 (am_wr (l4 + 4)) K224 N225 I226 P227 z228 Q) ∧
            (¬ (I226 l3 0 = x223) →
            (k + 1 ≤ 601024 ∧ n + 6 ≤ 7293033) ∧ Q (am_i 0) K224 N225 I226 P227 z228))))) ∧
        (¬ (x230 = x216) →
        (k + 1 ≤ 601024 ∧ n + 6 ≤ 7293033) ∧ Q (am_i 0) K224 N225 I226 P227 z228))) am_nx) am_nx) am_nx) ∧
      (am_wr ((Int32.ofInt (I l0 (Int.toNat l4)) &&& Int32.ofInt 31).toInt) = 11 →
      (0 ≤ am_wr (l4 + 1) ∧ am_wr (l4 + 1) < N l0) ∧ (0 ≤ am_wr (l4 + 2) ∧ am_wr (l4 + 2) < N l0) ∧ (k + 1 ≤ 601024 ∧ n + 6 ≤ 7293033) ∧ am_C (d - 1) m_L_lane [am_r l1, am_i (I l0 (Int.toNat (am_wr (l4 + 1)))), am_i (I l0 (Int.toNat (am_wr (l4 + 2)))), am_r l3] K N I P z (fun v K232 N233 I234 P235 z236 => am_iv v fun x237 =>
        (0 ≤ am_wr (l4 + 1) ∧ am_wr (l4 + 1) < N233 l0) ∧ (0 ≤ am_wr (l4 + 2) ∧ am_wr (l4 + 2) < N233 l0) ∧ (k + 1 + 0 ≤ 601024 ∧ n + 6 + 0 ≤ 7293033) ∧ K232 l2 = 8 ∧ am_C (d - 1) m_X8_lane [am_r l2, am_i (I234 l0 (Int.toNat (am_wr (l4 + 1)))), am_i (I234 l0 (Int.toNat (am_wr (l4 + 2))))] K232 N233 I234 P235 z236 (fun v K238 N239 I240 P241 z242 => am_iv v fun x244 =>
        (k + 1 + 0 ≤ 601024 ∧ n + 6 + 0 ≤ 7293033) ∧ K238 l2 = 8 ∧ am_C (d - 1) m_X8_thrown [am_r l2] K238 N239 I240 P241 z242 (fun v K245 N246 I247 P248 z249 => am_iv v fun x251 =>
        ((x251 = x237 →
        ((¬ x237 = 0 →
          L_N_law_23 d (k + 1) (n + 6) l0 l1 l2 l3 (am_wr (l4 + 4)) K245 N246 I247 P248 z249 Q) ∧
          (x237 = 0 →
          K245 l3 = 14 ∧ (0 ≤ (0 : Int) ∧ (0 : Int) < N246 l3) ∧ ((I247 l3 0 = x244 →
            L_N_law_23 d (k + 1) (n + 6) l0 l1 l2 l3 (am_wr (l4 + 4)) K245 N246 I247 P248 z249 Q) ∧
            (¬ (I247 l3 0 = x244) →
            (k + 1 ≤ 601024 ∧ n + 6 ≤ 7293033) ∧ Q (am_i 0) K245 N246 I247 P248 z249))))) ∧
        (¬ (x251 = x237) →
        (k + 1 ≤ 601024 ∧ n + 6 ≤ 7293033) ∧ Q (am_i 0) K245 N246 I247 P248 z249))) am_nx) am_nx) am_nx) ∧
      (am_wr ((Int32.ofInt (I l0 (Int.toNat l4)) &&& Int32.ofInt 31).toInt) = 12 →
      (0 ≤ am_wr (l4 + 1) ∧ am_wr (l4 + 1) < N l0) ∧ (k + 1 ≤ 601024 ∧ n + 6 ≤ 7293033) ∧ am_C (d - 1) m_L_total [am_r l1, am_i (I l0 (Int.toNat (am_wr (l4 + 1)))), am_r l3] K N I P z (fun v K253 N254 I255 P256 z257 => am_iv v fun x258 =>
        (0 ≤ am_wr (l4 + 1) ∧ am_wr (l4 + 1) < N254 l0) ∧ (k + 1 + 0 ≤ 601024 ∧ n + 6 + 0 ≤ 7293033) ∧ K253 l2 = 8 ∧ am_C (d - 1) m_X8_total [am_r l2, am_i (I255 l0 (Int.toNat (am_wr (l4 + 1))))] K253 N254 I255 P256 z257 (fun v K259 N260 I261 P262 z263 => am_iv v fun x265 =>
        (k + 1 + 0 ≤ 601024 ∧ n + 6 + 0 ≤ 7293033) ∧ K259 l2 = 8 ∧ am_C (d - 1) m_X8_thrown [am_r l2] K259 N260 I261 P262 z263 (fun v K266 N267 I268 P269 z270 => am_iv v fun x272 =>
        ((x272 = x258 →
        ((¬ x258 = 0 →
          L_N_law_23 d (k + 1) (n + 6) l0 l1 l2 l3 (am_wr (l4 + 4)) K266 N267 I268 P269 z270 Q) ∧
          (x258 = 0 →
          K266 l3 = 14 ∧ (0 ≤ (0 : Int) ∧ (0 : Int) < N267 l3) ∧ ((I268 l3 0 = x265 →
            L_N_law_23 d (k + 1) (n + 6) l0 l1 l2 l3 (am_wr (l4 + 4)) K266 N267 I268 P269 z270 Q) ∧
            (¬ (I268 l3 0 = x265) →
            (k + 1 ≤ 601024 ∧ n + 6 ≤ 7293033) ∧ Q (am_i 0) K266 N267 I268 P269 z270))))) ∧
        (¬ (x272 = x258) →
        (k + 1 ≤ 601024 ∧ n + 6 ≤ 7293033) ∧ Q (am_i 0) K266 N267 I268 P269 z270))) am_nx) am_nx) am_nx) ∧
      (am_wr ((Int32.ofInt (I l0 (Int.toNat l4)) &&& Int32.ofInt 31).toInt) = 13 →
      (0 ≤ am_wr (l4 + 1) ∧ am_wr (l4 + 1) < N l0) ∧ (k + 1 ≤ 601024 ∧ n + 6 ≤ 7293033) ∧ am_C (d - 1) m_L_lost [am_r l1, am_i (I l0 (Int.toNat (am_wr (l4 + 1)))), am_r l3] K N I P z (fun v K274 N275 I276 P277 z278 => am_iv v fun x279 =>
        (0 ≤ am_wr (l4 + 1) ∧ am_wr (l4 + 1) < N275 l0) ∧ (k + 1 + 0 ≤ 601024 ∧ n + 6 + 0 ≤ 7293033) ∧ K274 l2 = 8 ∧ am_C (d - 1) m_X8_lost [am_r l2, am_i (I276 l0 (Int.toNat (am_wr (l4 + 1))))] K274 N275 I276 P277 z278 (fun v K280 N281 I282 P283 z284 => am_iv v fun x286 =>
        (k + 1 + 0 ≤ 601024 ∧ n + 6 + 0 ≤ 7293033) ∧ K280 l2 = 8 ∧ am_C (d - 1) m_X8_thrown [am_r l2] K280 N281 I282 P283 z284 (fun v K287 N288 I289 P290 z291 => am_iv v fun x293 =>
        ((x293 = x279 →
        ((¬ x279 = 0 →
          L_N_law_23 d (k + 1) (n + 6) l0 l1 l2 l3 (am_wr (l4 + 4)) K287 N288 I289 P290 z291 Q) ∧
          (x279 = 0 →
          K287 l3 = 14 ∧ (0 ≤ (0 : Int) ∧ (0 : Int) < N288 l3) ∧ ((I289 l3 0 = x286 →
            L_N_law_23 d (k + 1) (n + 6) l0 l1 l2 l3 (am_wr (l4 + 4)) K287 N288 I289 P290 z291 Q) ∧
            (¬ (I289 l3 0 = x286) →
            (k + 1 ≤ 601024 ∧ n + 6 ≤ 7293033) ∧ Q (am_i 0) K287 N288 I289 P290 z291))))) ∧
        (¬ (x293 = x279) →
        (k + 1 ≤ 601024 ∧ n + 6 ≤ 7293033) ∧ Q (am_i 0) K287 N288 I289 P290 z291))) am_nx) am_nx) am_nx) ∧
      (am_wr ((Int32.ofInt (I l0 (Int.toNat l4)) &&& Int32.ofInt 31).toInt) = 14 →
      (0 ≤ am_wr (l4 + 1) ∧ am_wr (l4 + 1) < N l0) ∧ (k + 1 ≤ 601024 ∧ n + 6 ≤ 7293033) ∧ am_C (d - 1) m_L_setting [am_r l1, am_i (I l0 (Int.toNat (am_wr (l4 + 1)))), am_r l3] K N I P z (fun v K295 N296 I297 P298 z299 => am_iv v fun x300 =>
        (0 ≤ am_wr (l4 + 1) ∧ am_wr (l4 + 1) < N296 l0) ∧ (k + 1 + 0 ≤ 601024 ∧ n + 6 + 0 ≤ 7293033) ∧ K295 l2 = 8 ∧ am_C (d - 1) m_X8_setting [am_r l2, am_i (I297 l0 (Int.toNat (am_wr (l4 + 1))))] K295 N296 I297 P298 z299 (fun v K301 N302 I303 P304 z305 => am_iv v fun x307 =>
        (k + 1 + 0 ≤ 601024 ∧ n + 6 + 0 ≤ 7293033) ∧ K301 l2 = 8 ∧ am_C (d - 1) m_X8_thrown [am_r l2] K301 N302 I303 P304 z305 (fun v K308 N309 I310 P311 z312 => am_iv v fun x314 =>
        ((x314 = x300 →
        ((¬ x300 = 0 →
          L_N_law_23 d (k + 1) (n + 6) l0 l1 l2 l3 (am_wr (l4 + 4)) K308 N309 I310 P311 z312 Q) ∧
          (x300 = 0 →
          K308 l3 = 14 ∧ (0 ≤ (0 : Int) ∧ (0 : Int) < N309 l3) ∧ ((I310 l3 0 = x307 →
            L_N_law_23 d (k + 1) (n + 6) l0 l1 l2 l3 (am_wr (l4 + 4)) K308 N309 I310 P311 z312 Q) ∧
            (¬ (I310 l3 0 = x307) →
            (k + 1 ≤ 601024 ∧ n + 6 ≤ 7293033) ∧ Q (am_i 0) K308 N309 I310 P311 z312))))) ∧
        (¬ (x314 = x300) →
        (k + 1 ≤ 601024 ∧ n + 6 ≤ 7293033) ∧ Q (am_i 0) K308 N309 I310 P311 z312))) am_nx) am_nx) am_nx) ∧
      (am_wr ((Int32.ofInt (I l0 (Int.toNat l4)) &&& Int32.ofInt 31).toInt) = 15 →
      (0 ≤ am_wr (l4 + 1) ∧ am_wr (l4 + 1) < N l0) ∧ (k + 1 ≤ 601024 ∧ n + 6 ≤ 7293033) ∧ am_C (d - 1) m_L_routeAt [am_r l1, am_i (I l0 (Int.toNat (am_wr (l4 + 1)))), am_r l3] K N I P z (fun v K316 N317 I318 P319 z320 => am_iv v fun x321 =>
        (0 ≤ am_wr (l4 + 1) ∧ am_wr (l4 + 1) < N317 l0) ∧ (k + 1 + 0 ≤ 601024 ∧ n + 6 + 0 ≤ 7293033) ∧ K316 l2 = 8 ∧ am_C (d - 1) m_X8_routeAt [am_r l2, am_i (I318 l0 (Int.toNat (am_wr (l4 + 1))))] K316 N317 I318 P319 z320 (fun v K322 N323 I324 P325 z326 => am_iv v fun x328 =>
        (k + 1 + 0 ≤ 601024 ∧ n + 6 + 0 ≤ 7293033) ∧ K322 l2 = 8 ∧ am_C (d - 1) m_X8_thrown [am_r l2] K322 N323 I324 P325 z326 (fun v K329 N330 I331 P332 z333 => am_iv v fun x335 =>
        ((x335 = x321 →
        ((¬ x321 = 0 →
          L_N_law_23 d (k + 1) (n + 6) l0 l1 l2 l3 (am_wr (l4 + 4)) K329 N330 I331 P332 z333 Q) ∧
          (x321 = 0 →
          K329 l3 = 14 ∧ (0 ≤ (0 : Int) ∧ (0 : Int) < N330 l3) ∧ ((I331 l3 0 = x328 →
            L_N_law_23 d (k + 1) (n + 6) l0 l1 l2 l3 (am_wr (l4 + 4)) K329 N330 I331 P332 z333 Q) ∧
            (¬ (I331 l3 0 = x328) →
            (k + 1 ≤ 601024 ∧ n + 6 ≤ 7293033) ∧ Q (am_i 0) K329 N330 I331 P332 z333))))) ∧
        (¬ (x335 = x321) →
        (k + 1 ≤ 601024 ∧ n + 6 ≤ 7293033) ∧ Q (am_i 0) K329 N330 I331 P332 z333))) am_nx) am_nx) am_nx) ∧
      (am_wr ((Int32.ofInt (I l0 (Int.toNat l4)) &&& Int32.ofInt 31).toInt) = 16 →
      (0 ≤ am_wr (l4 + 1) ∧ am_wr (l4 + 1) < N l0) ∧ (k + 1 ≤ 601024 ∧ n + 6 ≤ 7293033) ∧ am_C (d - 1) m_L_gapAhead [am_r l1, am_i (I l0 (Int.toNat (am_wr (l4 + 1)))), am_r l3] K N I P z (fun v K337 N338 I339 P340 z341 => am_iv v fun x342 =>
        (0 ≤ am_wr (l4 + 1) ∧ am_wr (l4 + 1) < N338 l0) ∧ (k + 1 + 0 ≤ 601024 ∧ n + 6 + 0 ≤ 7293033) ∧ K337 l2 = 8 ∧ am_C (d - 1) m_X8_gapAhead [am_r l2, am_i (I339 l0 (Int.toNat (am_wr (l4 + 1))))] K337 N338 I339 P340 z341 (fun v K343 N344 I345 P346 z347 => am_iv v fun x349 =>
        (k + 1 + 0 ≤ 601024 ∧ n + 6 + 0 ≤ 7293033) ∧ K343 l2 = 8 ∧ am_C (d - 1) m_X8_thrown [am_r l2] K343 N344 I345 P346 z347 (fun v K350 N351 I352 P353 z354 => am_iv v fun x356 =>
        ((x356 = x342 →
        ((¬ x342 = 0 →
          L_N_law_23 d (k + 1) (n + 6) l0 l1 l2 l3 (am_wr (l4 + 4)) K350 N351 I352 P353 z354 Q) ∧
          (x342 = 0 →
          K350 l3 = 14 ∧ (0 ≤ (0 : Int) ∧ (0 : Int) < N351 l3) ∧ ((I352 l3 0 = x349 →
            L_N_law_23 d (k + 1) (n + 6) l0 l1 l2 l3 (am_wr (l4 + 4)) K350 N351 I352 P353 z354 Q) ∧
            (¬ (I352 l3 0 = x349) →
            (k + 1 ≤ 601024 ∧ n + 6 ≤ 7293033) ∧ Q (am_i 0) K350 N351 I352 P353 z354))))) ∧
        (¬ (x356 = x342) →
        (k + 1 ≤ 601024 ∧ n + 6 ≤ 7293033) ∧ Q (am_i 0) K350 N351 I352 P353 z354))) am_nx) am_nx) am_nx) ∧
      (am_wr ((Int32.ofInt (I l0 (Int.toNat l4)) &&& Int32.ofInt 31).toInt) = 17 →
      (0 ≤ am_wr (l4 + 1) ∧ am_wr (l4 + 1) < N l0) ∧ (k + 1 ≤ 601024 ∧ n + 6 ≤ 7293033) ∧ am_C (d - 1) m_L_ranked [am_r l1, am_i (I l0 (Int.toNat (am_wr (l4 + 1)))), am_r l3] K N I P z (fun v K358 N359 I360 P361 z362 => am_iv v fun x363 =>
        (0 ≤ am_wr (l4 + 1) ∧ am_wr (l4 + 1) < N359 l0) ∧ (k + 1 + 0 ≤ 601024 ∧ n + 6 + 0 ≤ 7293033) ∧ K358 l2 = 8 ∧ am_C (d - 1) m_X8_ranked [am_r l2, am_i (I360 l0 (Int.toNat (am_wr (l4 + 1))))] K358 N359 I360 P361 z362 (fun v K364 N365 I366 P367 z368 => am_iv v fun x370 =>
        (k + 1 + 0 ≤ 601024 ∧ n + 6 + 0 ≤ 7293033) ∧ K364 l2 = 8 ∧ am_C (d - 1) m_X8_thrown [am_r l2] K364 N365 I366 P367 z368 (fun v K371 N372 I373 P374 z375 => am_iv v fun x377 =>
        ((x377 = x363 →
        ((¬ x363 = 0 →
          L_N_law_23 d (k + 1) (n + 6) l0 l1 l2 l3 (am_wr (l4 + 4)) K371 N372 I373 P374 z375 Q) ∧
          (x363 = 0 →
          K371 l3 = 14 ∧ (0 ≤ (0 : Int) ∧ (0 : Int) < N372 l3) ∧ ((I373 l3 0 = x370 →
            L_N_law_23 d (k + 1) (n + 6) l0 l1 l2 l3 (am_wr (l4 + 4)) K371 N372 I373 P374 z375 Q) ∧
            (¬ (I373 l3 0 = x370) →
            (k + 1 ≤ 601024 ∧ n + 6 ≤ 7293033) ∧ Q (am_i 0) K371 N372 I373 P374 z375))))) ∧
        (¬ (x377 = x363) →
        (k + 1 ≤ 601024 ∧ n + 6 ≤ 7293033) ∧ Q (am_i 0) K371 N372 I373 P374 z375))) am_nx) am_nx) am_nx) ∧
      (am_wr ((Int32.ofInt (I l0 (Int.toNat l4)) &&& Int32.ofInt 31).toInt) = 18 →
      (k + 0 ≤ 601024 ∧ n + 0 ≤ 7293033) ∧ K l1 = 7 ∧ am_C (d - 1) m_X7_share [am_r l1] K N I P z (fun v K379 N380 I381 P382 z383 => am_dv v fun x385 =>
        (k + 0 ≤ 601024 ∧ n + 0 ≤ 7293033) ∧ K379 l2 = 8 ∧ am_C (d - 1) m_X8_share [am_r l2] K379 N380 I381 P382 z383 (fun v K386 N387 I388 P389 z390 => am_dv v fun x392 =>
        (((Op.cmpValue (FP.dcmp x385 x392) CmpOp.l).toInt = 0 →
        L_N_law_23 d k n l0 l1 l2 l3 (am_wr (l4 + 4)) K386 N387 I388 P389 z390 Q) ∧
        (¬ ((Op.cmpValue (FP.dcmp x385 x392) CmpOp.l).toInt = 0) →
        (((Op.cmpValue (FP.dcmp x385 x385) CmpOp.l).toInt = 0 →
          (k ≤ 601024 ∧ n ≤ 7293033) ∧ Q (am_i 0) K386 N387 I388 P389 z390) ∧
          (¬ ((Op.cmpValue (FP.dcmp x385 x385) CmpOp.l).toInt = 0) →
          ((¬ (Op.cmpValue (FP.dcmp x392 x392) CmpOp.l).toInt = 0 →
            L_N_law_23 d k n l0 l1 l2 l3 (am_wr (l4 + 4)) K386 N387 I388 P389 z390 Q) ∧
            ((Op.cmpValue (FP.dcmp x392 x392) CmpOp.l).toInt = 0 →
            (k ≤ 601024 ∧ n ≤ 7293033) ∧ Q (am_i 0) K386 N387 I388 P389 z390))))))) am_nx) am_nx) ∧
      (am_wr ((Int32.ofInt (I l0 (Int.toNat l4)) &&& Int32.ofInt 31).toInt) = 19 →
      (0 ≤ am_wr (l4 + 1) ∧ am_wr (l4 + 1) < N l0) ∧ (k + 1 ≤ 601024 ∧ n + 6 ≤ 7293033) ∧ am_C (d - 1) m_L_fateOf [am_r l1, am_i (I l0 (Int.toNat (am_wr (l4 + 1)))), am_r l3] K N I P z (fun v K393 N394 I395 P396 z397 => am_iv v fun x398 =>
        (0 ≤ am_wr (l4 + 1) ∧ am_wr (l4 + 1) < N394 l0) ∧ (k + 1 + 0 ≤ 601024 ∧ n + 6 + 0 ≤ 7293033) ∧ K393 l2 = 8 ∧ am_C (d - 1) m_X8_fateOf [am_r l2, am_i (I395 l0 (Int.toNat (am_wr (l4 + 1))))] K393 N394 I395 P396 z397 (fun v K399 N400 I401 P402 z403 => am_iv v fun x405 =>
        (k + 1 + 0 ≤ 601024 ∧ n + 6 + 0 ≤ 7293033) ∧ K399 l2 = 8 ∧ am_C (d - 1) m_X8_thrown [am_r l2] K399 N400 I401 P402 z403 (fun v K406 N407 I408 P409 z410 => am_iv v fun x412 =>
        ((x412 = x398 →
        ((¬ x398 = 0 →
          L_N_law_23 d (k + 1) (n + 6) l0 l1 l2 l3 (am_wr (l4 + 4)) K406 N407 I408 P409 z410 Q) ∧
          (x398 = 0 →
          K406 l3 = 14 ∧ (0 ≤ (0 : Int) ∧ (0 : Int) < N407 l3) ∧ ((I408 l3 0 = x405 →
            L_N_law_23 d (k + 1) (n + 6) l0 l1 l2 l3 (am_wr (l4 + 4)) K406 N407 I408 P409 z410 Q) ∧
            (¬ (I408 l3 0 = x405) →
            (k + 1 ≤ 601024 ∧ n + 6 ≤ 7293033) ∧ Q (am_i 0) K406 N407 I408 P409 z410))))) ∧
        (¬ (x412 = x398) →
        (k + 1 ≤ 601024 ∧ n + 6 ≤ 7293033) ∧ Q (am_i 0) K406 N407 I408 P409 z410))) am_nx) am_nx) am_nx) ∧
      (am_wr ((Int32.ofInt (I l0 (Int.toNat l4)) &&& Int32.ofInt 31).toInt) = 20 →
      (k + 0 ≤ 601024 ∧ n + 0 ≤ 7293033) ∧ K l1 = 7 ∧ am_C (d - 1) m_X7_entryIn [am_r l1] K N I P z (fun v K414 N415 I416 P417 z418 => am_iv v fun x420 =>
        (k + 0 ≤ 601024 ∧ n + 0 ≤ 7293033) ∧ K414 l2 = 8 ∧ am_C (d - 1) m_X8_entryIn [am_r l2] K414 N415 I416 P417 z418 (fun v K421 N422 I423 P424 z425 => am_iv v fun x427 =>
        ((x420 = x427 →
        L_N_law_23 d k n l0 l1 l2 l3 (am_wr (l4 + 4)) K421 N422 I423 P424 z425 Q) ∧
        (¬ (x420 = x427) →
        (k ≤ 601024 ∧ n ≤ 7293033) ∧ Q (am_i 0) K421 N422 I423 P424 z425))) am_nx) am_nx) ∧
      (am_wr ((Int32.ofInt (I l0 (Int.toNat l4)) &&& Int32.ofInt 31).toInt) = 21 →
      (k + 0 ≤ 601024 ∧ n + 0 ≤ 7293033) ∧ K l1 = 7 ∧ am_C (d - 1) m_X7_nextLeaving [am_r l1] K N I P z (fun v K428 N429 I430 P431 z432 => am_iv v fun x434 =>
        (k + 0 ≤ 601024 ∧ n + 0 ≤ 7293033) ∧ K428 l2 = 8 ∧ am_C (d - 1) m_X8_nextLeaving [am_r l2] K428 N429 I430 P431 z432 (fun v K435 N436 I437 P438 z439 => am_iv v fun x441 =>
        ((x434 = x441 →
        L_N_law_23 d k n l0 l1 l2 l3 (am_wr (l4 + 4)) K435 N436 I437 P438 z439 Q) ∧
        (¬ (x434 = x441) →
        (k ≤ 601024 ∧ n ≤ 7293033) ∧ Q (am_i 0) K435 N436 I437 P438 z439))) am_nx) am_nx) ∧
      (am_wr ((Int32.ofInt (I l0 (Int.toNat l4)) &&& Int32.ofInt 31).toInt) = 22 →
      (0 ≤ am_wr (l4 + 1) ∧ am_wr (l4 + 1) < N l0) ∧ (0 ≤ am_wr (l4 + 2) ∧ am_wr (l4 + 2) < N l0) ∧ (k + 1 ≤ 601024 ∧ n + 6 ≤ 7293033) ∧ am_C (d - 1) m_L_laneFor [am_r l1, am_i (I l0 (Int.toNat (am_wr (l4 + 1)))), am_i (I l0 (Int.toNat (am_wr (l4 + 2)))), am_r l3] K N I P z (fun v K442 N443 I444 P445 z446 => am_iv v fun x447 =>
        (0 ≤ am_wr (l4 + 1) ∧ am_wr (l4 + 1) < N443 l0) ∧ (0 ≤ am_wr (l4 + 2) ∧ am_wr (l4 + 2) < N443 l0) ∧ (k + 1 + 0 ≤ 601024 ∧ n + 6 + 0 ≤ 7293033) ∧ K442 l2 = 8 ∧ am_C (d - 1) m_X8_laneFor [am_r l2, am_i (I444 l0 (Int.toNat (am_wr (l4 + 1)))), am_i (I444 l0 (Int.toNat (am_wr (l4 + 2))))] K442 N443 I444 P445 z446 (fun v K448 N449 I450 P451 z452 => am_iv v fun x454 =>
        (k + 1 + 0 ≤ 601024 ∧ n + 6 + 0 ≤ 7293033) ∧ K448 l2 = 8 ∧ am_C (d - 1) m_X8_thrown [am_r l2] K448 N449 I450 P451 z452 (fun v K455 N456 I457 P458 z459 => am_iv v fun x461 =>
        ((x461 = x447 →
        ((¬ x447 = 0 →
          L_N_law_23 d (k + 1) (n + 6) l0 l1 l2 l3 (am_wr (l4 + 4)) K455 N456 I457 P458 z459 Q) ∧
          (x447 = 0 →
          K455 l3 = 14 ∧ (0 ≤ (0 : Int) ∧ (0 : Int) < N456 l3) ∧ ((I457 l3 0 = x454 →
            L_N_law_23 d (k + 1) (n + 6) l0 l1 l2 l3 (am_wr (l4 + 4)) K455 N456 I457 P458 z459 Q) ∧
            (¬ (I457 l3 0 = x454) →
            (k + 1 ≤ 601024 ∧ n + 6 ≤ 7293033) ∧ Q (am_i 0) K455 N456 I457 P458 z459))))) ∧
        (¬ (x461 = x447) →
        (k + 1 ≤ 601024 ∧ n + 6 ≤ 7293033) ∧ Q (am_i 0) K455 N456 I457 P458 z459))) am_nx) am_nx) am_nx) ∧
      (am_wr ((Int32.ofInt (I l0 (Int.toNat l4)) &&& Int32.ofInt 31).toInt) = 23 →
      (0 ≤ am_wr (l4 + 1) ∧ am_wr (l4 + 1) < N l0) ∧ (k + 1 ≤ 601024 ∧ n + 6 ≤ 7293033) ∧ am_C (d - 1) m_L_append [am_r l1, am_i (I l0 (Int.toNat (am_wr (l4 + 1)))), am_r l3] K N I P z (fun v K463 N464 I465 P466 z467 => am_iv v fun x468 =>
        (0 ≤ am_wr (l4 + 1) ∧ am_wr (l4 + 1) < N464 l0) ∧ (k + 1 + 0 ≤ 601024 ∧ n + 6 + 0 ≤ 7293033) ∧ K463 l2 = 8 ∧ am_C (d - 1) m_X8_append [am_r l2, am_i (I465 l0 (Int.toNat (am_wr (l4 + 1))))] K463 N464 I465 P466 z467 (fun v K469 N470 I471 P472 z473 => am_iv v fun x475 =>
        (k + 1 + 0 ≤ 601024 ∧ n + 6 + 0 ≤ 7293033) ∧ K469 l2 = 8 ∧ am_C (d - 1) m_X8_thrown [am_r l2] K469 N470 I471 P472 z473 (fun v K476 N477 I478 P479 z480 => am_iv v fun x482 =>
        ((x482 = x468 →
        ((¬ x468 = 0 →
          L_N_law_23 d (k + 1) (n + 6) l0 l1 l2 l3 (am_wr (l4 + 4)) K476 N477 I478 P479 z480 Q) ∧
          (x468 = 0 →
          K476 l3 = 14 ∧ (0 ≤ (0 : Int) ∧ (0 : Int) < N477 l3) ∧ ((I478 l3 0 = x475 →
            L_N_law_23 d (k + 1) (n + 6) l0 l1 l2 l3 (am_wr (l4 + 4)) K476 N477 I478 P479 z480 Q) ∧
            (¬ (I478 l3 0 = x475) →
            (k + 1 ≤ 601024 ∧ n + 6 ≤ 7293033) ∧ Q (am_i 0) K476 N477 I478 P479 z480))))) ∧
        (¬ (x482 = x468) →
        (k + 1 ≤ 601024 ∧ n + 6 ≤ 7293033) ∧ Q (am_i 0) K476 N477 I478 P479 z480))) am_nx) am_nx) am_nx) ∧
      (am_wr ((Int32.ofInt (I l0 (Int.toNat l4)) &&& Int32.ofInt 31).toInt) = 24 →
      (k + 0 ≤ 601024 ∧ n + 0 ≤ 7293033) ∧ K l1 = 7 ∧ am_C (d - 1) m_X7_clear [am_r l1] K N I P z (fun v K484 N485 I486 P487 z488 => am_iv v fun x490 =>
        (k + 0 ≤ 601024 ∧ n + 0 ≤ 7293033) ∧ K484 l2 = 8 ∧ am_C (d - 1) m_X8_clear [am_r l2] K484 N485 I486 P487 z488 (fun v K491 N492 I493 P494 z495 => am_iv v fun x497 =>
        ((x490 = x497 →
        L_N_law_23 d k n l0 l1 l2 l3 (am_wr (l4 + 4)) K491 N492 I493 P494 z495 Q) ∧
        (¬ (x490 = x497) →
        (k ≤ 601024 ∧ n ≤ 7293033) ∧ Q (am_i 0) K491 N492 I493 P494 z495))) am_nx) am_nx) ∧
      (am_wr ((Int32.ofInt (I l0 (Int.toNat l4)) &&& Int32.ofInt 31).toInt) = 25 →
      (k + 0 ≤ 601024 ∧ n + 0 ≤ 7293033) ∧ K l1 = 7 ∧ am_C (d - 1) m_X7_errorPosition [am_r l1] K N I P z (fun v K498 N499 I500 P501 z502 => am_iv v fun x504 =>
        (k + 0 ≤ 601024 ∧ n + 0 ≤ 7293033) ∧ K498 l2 = 8 ∧ am_C (d - 1) m_X8_errorPosition [am_r l2] K498 N499 I500 P501 z502 (fun v K505 N506 I507 P508 z509 => am_iv v fun x511 =>
        ((x504 = x511 →
        L_N_law_23 d k n l0 l1 l2 l3 (am_wr (l4 + 4)) K505 N506 I507 P508 z509 Q) ∧
        (¬ (x504 = x511) →
        (k ≤ 601024 ∧ n ≤ 7293033) ∧ Q (am_i 0) K505 N506 I507 P508 z509))) am_nx) am_nx) ∧
      (am_wr ((Int32.ofInt (I l0 (Int.toNat l4)) &&& Int32.ofInt 31).toInt) = 26 →
      (k + 5 ≤ 601024 ∧ n + 326 ≤ 7293033) ∧ am_C (d - 1) m_L_load [am_r l1, am_r l3] K N I P z (fun v K512 N513 I514 P515 z516 => am_iv v fun x517 =>
        (k + 5 + 0 ≤ 601024 ∧ n + 326 + 0 ≤ 7293033) ∧ K512 l2 = 8 ∧ am_C (d - 1) m_X8_load [am_r l2] K512 N513 I514 P515 z516 (fun v K518 N519 I520 P521 z522 => am_iv v fun x524 =>
        (k + 5 + 0 ≤ 601024 ∧ n + 326 + 0 ≤ 7293033) ∧ K518 l2 = 8 ∧ am_C (d - 1) m_X8_thrown [am_r l2] K518 N519 I520 P521 z522 (fun v K525 N526 I527 P528 z529 => am_iv v fun x531 =>
        ((x531 = x517 →
        ((¬ x517 = 0 →
          L_N_law_23 d (k + 5) (n + 326) l0 l1 l2 l3 (am_wr (l4 + 4)) K525 N526 I527 P528 z529 Q) ∧
          (x517 = 0 →
          K525 l3 = 14 ∧ (0 ≤ (0 : Int) ∧ (0 : Int) < N526 l3) ∧ ((I527 l3 0 = x524 →
            L_N_law_23 d (k + 5) (n + 326) l0 l1 l2 l3 (am_wr (l4 + 4)) K525 N526 I527 P528 z529 Q) ∧
            (¬ (I527 l3 0 = x524) →
            (k + 5 ≤ 601024 ∧ n + 326 ≤ 7293033) ∧ Q (am_i 0) K525 N526 I527 P528 z529))))) ∧
        (¬ (x531 = x517) →
        (k + 5 ≤ 601024 ∧ n + 326 ≤ 7293033) ∧ Q (am_i 0) K525 N526 I527 P528 z529))) am_nx) am_nx) am_nx) ∧
      ((am_wr ((Int32.ofInt (I l0 (Int.toNat l4)) &&& Int32.ofInt 31).toInt) < 0 ∨ 26 < am_wr ((Int32.ofInt (I l0 (Int.toNat l4)) &&& Int32.ofInt 31).toInt)) →
      L_N_law_23 d k n l0 l1 l2 l3 (am_wr (l4 + 4)) K N I P z Q))))) :
  L_N_law_23 d k n l0 l1 l2 l3 l4 K N I P z Q := by
  unfold L_N_law_23
  refine e_iload dL_law_23 rfl ?_
  refine e_aload_n dL_law_25 rfl trivial ?_
  obtain ⟨ha4, hn9, h⟩ := h
  refine e_alenC dL_law_26 ha4 hn9 ?_
  refine e_iconst dL_law_27 ?_
  refine e_isub dL_law_28 ?_
  refine e_icmp_gt (tgt := 1551) dL_law_29 (by decide) (fun hc => ?_) (fun hc => ?_)
  · replace h := h.1 hc
    refine e_iconst dL_law_1551 ?_
    obtain ⟨⟨hk9, hn9⟩, h⟩ := h
    exact e_ret_z dL_law_1552 rfl (by decide) hk9 hn9 h
  · replace h := h.2 hc
    refine e_aload_n dL_law_32 rfl trivial ?_
    refine e_iload dL_law_33 rfl ?_
    obtain ⟨⟨h0, h1⟩, h⟩ := h
    refine e_ialdC dL_law_35 ha4 h0 h1 ?_
    refine e_bipush dL_law_36 ?_
    refine e_iand dL_law_38 ?_
    refine e_tsw dL_law_39 (by decide) (by decide) (by decide) ?_ ?_
    · refine ⟨fun hc => ?_, ⟨fun hc => ?_, ⟨fun hc => ?_, ⟨fun hc => ?_, ⟨fun hc => ?_, ⟨fun hc => ?_, ⟨fun hc => ?_, ⟨fun hc => ?_, ⟨fun hc => ?_, ⟨fun hc => ?_, ⟨fun hc => ?_, ⟨fun hc => ?_, ⟨fun hc => ?_, ⟨fun hc => ?_, ⟨fun hc => ?_, ⟨fun hc => ?_, ⟨fun hc => ?_, ⟨fun hc => ?_, ⟨fun hc => ?_, ⟨fun hc => ?_, ⟨fun hc => ?_, ⟨fun hc => ?_, ⟨fun hc => ?_, ⟨fun hc => ?_, ⟨fun hc => ?_, ⟨fun hc => ?_, ⟨fun hc => ?_, trivial⟩⟩⟩⟩⟩⟩⟩⟩⟩⟩⟩⟩⟩⟩⟩⟩⟩⟩⟩⟩⟩⟩⟩⟩⟩⟩⟩
      · have h := h.1 (by omega)
        show am_E _ _ 160 _ _ _ _ _ _ _ _ _ _ _
        refine e_aload_n dL_law_160 rfl trivial ?_
        refine e_aload_n dL_law_161 rfl trivial ?_
        refine e_iload dL_law_162 rfl ?_
        refine e_iconst dL_law_164 ?_
        refine e_iadd dL_law_165 ?_
        obtain ⟨⟨h0, h1⟩, h⟩ := h
        refine e_ialdC dL_law_166 ha4 h0 h1 ?_
        refine e_aload_n dL_law_167 rfl trivial ?_
        refine e_iload dL_law_168 rfl ?_
        refine e_iconst dL_law_170 ?_
        refine e_iadd dL_law_171 ?_
        obtain ⟨⟨h0, h1⟩, h⟩ := h
        refine e_ialdC dL_law_172 ha4 h0 h1 ?_
        refine e_aload_n dL_law_173 rfl trivial ?_
        obtain ⟨⟨hk9, hn9⟩, h⟩ := h
        refine e_callSX (Mc := m_L_set) (vs := [am_r l1, am_i (I l0 (Int.toNat (am_wr (l4 + 1)))), am_i (I l0 (Int.toNat (am_wr (l4 + 2)))), am_r l3]) (st := []) dL_law_174 ok_L_set rfl mk_L_89 sm_L_set rfl rfl (by omega) (Nat.le_of_ble_eq_true rfl) hk9 hn9 am_xh_nx (am_C_mono h (fun v K1 N2 I3 P4 z5 h => ?_) (fun _ _ _ _ _ _ h => h))
        replace h := am_iv_or h
        obtain ⟨x6, rfl, h⟩ := h
        show am_E d m_L_law 177 (k + 1) (n + 6) _ [am_i x6] K1 N2 I3 P4 z5 Q am_nx
        refine e_istore dL_law_177 ?_
        refine e_aload_n dL_law_179 rfl trivial ?_
        refine e_aload_n dL_law_180 rfl trivial ?_
        refine e_iload dL_law_181 rfl ?_
        refine e_iconst dL_law_183 ?_
        refine e_iadd dL_law_184 ?_
        obtain ⟨⟨h0, h1⟩, h⟩ := h
        refine e_ialdC dL_law_185 ha4 h0 h1 ?_
        refine e_aload_n dL_law_186 rfl trivial ?_
        refine e_iload dL_law_187 rfl ?_
        refine e_iconst dL_law_189 ?_
        refine e_iadd dL_law_190 ?_
        obtain ⟨⟨h0, h1⟩, h⟩ := h
        refine e_ialdC dL_law_191 ha4 h0 h1 ?_
        obtain ⟨⟨hk9, hn9⟩, h⟩ := h
        obtain ⟨hK12, h⟩ := h
        refine e_callV (Mc := m_X8_set) (vs := [am_i (I3 l0 (Int.toNat (am_wr (l4 + 1)))), am_i (I3 l0 (Int.toNat (am_wr (l4 + 2))))]) (st := []) dL_law_192 ok_X8_set rfl ⟨by decide, rfl⟩ mk_L_94 im_X8_set sl_X8_set rfl rfl hK12 (by omega) (Nat.le_of_ble_eq_true rfl) hk9 hn9 am_xh_nx (am_C_mono h (fun v K7 N8 I9 P10 z11 h => ?_) (fun _ _ _ _ _ _ h => h))
        replace h := am_iv_or h
        obtain ⟨x13, rfl, h⟩ := h
        show am_E d m_L_law 195 (k + 1) (n + 6) _ [am_i x13] K7 N8 I9 P10 z11 Q am_nx
        refine e_istore dL_law_195 ?_
        refine e_aload_n dL_law_197 rfl trivial ?_
        obtain ⟨⟨hk9, hn9⟩, h⟩ := h
        obtain ⟨hK19, h⟩ := h
        refine e_callV (Mc := m_X8_thrown) (vs := []) (st := []) dL_law_198 ok_X8_thrown rfl ⟨by decide, rfl⟩ mk_L_95 im_X8_thrown sl_X8_thrown rfl rfl hK19 (by omega) (Nat.le_of_ble_eq_true rfl) hk9 hn9 am_xh_nx (am_C_mono h (fun v K14 N15 I16 P17 z18 h => ?_) (fun _ _ _ _ _ _ h => h))
        replace h := am_iv_or h
        obtain ⟨x20, rfl, h⟩ := h
        show am_E d m_L_law 201 (k + 1) (n + 6) _ [am_i x20] K14 N15 I16 P17 z18 Q am_nx
        refine e_iload dL_law_201 rfl ?_
        refine e_icmp_eq (tgt := 208) dL_law_203 (by decide) (fun hc => ?_) (fun hc => ?_)
        · replace h := h.1 hc
          refine e_iload dL_law_208 rfl ?_
          refine e_if_ne (tgt := 225) dL_law_210 (by decide) (fun hc => ?_) (fun hc => ?_)
          · replace h := h.1 hc
            refine e_goto (tgt := 1545) dL_law_225 (by decide) ?_
            refine e_iinc dL_law_1545 rfl ?_
            refine e_goto (tgt := 23) dL_law_1548 (by decide) ?_
            exact e_forget (am_sub_k (am_sub_k (am_sub_k (am_sub_k (am_sub_k (am_sub_d (am_sub_d (am_sub_d (am_sub_d am_sub_nil))))))))) h
          · replace h := h.2 hc
            refine e_aload_n dL_law_213 rfl trivial ?_
            refine e_iconst dL_law_214 ?_
            obtain ⟨hK21, h⟩ := h
            obtain ⟨⟨h0, h1⟩, h⟩ := h
            refine e_lald dL_law_215 hK21 h0 h1 ?_
            show am_E _ _ _ _ _ _ (am_j (I16 l3 0) :: _) _ _ _ _ _ _ _
            refine e_iload dL_law_216 rfl ?_
            refine e_i2l dL_law_218 ?_
            refine e_lcmp dL_law_219 (fun hc => ?_) (fun hc v hv => ?_)
            · replace h := h.1 hc
              refine e_if_eq (tgt := 225) dL_law_220 (by decide) (fun _ => ?_) (fun q => absurd rfl q)
              refine e_goto (tgt := 1545) dL_law_225 (by decide) ?_
              refine e_iinc dL_law_1545 rfl ?_
              refine e_goto (tgt := 23) dL_law_1548 (by decide) ?_
              exact e_forget (am_sub_k (am_sub_k (am_sub_k (am_sub_k (am_sub_k (am_sub_d (am_sub_d (am_sub_d (am_sub_d am_sub_nil))))))))) h
            · replace h := h.2 hc
              refine e_if_eq (tgt := 225) dL_law_220 (by decide) (fun q => absurd q hv) (fun _ => ?_)
              refine e_iconst dL_law_223 ?_
              obtain ⟨⟨hk9, hn9⟩, h⟩ := h
              exact e_ret_z dL_law_224 rfl (by decide) hk9 hn9 h
        · replace h := h.2 hc
          refine e_iconst dL_law_206 ?_
          obtain ⟨⟨hk9, hn9⟩, h⟩ := h
          exact e_ret_z dL_law_207 rfl (by decide) hk9 hn9 h
      · have h := h.2.1 (by omega)
        show am_E _ _ 228 _ _ _ _ _ _ _ _ _ _ _
        refine e_aload_n dL_law_228 rfl trivial ?_
        refine e_aload_n dL_law_229 rfl trivial ?_
        refine e_iload dL_law_230 rfl ?_
        refine e_iconst dL_law_232 ?_
        refine e_iadd dL_law_233 ?_
        obtain ⟨⟨h0, h1⟩, h⟩ := h
        refine e_ialdC dL_law_234 ha4 h0 h1 ?_
        refine e_aload_n dL_law_235 rfl trivial ?_
        refine e_iload dL_law_236 rfl ?_
        refine e_iconst dL_law_238 ?_
        refine e_iadd dL_law_239 ?_
        obtain ⟨⟨h0, h1⟩, h⟩ := h
        refine e_ialdC dL_law_240 ha4 h0 h1 ?_
        refine e_aload_n dL_law_241 rfl trivial ?_
        refine e_iload dL_law_242 rfl ?_
        refine e_iconst dL_law_244 ?_
        refine e_iadd dL_law_245 ?_
        obtain ⟨⟨h0, h1⟩, h⟩ := h
        refine e_ialdC dL_law_246 ha4 h0 h1 ?_
        refine e_aload_n dL_law_247 rfl trivial ?_
        obtain ⟨⟨hk9, hn9⟩, h⟩ := h
        refine e_callSX (Mc := m_L_addLane) (vs := [am_r l1, am_i (I l0 (Int.toNat (am_wr (l4 + 1)))), am_i (I l0 (Int.toNat (am_wr (l4 + 2)))), am_i (I l0 (Int.toNat (am_wr (l4 + 3)))), am_r l3]) (st := []) dL_law_248 ok_L_addLane rfl mk_L_98 sm_L_addLane rfl rfl (by omega) (Nat.le_of_ble_eq_true rfl) hk9 hn9 am_xh_nx (am_C_mono h (fun v K22 N23 I24 P25 z26 h => ?_) (fun _ _ _ _ _ _ h => h))
        replace h := am_iv_or h
        obtain ⟨x27, rfl, h⟩ := h
        show am_E d m_L_law 251 (k + 1) (n + 6) _ [am_i x27] K22 N23 I24 P25 z26 Q am_nx
        refine e_istore dL_law_251 ?_
        refine e_aload_n dL_law_253 rfl trivial ?_
        refine e_aload_n dL_law_254 rfl trivial ?_
        refine e_iload dL_law_255 rfl ?_
        refine e_iconst dL_law_257 ?_
        refine e_iadd dL_law_258 ?_
        obtain ⟨⟨h0, h1⟩, h⟩ := h
        refine e_ialdC dL_law_259 ha4 h0 h1 ?_
        refine e_aload_n dL_law_260 rfl trivial ?_
        refine e_iload dL_law_261 rfl ?_
        refine e_iconst dL_law_263 ?_
        refine e_iadd dL_law_264 ?_
        obtain ⟨⟨h0, h1⟩, h⟩ := h
        refine e_ialdC dL_law_265 ha4 h0 h1 ?_
        refine e_aload_n dL_law_266 rfl trivial ?_
        refine e_iload dL_law_267 rfl ?_
        refine e_iconst dL_law_269 ?_
        refine e_iadd dL_law_270 ?_
        obtain ⟨⟨h0, h1⟩, h⟩ := h
        refine e_ialdC dL_law_271 ha4 h0 h1 ?_
        obtain ⟨⟨hk9, hn9⟩, h⟩ := h
        obtain ⟨hK33, h⟩ := h
        refine e_callV (Mc := m_X8_addLane) (vs := [am_i (I24 l0 (Int.toNat (am_wr (l4 + 1)))), am_i (I24 l0 (Int.toNat (am_wr (l4 + 2)))), am_i (I24 l0 (Int.toNat (am_wr (l4 + 3))))]) (st := []) dL_law_272 ok_X8_addLane rfl ⟨by decide, rfl⟩ mk_L_101 im_X8_addLane sl_X8_addLane rfl rfl hK33 (by omega) (Nat.le_of_ble_eq_true rfl) hk9 hn9 am_xh_nx (am_C_mono h (fun v K28 N29 I30 P31 z32 h => ?_) (fun _ _ _ _ _ _ h => h))
        replace h := am_iv_or h
        obtain ⟨x34, rfl, h⟩ := h
        show am_E d m_L_law 275 (k + 1) (n + 6) _ [am_i x34] K28 N29 I30 P31 z32 Q am_nx
        refine e_istore dL_law_275 ?_
        refine e_aload_n dL_law_277 rfl trivial ?_
        obtain ⟨⟨hk9, hn9⟩, h⟩ := h
        obtain ⟨hK40, h⟩ := h
        refine e_callV (Mc := m_X8_thrown) (vs := []) (st := []) dL_law_278 ok_X8_thrown rfl ⟨by decide, rfl⟩ mk_L_95 im_X8_thrown sl_X8_thrown rfl rfl hK40 (by omega) (Nat.le_of_ble_eq_true rfl) hk9 hn9 am_xh_nx (am_C_mono h (fun v K35 N36 I37 P38 z39 h => ?_) (fun _ _ _ _ _ _ h => h))
        replace h := am_iv_or h
        obtain ⟨x41, rfl, h⟩ := h
        show am_E d m_L_law 281 (k + 1) (n + 6) _ [am_i x41] K35 N36 I37 P38 z39 Q am_nx
        refine e_iload dL_law_281 rfl ?_
        refine e_icmp_eq (tgt := 288) dL_law_283 (by decide) (fun hc => ?_) (fun hc => ?_)
        · replace h := h.1 hc
          refine e_iload dL_law_288 rfl ?_
          refine e_if_ne (tgt := 305) dL_law_290 (by decide) (fun hc => ?_) (fun hc => ?_)
          · replace h := h.1 hc
            refine e_goto (tgt := 1545) dL_law_305 (by decide) ?_
            refine e_iinc dL_law_1545 rfl ?_
            refine e_goto (tgt := 23) dL_law_1548 (by decide) ?_
            exact e_forget (am_sub_k (am_sub_k (am_sub_k (am_sub_k (am_sub_k (am_sub_d (am_sub_d (am_sub_d (am_sub_d am_sub_nil))))))))) h
          · replace h := h.2 hc
            refine e_aload_n dL_law_293 rfl trivial ?_
            refine e_iconst dL_law_294 ?_
            obtain ⟨hK42, h⟩ := h
            obtain ⟨⟨h0, h1⟩, h⟩ := h
            refine e_lald dL_law_295 hK42 h0 h1 ?_
            show am_E _ _ _ _ _ _ (am_j (I37 l3 0) :: _) _ _ _ _ _ _ _
            refine e_iload dL_law_296 rfl ?_
            refine e_i2l dL_law_298 ?_
            refine e_lcmp dL_law_299 (fun hc => ?_) (fun hc v hv => ?_)
            · replace h := h.1 hc
              refine e_if_eq (tgt := 305) dL_law_300 (by decide) (fun _ => ?_) (fun q => absurd rfl q)
              refine e_goto (tgt := 1545) dL_law_305 (by decide) ?_
              refine e_iinc dL_law_1545 rfl ?_
              refine e_goto (tgt := 23) dL_law_1548 (by decide) ?_
              exact e_forget (am_sub_k (am_sub_k (am_sub_k (am_sub_k (am_sub_k (am_sub_d (am_sub_d (am_sub_d (am_sub_d am_sub_nil))))))))) h
            · replace h := h.2 hc
              refine e_if_eq (tgt := 305) dL_law_300 (by decide) (fun q => absurd q hv) (fun _ => ?_)
              refine e_iconst dL_law_303 ?_
              obtain ⟨⟨hk9, hn9⟩, h⟩ := h
              exact e_ret_z dL_law_304 rfl (by decide) hk9 hn9 h
        · replace h := h.2 hc
          refine e_iconst dL_law_286 ?_
          obtain ⟨⟨hk9, hn9⟩, h⟩ := h
          exact e_ret_z dL_law_287 rfl (by decide) hk9 hn9 h
      · have h := h.2.2.1 (by omega)
        show am_E _ _ 308 _ _ _ _ _ _ _ _ _ _ _
        refine e_aload_n dL_law_308 rfl trivial ?_
        refine e_aload_n dL_law_309 rfl trivial ?_
        refine e_iload dL_law_310 rfl ?_
        refine e_iconst dL_law_312 ?_
        refine e_iadd dL_law_313 ?_
        obtain ⟨⟨h0, h1⟩, h⟩ := h
        refine e_ialdC dL_law_314 ha4 h0 h1 ?_
        refine e_aload_n dL_law_315 rfl trivial ?_
        obtain ⟨⟨hk9, hn9⟩, h⟩ := h
        refine e_callSX (Mc := m_L_emptyLane) (vs := [am_r l1, am_i (I l0 (Int.toNat (am_wr (l4 + 1)))), am_r l3]) (st := []) dL_law_316 ok_L_emptyLane rfl mk_L_102 sm_L_emptyLane rfl rfl (by omega) (Nat.le_of_ble_eq_true rfl) hk9 hn9 am_xh_nx (am_C_mono h (fun v K43 N44 I45 P46 z47 h => ?_) (fun _ _ _ _ _ _ h => h))
        replace h := am_iv_or h
        obtain ⟨x48, rfl, h⟩ := h
        show am_E d m_L_law 319 (k + 1) (n + 6) _ [am_i x48] K43 N44 I45 P46 z47 Q am_nx
        refine e_istore dL_law_319 ?_
        refine e_aload_n dL_law_321 rfl trivial ?_
        refine e_aload_n dL_law_322 rfl trivial ?_
        refine e_iload dL_law_323 rfl ?_
        refine e_iconst dL_law_325 ?_
        refine e_iadd dL_law_326 ?_
        obtain ⟨⟨h0, h1⟩, h⟩ := h
        refine e_ialdC dL_law_327 ha4 h0 h1 ?_
        obtain ⟨⟨hk9, hn9⟩, h⟩ := h
        obtain ⟨hK54, h⟩ := h
        refine e_callV (Mc := m_X8_emptyLane) (vs := [am_i (I45 l0 (Int.toNat (am_wr (l4 + 1))))]) (st := []) dL_law_328 ok_X8_emptyLane rfl ⟨by decide, rfl⟩ mk_L_105 im_X8_emptyLane sl_X8_emptyLane rfl rfl hK54 (by omega) (Nat.le_of_ble_eq_true rfl) hk9 hn9 am_xh_nx (am_C_mono h (fun v K49 N50 I51 P52 z53 h => ?_) (fun _ _ _ _ _ _ h => h))
        replace h := am_iv_or h
        obtain ⟨x55, rfl, h⟩ := h
        show am_E d m_L_law 331 (k + 1) (n + 6) _ [am_i x55] K49 N50 I51 P52 z53 Q am_nx
        refine e_istore dL_law_331 ?_
        refine e_aload_n dL_law_333 rfl trivial ?_
        obtain ⟨⟨hk9, hn9⟩, h⟩ := h
        obtain ⟨hK61, h⟩ := h
        refine e_callV (Mc := m_X8_thrown) (vs := []) (st := []) dL_law_334 ok_X8_thrown rfl ⟨by decide, rfl⟩ mk_L_95 im_X8_thrown sl_X8_thrown rfl rfl hK61 (by omega) (Nat.le_of_ble_eq_true rfl) hk9 hn9 am_xh_nx (am_C_mono h (fun v K56 N57 I58 P59 z60 h => ?_) (fun _ _ _ _ _ _ h => h))
        replace h := am_iv_or h
        obtain ⟨x62, rfl, h⟩ := h
        show am_E d m_L_law 337 (k + 1) (n + 6) _ [am_i x62] K56 N57 I58 P59 z60 Q am_nx
        refine e_iload dL_law_337 rfl ?_
        refine e_icmp_eq (tgt := 344) dL_law_339 (by decide) (fun hc => ?_) (fun hc => ?_)
        · replace h := h.1 hc
          refine e_iload dL_law_344 rfl ?_
          refine e_if_ne (tgt := 361) dL_law_346 (by decide) (fun hc => ?_) (fun hc => ?_)
          · replace h := h.1 hc
            refine e_goto (tgt := 1545) dL_law_361 (by decide) ?_
            refine e_iinc dL_law_1545 rfl ?_
            refine e_goto (tgt := 23) dL_law_1548 (by decide) ?_
            exact e_forget (am_sub_k (am_sub_k (am_sub_k (am_sub_k (am_sub_k (am_sub_d (am_sub_d (am_sub_d (am_sub_d am_sub_nil))))))))) h
          · replace h := h.2 hc
            refine e_aload_n dL_law_349 rfl trivial ?_
            refine e_iconst dL_law_350 ?_
            obtain ⟨hK63, h⟩ := h
            obtain ⟨⟨h0, h1⟩, h⟩ := h
            refine e_lald dL_law_351 hK63 h0 h1 ?_
            show am_E _ _ _ _ _ _ (am_j (I58 l3 0) :: _) _ _ _ _ _ _ _
            refine e_iload dL_law_352 rfl ?_
            refine e_i2l dL_law_354 ?_
            refine e_lcmp dL_law_355 (fun hc => ?_) (fun hc v hv => ?_)
            · replace h := h.1 hc
              refine e_if_eq (tgt := 361) dL_law_356 (by decide) (fun _ => ?_) (fun q => absurd rfl q)
              refine e_goto (tgt := 1545) dL_law_361 (by decide) ?_
              refine e_iinc dL_law_1545 rfl ?_
              refine e_goto (tgt := 23) dL_law_1548 (by decide) ?_
              exact e_forget (am_sub_k (am_sub_k (am_sub_k (am_sub_k (am_sub_k (am_sub_d (am_sub_d (am_sub_d (am_sub_d am_sub_nil))))))))) h
            · replace h := h.2 hc
              refine e_if_eq (tgt := 361) dL_law_356 (by decide) (fun q => absurd q hv) (fun _ => ?_)
              refine e_iconst dL_law_359 ?_
              obtain ⟨⟨hk9, hn9⟩, h⟩ := h
              exact e_ret_z dL_law_360 rfl (by decide) hk9 hn9 h
        · replace h := h.2 hc
          refine e_iconst dL_law_342 ?_
          obtain ⟨⟨hk9, hn9⟩, h⟩ := h
          exact e_ret_z dL_law_343 rfl (by decide) hk9 hn9 h
      · have h := h.2.2.2.1 (by omega)
        show am_E _ _ 364 _ _ _ _ _ _ _ _ _ _ _
        refine e_aload_n dL_law_364 rfl trivial ?_
        refine e_aload_n dL_law_365 rfl trivial ?_
        refine e_iload dL_law_366 rfl ?_
        refine e_iconst dL_law_368 ?_
        refine e_iadd dL_law_369 ?_
        obtain ⟨⟨h0, h1⟩, h⟩ := h
        refine e_ialdC dL_law_370 ha4 h0 h1 ?_
        refine e_aload_n dL_law_371 rfl trivial ?_
        refine e_iload dL_law_372 rfl ?_
        refine e_iconst dL_law_374 ?_
        refine e_iadd dL_law_375 ?_
        obtain ⟨⟨h0, h1⟩, h⟩ := h
        refine e_ialdC dL_law_376 ha4 h0 h1 ?_
        refine e_aload_n dL_law_377 rfl trivial ?_
        obtain ⟨⟨hk9, hn9⟩, h⟩ := h
        refine e_callSX (Mc := m_L_route) (vs := [am_r l1, am_i (I l0 (Int.toNat (am_wr (l4 + 1)))), am_i (I l0 (Int.toNat (am_wr (l4 + 2)))), am_r l3]) (st := []) dL_law_378 ok_L_route rfl mk_L_106 sm_L_route rfl rfl (by omega) (Nat.le_of_ble_eq_true rfl) hk9 hn9 am_xh_nx (am_C_mono h (fun v K64 N65 I66 P67 z68 h => ?_) (fun _ _ _ _ _ _ h => h))
        replace h := am_iv_or h
        obtain ⟨x69, rfl, h⟩ := h
        show am_E d m_L_law 381 (k + 1) (n + 6) _ [am_i x69] K64 N65 I66 P67 z68 Q am_nx
        refine e_istore dL_law_381 ?_
        refine e_aload_n dL_law_383 rfl trivial ?_
        refine e_aload_n dL_law_384 rfl trivial ?_
        refine e_iload dL_law_385 rfl ?_
        refine e_iconst dL_law_387 ?_
        refine e_iadd dL_law_388 ?_
        obtain ⟨⟨h0, h1⟩, h⟩ := h
        refine e_ialdC dL_law_389 ha4 h0 h1 ?_
        refine e_aload_n dL_law_390 rfl trivial ?_
        refine e_iload dL_law_391 rfl ?_
        refine e_iconst dL_law_393 ?_
        refine e_iadd dL_law_394 ?_
        obtain ⟨⟨h0, h1⟩, h⟩ := h
        refine e_ialdC dL_law_395 ha4 h0 h1 ?_
        obtain ⟨⟨hk9, hn9⟩, h⟩ := h
        obtain ⟨hK75, h⟩ := h
        refine e_callV (Mc := m_X8_route) (vs := [am_i (I66 l0 (Int.toNat (am_wr (l4 + 1)))), am_i (I66 l0 (Int.toNat (am_wr (l4 + 2))))]) (st := []) dL_law_396 ok_X8_route rfl ⟨by decide, rfl⟩ mk_L_108 im_X8_route sl_X8_route rfl rfl hK75 (by omega) (Nat.le_of_ble_eq_true rfl) hk9 hn9 am_xh_nx (am_C_mono h (fun v K70 N71 I72 P73 z74 h => ?_) (fun _ _ _ _ _ _ h => h))
        replace h := am_iv_or h
        obtain ⟨x76, rfl, h⟩ := h
        show am_E d m_L_law 399 (k + 1) (n + 6) _ [am_i x76] K70 N71 I72 P73 z74 Q am_nx
        refine e_istore dL_law_399 ?_
        refine e_aload_n dL_law_401 rfl trivial ?_
        obtain ⟨⟨hk9, hn9⟩, h⟩ := h
        obtain ⟨hK82, h⟩ := h
        refine e_callV (Mc := m_X8_thrown) (vs := []) (st := []) dL_law_402 ok_X8_thrown rfl ⟨by decide, rfl⟩ mk_L_95 im_X8_thrown sl_X8_thrown rfl rfl hK82 (by omega) (Nat.le_of_ble_eq_true rfl) hk9 hn9 am_xh_nx (am_C_mono h (fun v K77 N78 I79 P80 z81 h => ?_) (fun _ _ _ _ _ _ h => h))
        replace h := am_iv_or h
        obtain ⟨x83, rfl, h⟩ := h
        show am_E d m_L_law 405 (k + 1) (n + 6) _ [am_i x83] K77 N78 I79 P80 z81 Q am_nx
        refine e_iload dL_law_405 rfl ?_
        refine e_icmp_eq (tgt := 412) dL_law_407 (by decide) (fun hc => ?_) (fun hc => ?_)
        · replace h := h.1 hc
          refine e_iload dL_law_412 rfl ?_
          refine e_if_ne (tgt := 429) dL_law_414 (by decide) (fun hc => ?_) (fun hc => ?_)
          · replace h := h.1 hc
            refine e_goto (tgt := 1545) dL_law_429 (by decide) ?_
            refine e_iinc dL_law_1545 rfl ?_
            refine e_goto (tgt := 23) dL_law_1548 (by decide) ?_
            exact e_forget (am_sub_k (am_sub_k (am_sub_k (am_sub_k (am_sub_k (am_sub_d (am_sub_d (am_sub_d (am_sub_d am_sub_nil))))))))) h
          · replace h := h.2 hc
            refine e_aload_n dL_law_417 rfl trivial ?_
            refine e_iconst dL_law_418 ?_
            obtain ⟨hK84, h⟩ := h
            obtain ⟨⟨h0, h1⟩, h⟩ := h
            refine e_lald dL_law_419 hK84 h0 h1 ?_
            show am_E _ _ _ _ _ _ (am_j (I79 l3 0) :: _) _ _ _ _ _ _ _
            refine e_iload dL_law_420 rfl ?_
            refine e_i2l dL_law_422 ?_
            refine e_lcmp dL_law_423 (fun hc => ?_) (fun hc v hv => ?_)
            · replace h := h.1 hc
              refine e_if_eq (tgt := 429) dL_law_424 (by decide) (fun _ => ?_) (fun q => absurd rfl q)
              refine e_goto (tgt := 1545) dL_law_429 (by decide) ?_
              refine e_iinc dL_law_1545 rfl ?_
              refine e_goto (tgt := 23) dL_law_1548 (by decide) ?_
              exact e_forget (am_sub_k (am_sub_k (am_sub_k (am_sub_k (am_sub_k (am_sub_d (am_sub_d (am_sub_d (am_sub_d am_sub_nil))))))))) h
            · replace h := h.2 hc
              refine e_if_eq (tgt := 429) dL_law_424 (by decide) (fun q => absurd q hv) (fun _ => ?_)
              refine e_iconst dL_law_427 ?_
              obtain ⟨⟨hk9, hn9⟩, h⟩ := h
              exact e_ret_z dL_law_428 rfl (by decide) hk9 hn9 h
        · replace h := h.2 hc
          refine e_iconst dL_law_410 ?_
          obtain ⟨⟨hk9, hn9⟩, h⟩ := h
          exact e_ret_z dL_law_411 rfl (by decide) hk9 hn9 h
      · have h := h.2.2.2.2.1 (by omega)
        show am_E _ _ 432 _ _ _ _ _ _ _ _ _ _ _
        refine e_aload_n dL_law_432 rfl trivial ?_
        refine e_aload_n dL_law_433 rfl trivial ?_
        refine e_iload dL_law_434 rfl ?_
        refine e_iconst dL_law_436 ?_
        refine e_iadd dL_law_437 ?_
        obtain ⟨⟨h0, h1⟩, h⟩ := h
        refine e_ialdC dL_law_438 ha4 h0 h1 ?_
        refine e_aload_n dL_law_439 rfl trivial ?_
        obtain ⟨⟨hk9, hn9⟩, h⟩ := h
        refine e_callSX (Mc := m_L_removeRoute) (vs := [am_r l1, am_i (I l0 (Int.toNat (am_wr (l4 + 1)))), am_r l3]) (st := []) dL_law_440 ok_L_removeRoute rfl mk_L_109 sm_L_removeRoute rfl rfl (by omega) (Nat.le_of_ble_eq_true rfl) hk9 hn9 am_xh_nx (am_C_mono h (fun v K85 N86 I87 P88 z89 h => ?_) (fun _ _ _ _ _ _ h => h))
        replace h := am_iv_or h
        obtain ⟨x90, rfl, h⟩ := h
        show am_E d m_L_law 443 (k + 1) (n + 6) _ [am_i x90] K85 N86 I87 P88 z89 Q am_nx
        refine e_istore dL_law_443 ?_
        refine e_aload_n dL_law_445 rfl trivial ?_
        refine e_aload_n dL_law_446 rfl trivial ?_
        refine e_iload dL_law_447 rfl ?_
        refine e_iconst dL_law_449 ?_
        refine e_iadd dL_law_450 ?_
        obtain ⟨⟨h0, h1⟩, h⟩ := h
        refine e_ialdC dL_law_451 ha4 h0 h1 ?_
        obtain ⟨⟨hk9, hn9⟩, h⟩ := h
        obtain ⟨hK96, h⟩ := h
        refine e_callV (Mc := m_X8_removeRoute) (vs := [am_i (I87 l0 (Int.toNat (am_wr (l4 + 1))))]) (st := []) dL_law_452 ok_X8_removeRoute rfl ⟨by decide, rfl⟩ mk_L_111 im_X8_removeRoute sl_X8_removeRoute rfl rfl hK96 (by omega) (Nat.le_of_ble_eq_true rfl) hk9 hn9 am_xh_nx (am_C_mono h (fun v K91 N92 I93 P94 z95 h => ?_) (fun _ _ _ _ _ _ h => h))
        replace h := am_iv_or h
        obtain ⟨x97, rfl, h⟩ := h
        show am_E d m_L_law 455 (k + 1) (n + 6) _ [am_i x97] K91 N92 I93 P94 z95 Q am_nx
        refine e_istore dL_law_455 ?_
        refine e_aload_n dL_law_457 rfl trivial ?_
        obtain ⟨⟨hk9, hn9⟩, h⟩ := h
        obtain ⟨hK103, h⟩ := h
        refine e_callV (Mc := m_X8_thrown) (vs := []) (st := []) dL_law_458 ok_X8_thrown rfl ⟨by decide, rfl⟩ mk_L_95 im_X8_thrown sl_X8_thrown rfl rfl hK103 (by omega) (Nat.le_of_ble_eq_true rfl) hk9 hn9 am_xh_nx (am_C_mono h (fun v K98 N99 I100 P101 z102 h => ?_) (fun _ _ _ _ _ _ h => h))
        replace h := am_iv_or h
        obtain ⟨x104, rfl, h⟩ := h
        show am_E d m_L_law 461 (k + 1) (n + 6) _ [am_i x104] K98 N99 I100 P101 z102 Q am_nx
        refine e_iload dL_law_461 rfl ?_
        refine e_icmp_eq (tgt := 468) dL_law_463 (by decide) (fun hc => ?_) (fun hc => ?_)
        · replace h := h.1 hc
          refine e_iload dL_law_468 rfl ?_
          refine e_if_ne (tgt := 485) dL_law_470 (by decide) (fun hc => ?_) (fun hc => ?_)
          · replace h := h.1 hc
            refine e_goto (tgt := 1545) dL_law_485 (by decide) ?_
            refine e_iinc dL_law_1545 rfl ?_
            refine e_goto (tgt := 23) dL_law_1548 (by decide) ?_
            exact e_forget (am_sub_k (am_sub_k (am_sub_k (am_sub_k (am_sub_k (am_sub_d (am_sub_d (am_sub_d (am_sub_d am_sub_nil))))))))) h
          · replace h := h.2 hc
            refine e_aload_n dL_law_473 rfl trivial ?_
            refine e_iconst dL_law_474 ?_
            obtain ⟨hK105, h⟩ := h
            obtain ⟨⟨h0, h1⟩, h⟩ := h
            refine e_lald dL_law_475 hK105 h0 h1 ?_
            show am_E _ _ _ _ _ _ (am_j (I100 l3 0) :: _) _ _ _ _ _ _ _
            refine e_iload dL_law_476 rfl ?_
            refine e_i2l dL_law_478 ?_
            refine e_lcmp dL_law_479 (fun hc => ?_) (fun hc v hv => ?_)
            · replace h := h.1 hc
              refine e_if_eq (tgt := 485) dL_law_480 (by decide) (fun _ => ?_) (fun q => absurd rfl q)
              refine e_goto (tgt := 1545) dL_law_485 (by decide) ?_
              refine e_iinc dL_law_1545 rfl ?_
              refine e_goto (tgt := 23) dL_law_1548 (by decide) ?_
              exact e_forget (am_sub_k (am_sub_k (am_sub_k (am_sub_k (am_sub_k (am_sub_d (am_sub_d (am_sub_d (am_sub_d am_sub_nil))))))))) h
            · replace h := h.2 hc
              refine e_if_eq (tgt := 485) dL_law_480 (by decide) (fun q => absurd q hv) (fun _ => ?_)
              refine e_iconst dL_law_483 ?_
              obtain ⟨⟨hk9, hn9⟩, h⟩ := h
              exact e_ret_z dL_law_484 rfl (by decide) hk9 hn9 h
        · replace h := h.2 hc
          refine e_iconst dL_law_466 ?_
          obtain ⟨⟨hk9, hn9⟩, h⟩ := h
          exact e_ret_z dL_law_467 rfl (by decide) hk9 hn9 h
      · have h := h.2.2.2.2.2.1 (by omega)
        show am_E _ _ 488 _ _ _ _ _ _ _ _ _ _ _
        refine e_aload_n dL_law_488 rfl trivial ?_
        refine e_aload_n dL_law_489 rfl trivial ?_
        refine e_iload dL_law_490 rfl ?_
        refine e_iconst dL_law_492 ?_
        refine e_iadd dL_law_493 ?_
        obtain ⟨⟨h0, h1⟩, h⟩ := h
        refine e_ialdC dL_law_494 ha4 h0 h1 ?_
        refine e_aload_n dL_law_495 rfl trivial ?_
        obtain ⟨⟨hk9, hn9⟩, h⟩ := h
        refine e_callSX (Mc := m_L_enter) (vs := [am_r l1, am_i (I l0 (Int.toNat (am_wr (l4 + 1)))), am_r l3]) (st := []) dL_law_496 ok_L_enter rfl mk_L_112 sm_L_enter rfl rfl (by omega) (Nat.le_of_ble_eq_true rfl) hk9 hn9 am_xh_nx (am_C_mono h (fun v K106 N107 I108 P109 z110 h => ?_) (fun _ _ _ _ _ _ h => h))
        replace h := am_iv_or h
        obtain ⟨x111, rfl, h⟩ := h
        show am_E d m_L_law 499 (k + 1) (n + 6) _ [am_i x111] K106 N107 I108 P109 z110 Q am_nx
        refine e_istore dL_law_499 ?_
        refine e_aload_n dL_law_501 rfl trivial ?_
        refine e_aload_n dL_law_502 rfl trivial ?_
        refine e_iload dL_law_503 rfl ?_
        refine e_iconst dL_law_505 ?_
        refine e_iadd dL_law_506 ?_
        obtain ⟨⟨h0, h1⟩, h⟩ := h
        refine e_ialdC dL_law_507 ha4 h0 h1 ?_
        obtain ⟨⟨hk9, hn9⟩, h⟩ := h
        obtain ⟨hK117, h⟩ := h
        refine e_callV (Mc := m_X8_enter) (vs := [am_i (I108 l0 (Int.toNat (am_wr (l4 + 1))))]) (st := []) dL_law_508 ok_X8_enter rfl ⟨by decide, rfl⟩ mk_L_114 im_X8_enter sl_X8_enter rfl rfl hK117 (by omega) (Nat.le_of_ble_eq_true rfl) hk9 hn9 am_xh_nx (am_C_mono h (fun v K112 N113 I114 P115 z116 h => ?_) (fun _ _ _ _ _ _ h => h))
        replace h := am_iv_or h
        obtain ⟨x118, rfl, h⟩ := h
        show am_E d m_L_law 511 (k + 1) (n + 6) _ [am_i x118] K112 N113 I114 P115 z116 Q am_nx
        refine e_istore dL_law_511 ?_
        refine e_aload_n dL_law_513 rfl trivial ?_
        obtain ⟨⟨hk9, hn9⟩, h⟩ := h
        obtain ⟨hK124, h⟩ := h
        refine e_callV (Mc := m_X8_thrown) (vs := []) (st := []) dL_law_514 ok_X8_thrown rfl ⟨by decide, rfl⟩ mk_L_95 im_X8_thrown sl_X8_thrown rfl rfl hK124 (by omega) (Nat.le_of_ble_eq_true rfl) hk9 hn9 am_xh_nx (am_C_mono h (fun v K119 N120 I121 P122 z123 h => ?_) (fun _ _ _ _ _ _ h => h))
        replace h := am_iv_or h
        obtain ⟨x125, rfl, h⟩ := h
        show am_E d m_L_law 517 (k + 1) (n + 6) _ [am_i x125] K119 N120 I121 P122 z123 Q am_nx
        refine e_iload dL_law_517 rfl ?_
        refine e_icmp_eq (tgt := 524) dL_law_519 (by decide) (fun hc => ?_) (fun hc => ?_)
        · replace h := h.1 hc
          refine e_iload dL_law_524 rfl ?_
          refine e_if_ne (tgt := 541) dL_law_526 (by decide) (fun hc => ?_) (fun hc => ?_)
          · replace h := h.1 hc
            refine e_goto (tgt := 1545) dL_law_541 (by decide) ?_
            refine e_iinc dL_law_1545 rfl ?_
            refine e_goto (tgt := 23) dL_law_1548 (by decide) ?_
            exact e_forget (am_sub_k (am_sub_k (am_sub_k (am_sub_k (am_sub_k (am_sub_d (am_sub_d (am_sub_d (am_sub_d am_sub_nil))))))))) h
          · replace h := h.2 hc
            refine e_aload_n dL_law_529 rfl trivial ?_
            refine e_iconst dL_law_530 ?_
            obtain ⟨hK126, h⟩ := h
            obtain ⟨⟨h0, h1⟩, h⟩ := h
            refine e_lald dL_law_531 hK126 h0 h1 ?_
            show am_E _ _ _ _ _ _ (am_j (I121 l3 0) :: _) _ _ _ _ _ _ _
            refine e_iload dL_law_532 rfl ?_
            refine e_i2l dL_law_534 ?_
            refine e_lcmp dL_law_535 (fun hc => ?_) (fun hc v hv => ?_)
            · replace h := h.1 hc
              refine e_if_eq (tgt := 541) dL_law_536 (by decide) (fun _ => ?_) (fun q => absurd rfl q)
              refine e_goto (tgt := 1545) dL_law_541 (by decide) ?_
              refine e_iinc dL_law_1545 rfl ?_
              refine e_goto (tgt := 23) dL_law_1548 (by decide) ?_
              exact e_forget (am_sub_k (am_sub_k (am_sub_k (am_sub_k (am_sub_k (am_sub_d (am_sub_d (am_sub_d (am_sub_d am_sub_nil))))))))) h
            · replace h := h.2 hc
              refine e_if_eq (tgt := 541) dL_law_536 (by decide) (fun q => absurd q hv) (fun _ => ?_)
              refine e_iconst dL_law_539 ?_
              obtain ⟨⟨hk9, hn9⟩, h⟩ := h
              exact e_ret_z dL_law_540 rfl (by decide) hk9 hn9 h
        · replace h := h.2 hc
          refine e_iconst dL_law_522 ?_
          obtain ⟨⟨hk9, hn9⟩, h⟩ := h
          exact e_ret_z dL_law_523 rfl (by decide) hk9 hn9 h
      · have h := h.2.2.2.2.2.2.1 (by omega)
        show am_E _ _ 544 _ _ _ _ _ _ _ _ _ _ _
        refine e_aload_n dL_law_544 rfl trivial ?_
        refine e_aload_n dL_law_545 rfl trivial ?_
        refine e_iload dL_law_546 rfl ?_
        refine e_iconst dL_law_548 ?_
        refine e_iadd dL_law_549 ?_
        obtain ⟨⟨h0, h1⟩, h⟩ := h
        refine e_ialdC dL_law_550 ha4 h0 h1 ?_
        refine e_aload_n dL_law_551 rfl trivial ?_
        obtain ⟨⟨hk9, hn9⟩, h⟩ := h
        refine e_callSX (Mc := m_L_read) (vs := [am_r l1, am_i (I l0 (Int.toNat (am_wr (l4 + 1)))), am_r l3]) (st := []) dL_law_552 ok_L_read rfl mk_L_115 sm_L_read rfl rfl (by omega) (Nat.le_of_ble_eq_true rfl) hk9 hn9 am_xh_nx (am_C_mono h (fun v K127 N128 I129 P130 z131 h => ?_) (fun _ _ _ _ _ _ h => h))
        replace h := am_iv_or h
        obtain ⟨x132, rfl, h⟩ := h
        show am_E d m_L_law 555 (k + 1) (n + 6) _ [am_i x132] K127 N128 I129 P130 z131 Q am_nx
        refine e_istore dL_law_555 ?_
        refine e_aload_n dL_law_557 rfl trivial ?_
        refine e_aload_n dL_law_558 rfl trivial ?_
        refine e_iload dL_law_559 rfl ?_
        refine e_iconst dL_law_561 ?_
        refine e_iadd dL_law_562 ?_
        obtain ⟨⟨h0, h1⟩, h⟩ := h
        refine e_ialdC dL_law_563 ha4 h0 h1 ?_
        obtain ⟨⟨hk9, hn9⟩, h⟩ := h
        obtain ⟨hK138, h⟩ := h
        refine e_callV (Mc := m_X8_read) (vs := [am_i (I129 l0 (Int.toNat (am_wr (l4 + 1))))]) (st := []) dL_law_564 ok_X8_read rfl ⟨by decide, rfl⟩ mk_L_117 im_X8_read sl_X8_read rfl rfl hK138 (by omega) (Nat.le_of_ble_eq_true rfl) hk9 hn9 am_xh_nx (am_C_mono h (fun v K133 N134 I135 P136 z137 h => ?_) (fun _ _ _ _ _ _ h => h))
        replace h := am_iv_or h
        obtain ⟨x139, rfl, h⟩ := h
        show am_E d m_L_law 567 (k + 1) (n + 6) _ [am_i x139] K133 N134 I135 P136 z137 Q am_nx
        refine e_istore dL_law_567 ?_
        refine e_aload_n dL_law_569 rfl trivial ?_
        obtain ⟨⟨hk9, hn9⟩, h⟩ := h
        obtain ⟨hK145, h⟩ := h
        refine e_callV (Mc := m_X8_thrown) (vs := []) (st := []) dL_law_570 ok_X8_thrown rfl ⟨by decide, rfl⟩ mk_L_95 im_X8_thrown sl_X8_thrown rfl rfl hK145 (by omega) (Nat.le_of_ble_eq_true rfl) hk9 hn9 am_xh_nx (am_C_mono h (fun v K140 N141 I142 P143 z144 h => ?_) (fun _ _ _ _ _ _ h => h))
        replace h := am_iv_or h
        obtain ⟨x146, rfl, h⟩ := h
        show am_E d m_L_law 573 (k + 1) (n + 6) _ [am_i x146] K140 N141 I142 P143 z144 Q am_nx
        refine e_iload dL_law_573 rfl ?_
        refine e_icmp_eq (tgt := 580) dL_law_575 (by decide) (fun hc => ?_) (fun hc => ?_)
        · replace h := h.1 hc
          refine e_iload dL_law_580 rfl ?_
          refine e_if_ne (tgt := 597) dL_law_582 (by decide) (fun hc => ?_) (fun hc => ?_)
          · replace h := h.1 hc
            refine e_goto (tgt := 1545) dL_law_597 (by decide) ?_
            refine e_iinc dL_law_1545 rfl ?_
            refine e_goto (tgt := 23) dL_law_1548 (by decide) ?_
            exact e_forget (am_sub_k (am_sub_k (am_sub_k (am_sub_k (am_sub_k (am_sub_d (am_sub_d (am_sub_d (am_sub_d am_sub_nil))))))))) h
          · replace h := h.2 hc
            refine e_aload_n dL_law_585 rfl trivial ?_
            refine e_iconst dL_law_586 ?_
            obtain ⟨hK147, h⟩ := h
            obtain ⟨⟨h0, h1⟩, h⟩ := h
            refine e_lald dL_law_587 hK147 h0 h1 ?_
            show am_E _ _ _ _ _ _ (am_j (I142 l3 0) :: _) _ _ _ _ _ _ _
            refine e_iload dL_law_588 rfl ?_
            refine e_i2l dL_law_590 ?_
            refine e_lcmp dL_law_591 (fun hc => ?_) (fun hc v hv => ?_)
            · replace h := h.1 hc
              refine e_if_eq (tgt := 597) dL_law_592 (by decide) (fun _ => ?_) (fun q => absurd rfl q)
              refine e_goto (tgt := 1545) dL_law_597 (by decide) ?_
              refine e_iinc dL_law_1545 rfl ?_
              refine e_goto (tgt := 23) dL_law_1548 (by decide) ?_
              exact e_forget (am_sub_k (am_sub_k (am_sub_k (am_sub_k (am_sub_k (am_sub_d (am_sub_d (am_sub_d (am_sub_d am_sub_nil))))))))) h
            · replace h := h.2 hc
              refine e_if_eq (tgt := 597) dL_law_592 (by decide) (fun q => absurd q hv) (fun _ => ?_)
              refine e_iconst dL_law_595 ?_
              obtain ⟨⟨hk9, hn9⟩, h⟩ := h
              exact e_ret_z dL_law_596 rfl (by decide) hk9 hn9 h
        · replace h := h.2 hc
          refine e_iconst dL_law_578 ?_
          obtain ⟨⟨hk9, hn9⟩, h⟩ := h
          exact e_ret_z dL_law_579 rfl (by decide) hk9 hn9 h
      · have h := h.2.2.2.2.2.2.2.1 (by omega)
        show am_E _ _ 600 _ _ _ _ _ _ _ _ _ _ _
        refine e_aload_n dL_law_600 rfl trivial ?_
        refine e_aload_n dL_law_601 rfl trivial ?_
        refine e_iload dL_law_602 rfl ?_
        refine e_iconst dL_law_604 ?_
        refine e_iadd dL_law_605 ?_
        obtain ⟨⟨h0, h1⟩, h⟩ := h
        refine e_ialdC dL_law_606 ha4 h0 h1 ?_
        refine e_aload_n dL_law_607 rfl trivial ?_
        obtain ⟨⟨hk9, hn9⟩, h⟩ := h
        refine e_callSX (Mc := m_L_move) (vs := [am_r l1, am_i (I l0 (Int.toNat (am_wr (l4 + 1)))), am_r l3]) (st := []) dL_law_608 ok_L_move rfl mk_L_118 sm_L_move rfl rfl (by omega) (Nat.le_of_ble_eq_true rfl) hk9 hn9 am_xh_nx (am_C_mono h (fun v K148 N149 I150 P151 z152 h => ?_) (fun _ _ _ _ _ _ h => h))
        replace h := am_iv_or h
        obtain ⟨x153, rfl, h⟩ := h
        show am_E d m_L_law 611 (k + 1) (n + 6) _ [am_i x153] K148 N149 I150 P151 z152 Q am_nx
        refine e_istore dL_law_611 ?_
        refine e_aload_n dL_law_613 rfl trivial ?_
        refine e_aload_n dL_law_614 rfl trivial ?_
        refine e_iload dL_law_615 rfl ?_
        refine e_iconst dL_law_617 ?_
        refine e_iadd dL_law_618 ?_
        obtain ⟨⟨h0, h1⟩, h⟩ := h
        refine e_ialdC dL_law_619 ha4 h0 h1 ?_
        obtain ⟨⟨hk9, hn9⟩, h⟩ := h
        obtain ⟨hK159, h⟩ := h
        refine e_callV (Mc := m_X8_move) (vs := [am_i (I150 l0 (Int.toNat (am_wr (l4 + 1))))]) (st := []) dL_law_620 ok_X8_move rfl ⟨by decide, rfl⟩ mk_L_120 im_X8_move sl_X8_move rfl rfl hK159 (by omega) (Nat.le_of_ble_eq_true rfl) hk9 hn9 am_xh_nx (am_C_mono h (fun v K154 N155 I156 P157 z158 h => ?_) (fun _ _ _ _ _ _ h => h))
        replace h := am_iv_or h
        obtain ⟨x160, rfl, h⟩ := h
        show am_E d m_L_law 623 (k + 1) (n + 6) _ [am_i x160] K154 N155 I156 P157 z158 Q am_nx
        refine e_istore dL_law_623 ?_
        refine e_aload_n dL_law_625 rfl trivial ?_
        obtain ⟨⟨hk9, hn9⟩, h⟩ := h
        obtain ⟨hK166, h⟩ := h
        refine e_callV (Mc := m_X8_thrown) (vs := []) (st := []) dL_law_626 ok_X8_thrown rfl ⟨by decide, rfl⟩ mk_L_95 im_X8_thrown sl_X8_thrown rfl rfl hK166 (by omega) (Nat.le_of_ble_eq_true rfl) hk9 hn9 am_xh_nx (am_C_mono h (fun v K161 N162 I163 P164 z165 h => ?_) (fun _ _ _ _ _ _ h => h))
        replace h := am_iv_or h
        obtain ⟨x167, rfl, h⟩ := h
        show am_E d m_L_law 629 (k + 1) (n + 6) _ [am_i x167] K161 N162 I163 P164 z165 Q am_nx
        refine e_iload dL_law_629 rfl ?_
        refine e_icmp_eq (tgt := 636) dL_law_631 (by decide) (fun hc => ?_) (fun hc => ?_)
        · replace h := h.1 hc
          refine e_iload dL_law_636 rfl ?_
          refine e_if_ne (tgt := 653) dL_law_638 (by decide) (fun hc => ?_) (fun hc => ?_)
          · replace h := h.1 hc
            refine e_goto (tgt := 1545) dL_law_653 (by decide) ?_
            refine e_iinc dL_law_1545 rfl ?_
            refine e_goto (tgt := 23) dL_law_1548 (by decide) ?_
            exact e_forget (am_sub_k (am_sub_k (am_sub_k (am_sub_k (am_sub_k (am_sub_d (am_sub_d (am_sub_d (am_sub_d am_sub_nil))))))))) h
          · replace h := h.2 hc
            refine e_aload_n dL_law_641 rfl trivial ?_
            refine e_iconst dL_law_642 ?_
            obtain ⟨hK168, h⟩ := h
            obtain ⟨⟨h0, h1⟩, h⟩ := h
            refine e_lald dL_law_643 hK168 h0 h1 ?_
            show am_E _ _ _ _ _ _ (am_j (I163 l3 0) :: _) _ _ _ _ _ _ _
            refine e_iload dL_law_644 rfl ?_
            refine e_i2l dL_law_646 ?_
            refine e_lcmp dL_law_647 (fun hc => ?_) (fun hc v hv => ?_)
            · replace h := h.1 hc
              refine e_if_eq (tgt := 653) dL_law_648 (by decide) (fun _ => ?_) (fun q => absurd rfl q)
              refine e_goto (tgt := 1545) dL_law_653 (by decide) ?_
              refine e_iinc dL_law_1545 rfl ?_
              refine e_goto (tgt := 23) dL_law_1548 (by decide) ?_
              exact e_forget (am_sub_k (am_sub_k (am_sub_k (am_sub_k (am_sub_k (am_sub_d (am_sub_d (am_sub_d (am_sub_d am_sub_nil))))))))) h
            · replace h := h.2 hc
              refine e_if_eq (tgt := 653) dL_law_648 (by decide) (fun q => absurd q hv) (fun _ => ?_)
              refine e_iconst dL_law_651 ?_
              obtain ⟨⟨hk9, hn9⟩, h⟩ := h
              exact e_ret_z dL_law_652 rfl (by decide) hk9 hn9 h
        · replace h := h.2 hc
          refine e_iconst dL_law_634 ?_
          obtain ⟨⟨hk9, hn9⟩, h⟩ := h
          exact e_ret_z dL_law_635 rfl (by decide) hk9 hn9 h
      · have h := h.2.2.2.2.2.2.2.2.1 (by omega)
        show am_E _ _ 656 _ _ _ _ _ _ _ _ _ _ _
        refine e_aload_n dL_law_656 rfl trivial ?_
        refine e_aload_n dL_law_657 rfl trivial ?_
        refine e_iload dL_law_658 rfl ?_
        refine e_iconst dL_law_660 ?_
        refine e_iadd dL_law_661 ?_
        obtain ⟨⟨h0, h1⟩, h⟩ := h
        refine e_ialdC dL_law_662 ha4 h0 h1 ?_
        refine e_aload_n dL_law_663 rfl trivial ?_
        obtain ⟨⟨hk9, hn9⟩, h⟩ := h
        refine e_callSX (Mc := m_L_takeOff) (vs := [am_r l1, am_i (I l0 (Int.toNat (am_wr (l4 + 1)))), am_r l3]) (st := []) dL_law_664 ok_L_takeOff rfl mk_L_121 sm_L_takeOff rfl rfl (by omega) (Nat.le_of_ble_eq_true rfl) hk9 hn9 am_xh_nx (am_C_mono h (fun v K169 N170 I171 P172 z173 h => ?_) (fun _ _ _ _ _ _ h => h))
        replace h := am_iv_or h
        obtain ⟨x174, rfl, h⟩ := h
        show am_E d m_L_law 667 (k + 1) (n + 6) _ [am_i x174] K169 N170 I171 P172 z173 Q am_nx
        refine e_istore dL_law_667 ?_
        refine e_aload_n dL_law_669 rfl trivial ?_
        refine e_aload_n dL_law_670 rfl trivial ?_
        refine e_iload dL_law_671 rfl ?_
        refine e_iconst dL_law_673 ?_
        refine e_iadd dL_law_674 ?_
        obtain ⟨⟨h0, h1⟩, h⟩ := h
        refine e_ialdC dL_law_675 ha4 h0 h1 ?_
        obtain ⟨⟨hk9, hn9⟩, h⟩ := h
        obtain ⟨hK180, h⟩ := h
        refine e_callV (Mc := m_X8_takeOff) (vs := [am_i (I171 l0 (Int.toNat (am_wr (l4 + 1))))]) (st := []) dL_law_676 ok_X8_takeOff rfl ⟨by decide, rfl⟩ mk_L_123 im_X8_takeOff sl_X8_takeOff rfl rfl hK180 (by omega) (Nat.le_of_ble_eq_true rfl) hk9 hn9 am_xh_nx (am_C_mono h (fun v K175 N176 I177 P178 z179 h => ?_) (fun _ _ _ _ _ _ h => h))
        replace h := am_iv_or h
        obtain ⟨x181, rfl, h⟩ := h
        show am_E d m_L_law 679 (k + 1) (n + 6) _ [am_i x181] K175 N176 I177 P178 z179 Q am_nx
        refine e_istore dL_law_679 ?_
        refine e_aload_n dL_law_681 rfl trivial ?_
        obtain ⟨⟨hk9, hn9⟩, h⟩ := h
        obtain ⟨hK187, h⟩ := h
        refine e_callV (Mc := m_X8_thrown) (vs := []) (st := []) dL_law_682 ok_X8_thrown rfl ⟨by decide, rfl⟩ mk_L_95 im_X8_thrown sl_X8_thrown rfl rfl hK187 (by omega) (Nat.le_of_ble_eq_true rfl) hk9 hn9 am_xh_nx (am_C_mono h (fun v K182 N183 I184 P185 z186 h => ?_) (fun _ _ _ _ _ _ h => h))
        replace h := am_iv_or h
        obtain ⟨x188, rfl, h⟩ := h
        show am_E d m_L_law 685 (k + 1) (n + 6) _ [am_i x188] K182 N183 I184 P185 z186 Q am_nx
        refine e_iload dL_law_685 rfl ?_
        refine e_icmp_eq (tgt := 692) dL_law_687 (by decide) (fun hc => ?_) (fun hc => ?_)
        · replace h := h.1 hc
          refine e_iload dL_law_692 rfl ?_
          refine e_if_ne (tgt := 709) dL_law_694 (by decide) (fun hc => ?_) (fun hc => ?_)
          · replace h := h.1 hc
            refine e_goto (tgt := 1545) dL_law_709 (by decide) ?_
            refine e_iinc dL_law_1545 rfl ?_
            refine e_goto (tgt := 23) dL_law_1548 (by decide) ?_
            exact e_forget (am_sub_k (am_sub_k (am_sub_k (am_sub_k (am_sub_k (am_sub_d (am_sub_d (am_sub_d (am_sub_d am_sub_nil))))))))) h
          · replace h := h.2 hc
            refine e_aload_n dL_law_697 rfl trivial ?_
            refine e_iconst dL_law_698 ?_
            obtain ⟨hK189, h⟩ := h
            obtain ⟨⟨h0, h1⟩, h⟩ := h
            refine e_lald dL_law_699 hK189 h0 h1 ?_
            show am_E _ _ _ _ _ _ (am_j (I184 l3 0) :: _) _ _ _ _ _ _ _
            refine e_iload dL_law_700 rfl ?_
            refine e_i2l dL_law_702 ?_
            refine e_lcmp dL_law_703 (fun hc => ?_) (fun hc v hv => ?_)
            · replace h := h.1 hc
              refine e_if_eq (tgt := 709) dL_law_704 (by decide) (fun _ => ?_) (fun q => absurd rfl q)
              refine e_goto (tgt := 1545) dL_law_709 (by decide) ?_
              refine e_iinc dL_law_1545 rfl ?_
              refine e_goto (tgt := 23) dL_law_1548 (by decide) ?_
              exact e_forget (am_sub_k (am_sub_k (am_sub_k (am_sub_k (am_sub_k (am_sub_d (am_sub_d (am_sub_d (am_sub_d am_sub_nil))))))))) h
            · replace h := h.2 hc
              refine e_if_eq (tgt := 709) dL_law_704 (by decide) (fun q => absurd q hv) (fun _ => ?_)
              refine e_iconst dL_law_707 ?_
              obtain ⟨⟨hk9, hn9⟩, h⟩ := h
              exact e_ret_z dL_law_708 rfl (by decide) hk9 hn9 h
        · replace h := h.2 hc
          refine e_iconst dL_law_690 ?_
          obtain ⟨⟨hk9, hn9⟩, h⟩ := h
          exact e_ret_z dL_law_691 rfl (by decide) hk9 hn9 h
      · have h := h.2.2.2.2.2.2.2.2.2.1 (by omega)
        show am_E _ _ 712 _ _ _ _ _ _ _ _ _ _ _
        refine e_aload_n dL_law_712 rfl trivial ?_
        refine e_aload_n dL_law_713 rfl trivial ?_
        obtain ⟨⟨hk9, hn9⟩, h⟩ := h
        refine e_callSX (Mc := m_L_undo) (vs := [am_r l1, am_r l3]) (st := []) dL_law_714 ok_L_undo rfl mk_L_124 sm_L_undo rfl rfl (by omega) (Nat.le_of_ble_eq_true rfl) hk9 hn9 am_xh_nx (am_C_mono h (fun v K190 N191 I192 P193 z194 h => ?_) (fun _ _ _ _ _ _ h => h))
        replace h := am_iv_or h
        obtain ⟨x195, rfl, h⟩ := h
        show am_E d m_L_law 717 (k + 1) (n + 6) _ [am_i x195] K190 N191 I192 P193 z194 Q am_nx
        refine e_istore dL_law_717 ?_
        refine e_aload_n dL_law_719 rfl trivial ?_
        obtain ⟨⟨hk9, hn9⟩, h⟩ := h
        obtain ⟨hK201, h⟩ := h
        refine e_callV (Mc := m_X8_undo) (vs := []) (st := []) dL_law_720 ok_X8_undo rfl ⟨by decide, rfl⟩ mk_L_127 im_X8_undo sl_X8_undo rfl rfl hK201 (by omega) (Nat.le_of_ble_eq_true rfl) hk9 hn9 am_xh_nx (am_C_mono h (fun v K196 N197 I198 P199 z200 h => ?_) (fun _ _ _ _ _ _ h => h))
        replace h := am_iv_or h
        obtain ⟨x202, rfl, h⟩ := h
        show am_E d m_L_law 723 (k + 1) (n + 6) _ [am_i x202] K196 N197 I198 P199 z200 Q am_nx
        refine e_istore dL_law_723 ?_
        refine e_aload_n dL_law_725 rfl trivial ?_
        obtain ⟨⟨hk9, hn9⟩, h⟩ := h
        obtain ⟨hK208, h⟩ := h
        refine e_callV (Mc := m_X8_thrown) (vs := []) (st := []) dL_law_726 ok_X8_thrown rfl ⟨by decide, rfl⟩ mk_L_95 im_X8_thrown sl_X8_thrown rfl rfl hK208 (by omega) (Nat.le_of_ble_eq_true rfl) hk9 hn9 am_xh_nx (am_C_mono h (fun v K203 N204 I205 P206 z207 h => ?_) (fun _ _ _ _ _ _ h => h))
        replace h := am_iv_or h
        obtain ⟨x209, rfl, h⟩ := h
        show am_E d m_L_law 729 (k + 1) (n + 6) _ [am_i x209] K203 N204 I205 P206 z207 Q am_nx
        refine e_iload dL_law_729 rfl ?_
        refine e_icmp_eq (tgt := 736) dL_law_731 (by decide) (fun hc => ?_) (fun hc => ?_)
        · replace h := h.1 hc
          refine e_iload dL_law_736 rfl ?_
          refine e_if_ne (tgt := 753) dL_law_738 (by decide) (fun hc => ?_) (fun hc => ?_)
          · replace h := h.1 hc
            refine e_goto (tgt := 1545) dL_law_753 (by decide) ?_
            refine e_iinc dL_law_1545 rfl ?_
            refine e_goto (tgt := 23) dL_law_1548 (by decide) ?_
            exact e_forget (am_sub_k (am_sub_k (am_sub_k (am_sub_k (am_sub_k (am_sub_d (am_sub_d (am_sub_d (am_sub_d am_sub_nil))))))))) h
          · replace h := h.2 hc
            refine e_aload_n dL_law_741 rfl trivial ?_
            refine e_iconst dL_law_742 ?_
            obtain ⟨hK210, h⟩ := h
            obtain ⟨⟨h0, h1⟩, h⟩ := h
            refine e_lald dL_law_743 hK210 h0 h1 ?_
            show am_E _ _ _ _ _ _ (am_j (I205 l3 0) :: _) _ _ _ _ _ _ _
            refine e_iload dL_law_744 rfl ?_
            refine e_i2l dL_law_746 ?_
            refine e_lcmp dL_law_747 (fun hc => ?_) (fun hc v hv => ?_)
            · replace h := h.1 hc
              refine e_if_eq (tgt := 753) dL_law_748 (by decide) (fun _ => ?_) (fun q => absurd rfl q)
              refine e_goto (tgt := 1545) dL_law_753 (by decide) ?_
              refine e_iinc dL_law_1545 rfl ?_
              refine e_goto (tgt := 23) dL_law_1548 (by decide) ?_
              exact e_forget (am_sub_k (am_sub_k (am_sub_k (am_sub_k (am_sub_k (am_sub_d (am_sub_d (am_sub_d (am_sub_d am_sub_nil))))))))) h
            · replace h := h.2 hc
              refine e_if_eq (tgt := 753) dL_law_748 (by decide) (fun q => absurd q hv) (fun _ => ?_)
              refine e_iconst dL_law_751 ?_
              obtain ⟨⟨hk9, hn9⟩, h⟩ := h
              exact e_ret_z dL_law_752 rfl (by decide) hk9 hn9 h
        · replace h := h.2 hc
          refine e_iconst dL_law_734 ?_
          obtain ⟨⟨hk9, hn9⟩, h⟩ := h
          exact e_ret_z dL_law_735 rfl (by decide) hk9 hn9 h
      · have h := h.2.2.2.2.2.2.2.2.2.2.1 (by omega)
        show am_E _ _ 756 _ _ _ _ _ _ _ _ _ _ _
        refine e_aload_n dL_law_756 rfl trivial ?_
        refine e_aload_n dL_law_757 rfl trivial ?_
        refine e_iload dL_law_758 rfl ?_
        refine e_iconst dL_law_760 ?_
        refine e_iadd dL_law_761 ?_
        obtain ⟨⟨h0, h1⟩, h⟩ := h
        refine e_ialdC dL_law_762 ha4 h0 h1 ?_
        refine e_aload_n dL_law_763 rfl trivial ?_
        refine e_iload dL_law_764 rfl ?_
        refine e_iconst dL_law_766 ?_
        refine e_iadd dL_law_767 ?_
        obtain ⟨⟨h0, h1⟩, h⟩ := h
        refine e_ialdC dL_law_768 ha4 h0 h1 ?_
        refine e_aload_n dL_law_769 rfl trivial ?_
        obtain ⟨⟨hk9, hn9⟩, h⟩ := h
        refine e_callSX (Mc := m_L_part) (vs := [am_r l1, am_i (I l0 (Int.toNat (am_wr (l4 + 1)))), am_i (I l0 (Int.toNat (am_wr (l4 + 2)))), am_r l3]) (st := []) dL_law_770 ok_L_part rfl mk_L_128 sm_L_part rfl rfl (by omega) (Nat.le_of_ble_eq_true rfl) hk9 hn9 am_xh_nx (am_C_mono h (fun v K211 N212 I213 P214 z215 h => ?_) (fun _ _ _ _ _ _ h => h))
        replace h := am_iv_or h
        obtain ⟨x216, rfl, h⟩ := h
        show am_E d m_L_law 773 (k + 1) (n + 6) _ [am_i x216] K211 N212 I213 P214 z215 Q am_nx
        refine e_istore dL_law_773 ?_
        refine e_aload_n dL_law_775 rfl trivial ?_
        refine e_aload_n dL_law_776 rfl trivial ?_
        refine e_iload dL_law_777 rfl ?_
        refine e_iconst dL_law_779 ?_
        refine e_iadd dL_law_780 ?_
        obtain ⟨⟨h0, h1⟩, h⟩ := h
        refine e_ialdC dL_law_781 ha4 h0 h1 ?_
        refine e_aload_n dL_law_782 rfl trivial ?_
        refine e_iload dL_law_783 rfl ?_
        refine e_iconst dL_law_785 ?_
        refine e_iadd dL_law_786 ?_
        obtain ⟨⟨h0, h1⟩, h⟩ := h
        refine e_ialdC dL_law_787 ha4 h0 h1 ?_
        obtain ⟨⟨hk9, hn9⟩, h⟩ := h
        obtain ⟨hK222, h⟩ := h
        refine e_callV (Mc := m_X8_part) (vs := [am_i (I213 l0 (Int.toNat (am_wr (l4 + 1)))), am_i (I213 l0 (Int.toNat (am_wr (l4 + 2))))]) (st := []) dL_law_788 ok_X8_part rfl ⟨by decide, rfl⟩ mk_L_130 im_X8_part sl_X8_part rfl rfl hK222 (by omega) (Nat.le_of_ble_eq_true rfl) hk9 hn9 am_xh_nx (am_C_mono h (fun v K217 N218 I219 P220 z221 h => ?_) (fun _ _ _ _ _ _ h => h))
        replace h := am_iv_or h
        obtain ⟨x223, rfl, h⟩ := h
        show am_E d m_L_law 791 (k + 1) (n + 6) _ [am_i x223] K217 N218 I219 P220 z221 Q am_nx
        refine e_istore dL_law_791 ?_
        refine e_aload_n dL_law_793 rfl trivial ?_
        obtain ⟨⟨hk9, hn9⟩, h⟩ := h
        obtain ⟨hK229, h⟩ := h
        refine e_callV (Mc := m_X8_thrown) (vs := []) (st := []) dL_law_794 ok_X8_thrown rfl ⟨by decide, rfl⟩ mk_L_95 im_X8_thrown sl_X8_thrown rfl rfl hK229 (by omega) (Nat.le_of_ble_eq_true rfl) hk9 hn9 am_xh_nx (am_C_mono h (fun v K224 N225 I226 P227 z228 h => ?_) (fun _ _ _ _ _ _ h => h))
        replace h := am_iv_or h
        obtain ⟨x230, rfl, h⟩ := h
        show am_E d m_L_law 797 (k + 1) (n + 6) _ [am_i x230] K224 N225 I226 P227 z228 Q am_nx
        refine e_iload dL_law_797 rfl ?_
        refine e_icmp_eq (tgt := 804) dL_law_799 (by decide) (fun hc => ?_) (fun hc => ?_)
        · replace h := h.1 hc
          refine e_iload dL_law_804 rfl ?_
          refine e_if_ne (tgt := 821) dL_law_806 (by decide) (fun hc => ?_) (fun hc => ?_)
          · replace h := h.1 hc
            refine e_goto (tgt := 1545) dL_law_821 (by decide) ?_
            refine e_iinc dL_law_1545 rfl ?_
            refine e_goto (tgt := 23) dL_law_1548 (by decide) ?_
            exact e_forget (am_sub_k (am_sub_k (am_sub_k (am_sub_k (am_sub_k (am_sub_d (am_sub_d (am_sub_d (am_sub_d am_sub_nil))))))))) h
          · replace h := h.2 hc
            refine e_aload_n dL_law_809 rfl trivial ?_
            refine e_iconst dL_law_810 ?_
            obtain ⟨hK231, h⟩ := h
            obtain ⟨⟨h0, h1⟩, h⟩ := h
            refine e_lald dL_law_811 hK231 h0 h1 ?_
            show am_E _ _ _ _ _ _ (am_j (I226 l3 0) :: _) _ _ _ _ _ _ _
            refine e_iload dL_law_812 rfl ?_
            refine e_i2l dL_law_814 ?_
            refine e_lcmp dL_law_815 (fun hc => ?_) (fun hc v hv => ?_)
            · replace h := h.1 hc
              refine e_if_eq (tgt := 821) dL_law_816 (by decide) (fun _ => ?_) (fun q => absurd rfl q)
              refine e_goto (tgt := 1545) dL_law_821 (by decide) ?_
              refine e_iinc dL_law_1545 rfl ?_
              refine e_goto (tgt := 23) dL_law_1548 (by decide) ?_
              exact e_forget (am_sub_k (am_sub_k (am_sub_k (am_sub_k (am_sub_k (am_sub_d (am_sub_d (am_sub_d (am_sub_d am_sub_nil))))))))) h
            · replace h := h.2 hc
              refine e_if_eq (tgt := 821) dL_law_816 (by decide) (fun q => absurd q hv) (fun _ => ?_)
              refine e_iconst dL_law_819 ?_
              obtain ⟨⟨hk9, hn9⟩, h⟩ := h
              exact e_ret_z dL_law_820 rfl (by decide) hk9 hn9 h
        · replace h := h.2 hc
          refine e_iconst dL_law_802 ?_
          obtain ⟨⟨hk9, hn9⟩, h⟩ := h
          exact e_ret_z dL_law_803 rfl (by decide) hk9 hn9 h
      · have h := h.2.2.2.2.2.2.2.2.2.2.2.1 (by omega)
        show am_E _ _ 824 _ _ _ _ _ _ _ _ _ _ _
        refine e_aload_n dL_law_824 rfl trivial ?_
        refine e_aload_n dL_law_825 rfl trivial ?_
        refine e_iload dL_law_826 rfl ?_
        refine e_iconst dL_law_828 ?_
        refine e_iadd dL_law_829 ?_
        obtain ⟨⟨h0, h1⟩, h⟩ := h
        refine e_ialdC dL_law_830 ha4 h0 h1 ?_
        refine e_aload_n dL_law_831 rfl trivial ?_
        refine e_iload dL_law_832 rfl ?_
        refine e_iconst dL_law_834 ?_
        refine e_iadd dL_law_835 ?_
        obtain ⟨⟨h0, h1⟩, h⟩ := h
        refine e_ialdC dL_law_836 ha4 h0 h1 ?_
        refine e_aload_n dL_law_837 rfl trivial ?_
        obtain ⟨⟨hk9, hn9⟩, h⟩ := h
        refine e_callSX (Mc := m_L_lane) (vs := [am_r l1, am_i (I l0 (Int.toNat (am_wr (l4 + 1)))), am_i (I l0 (Int.toNat (am_wr (l4 + 2)))), am_r l3]) (st := []) dL_law_838 ok_L_lane rfl mk_L_131 sm_L_lane rfl rfl (by omega) (Nat.le_of_ble_eq_true rfl) hk9 hn9 am_xh_nx (am_C_mono h (fun v K232 N233 I234 P235 z236 h => ?_) (fun _ _ _ _ _ _ h => h))
        replace h := am_iv_or h
        obtain ⟨x237, rfl, h⟩ := h
        show am_E d m_L_law 841 (k + 1) (n + 6) _ [am_i x237] K232 N233 I234 P235 z236 Q am_nx
        refine e_istore dL_law_841 ?_
        refine e_aload_n dL_law_843 rfl trivial ?_
        refine e_aload_n dL_law_844 rfl trivial ?_
        refine e_iload dL_law_845 rfl ?_
        refine e_iconst dL_law_847 ?_
        refine e_iadd dL_law_848 ?_
        obtain ⟨⟨h0, h1⟩, h⟩ := h
        refine e_ialdC dL_law_849 ha4 h0 h1 ?_
        refine e_aload_n dL_law_850 rfl trivial ?_
        refine e_iload dL_law_851 rfl ?_
        refine e_iconst dL_law_853 ?_
        refine e_iadd dL_law_854 ?_
        obtain ⟨⟨h0, h1⟩, h⟩ := h
        refine e_ialdC dL_law_855 ha4 h0 h1 ?_
        obtain ⟨⟨hk9, hn9⟩, h⟩ := h
        obtain ⟨hK243, h⟩ := h
        refine e_callV (Mc := m_X8_lane) (vs := [am_i (I234 l0 (Int.toNat (am_wr (l4 + 1)))), am_i (I234 l0 (Int.toNat (am_wr (l4 + 2))))]) (st := []) dL_law_856 ok_X8_lane rfl ⟨by decide, rfl⟩ mk_L_133 im_X8_lane sl_X8_lane rfl rfl hK243 (by omega) (Nat.le_of_ble_eq_true rfl) hk9 hn9 am_xh_nx (am_C_mono h (fun v K238 N239 I240 P241 z242 h => ?_) (fun _ _ _ _ _ _ h => h))
        replace h := am_iv_or h
        obtain ⟨x244, rfl, h⟩ := h
        show am_E d m_L_law 859 (k + 1) (n + 6) _ [am_i x244] K238 N239 I240 P241 z242 Q am_nx
        refine e_istore dL_law_859 ?_
        refine e_aload_n dL_law_861 rfl trivial ?_
        obtain ⟨⟨hk9, hn9⟩, h⟩ := h
        obtain ⟨hK250, h⟩ := h
        refine e_callV (Mc := m_X8_thrown) (vs := []) (st := []) dL_law_862 ok_X8_thrown rfl ⟨by decide, rfl⟩ mk_L_95 im_X8_thrown sl_X8_thrown rfl rfl hK250 (by omega) (Nat.le_of_ble_eq_true rfl) hk9 hn9 am_xh_nx (am_C_mono h (fun v K245 N246 I247 P248 z249 h => ?_) (fun _ _ _ _ _ _ h => h))
        replace h := am_iv_or h
        obtain ⟨x251, rfl, h⟩ := h
        show am_E d m_L_law 865 (k + 1) (n + 6) _ [am_i x251] K245 N246 I247 P248 z249 Q am_nx
        refine e_iload dL_law_865 rfl ?_
        refine e_icmp_eq (tgt := 872) dL_law_867 (by decide) (fun hc => ?_) (fun hc => ?_)
        · replace h := h.1 hc
          refine e_iload dL_law_872 rfl ?_
          refine e_if_ne (tgt := 889) dL_law_874 (by decide) (fun hc => ?_) (fun hc => ?_)
          · replace h := h.1 hc
            refine e_goto (tgt := 1545) dL_law_889 (by decide) ?_
            refine e_iinc dL_law_1545 rfl ?_
            refine e_goto (tgt := 23) dL_law_1548 (by decide) ?_
            exact e_forget (am_sub_k (am_sub_k (am_sub_k (am_sub_k (am_sub_k (am_sub_d (am_sub_d (am_sub_d (am_sub_d am_sub_nil))))))))) h
          · replace h := h.2 hc
            refine e_aload_n dL_law_877 rfl trivial ?_
            refine e_iconst dL_law_878 ?_
            obtain ⟨hK252, h⟩ := h
            obtain ⟨⟨h0, h1⟩, h⟩ := h
            refine e_lald dL_law_879 hK252 h0 h1 ?_
            show am_E _ _ _ _ _ _ (am_j (I247 l3 0) :: _) _ _ _ _ _ _ _
            refine e_iload dL_law_880 rfl ?_
            refine e_i2l dL_law_882 ?_
            refine e_lcmp dL_law_883 (fun hc => ?_) (fun hc v hv => ?_)
            · replace h := h.1 hc
              refine e_if_eq (tgt := 889) dL_law_884 (by decide) (fun _ => ?_) (fun q => absurd rfl q)
              refine e_goto (tgt := 1545) dL_law_889 (by decide) ?_
              refine e_iinc dL_law_1545 rfl ?_
              refine e_goto (tgt := 23) dL_law_1548 (by decide) ?_
              exact e_forget (am_sub_k (am_sub_k (am_sub_k (am_sub_k (am_sub_k (am_sub_d (am_sub_d (am_sub_d (am_sub_d am_sub_nil))))))))) h
            · replace h := h.2 hc
              refine e_if_eq (tgt := 889) dL_law_884 (by decide) (fun q => absurd q hv) (fun _ => ?_)
              refine e_iconst dL_law_887 ?_
              obtain ⟨⟨hk9, hn9⟩, h⟩ := h
              exact e_ret_z dL_law_888 rfl (by decide) hk9 hn9 h
        · replace h := h.2 hc
          refine e_iconst dL_law_870 ?_
          obtain ⟨⟨hk9, hn9⟩, h⟩ := h
          exact e_ret_z dL_law_871 rfl (by decide) hk9 hn9 h
      · have h := h.2.2.2.2.2.2.2.2.2.2.2.2.1 (by omega)
        show am_E _ _ 892 _ _ _ _ _ _ _ _ _ _ _
        refine e_aload_n dL_law_892 rfl trivial ?_
        refine e_aload_n dL_law_893 rfl trivial ?_
        refine e_iload dL_law_894 rfl ?_
        refine e_iconst dL_law_896 ?_
        refine e_iadd dL_law_897 ?_
        obtain ⟨⟨h0, h1⟩, h⟩ := h
        refine e_ialdC dL_law_898 ha4 h0 h1 ?_
        refine e_aload_n dL_law_899 rfl trivial ?_
        obtain ⟨⟨hk9, hn9⟩, h⟩ := h
        refine e_callSX (Mc := m_L_total) (vs := [am_r l1, am_i (I l0 (Int.toNat (am_wr (l4 + 1)))), am_r l3]) (st := []) dL_law_900 ok_L_total rfl mk_L_134 sm_L_total rfl rfl (by omega) (Nat.le_of_ble_eq_true rfl) hk9 hn9 am_xh_nx (am_C_mono h (fun v K253 N254 I255 P256 z257 h => ?_) (fun _ _ _ _ _ _ h => h))
        replace h := am_iv_or h
        obtain ⟨x258, rfl, h⟩ := h
        show am_E d m_L_law 903 (k + 1) (n + 6) _ [am_i x258] K253 N254 I255 P256 z257 Q am_nx
        refine e_istore dL_law_903 ?_
        refine e_aload_n dL_law_905 rfl trivial ?_
        refine e_aload_n dL_law_906 rfl trivial ?_
        refine e_iload dL_law_907 rfl ?_
        refine e_iconst dL_law_909 ?_
        refine e_iadd dL_law_910 ?_
        obtain ⟨⟨h0, h1⟩, h⟩ := h
        refine e_ialdC dL_law_911 ha4 h0 h1 ?_
        obtain ⟨⟨hk9, hn9⟩, h⟩ := h
        obtain ⟨hK264, h⟩ := h
        refine e_callV (Mc := m_X8_total) (vs := [am_i (I255 l0 (Int.toNat (am_wr (l4 + 1))))]) (st := []) dL_law_912 ok_X8_total rfl ⟨by decide, rfl⟩ mk_L_136 im_X8_total sl_X8_total rfl rfl hK264 (by omega) (Nat.le_of_ble_eq_true rfl) hk9 hn9 am_xh_nx (am_C_mono h (fun v K259 N260 I261 P262 z263 h => ?_) (fun _ _ _ _ _ _ h => h))
        replace h := am_iv_or h
        obtain ⟨x265, rfl, h⟩ := h
        show am_E d m_L_law 915 (k + 1) (n + 6) _ [am_i x265] K259 N260 I261 P262 z263 Q am_nx
        refine e_istore dL_law_915 ?_
        refine e_aload_n dL_law_917 rfl trivial ?_
        obtain ⟨⟨hk9, hn9⟩, h⟩ := h
        obtain ⟨hK271, h⟩ := h
        refine e_callV (Mc := m_X8_thrown) (vs := []) (st := []) dL_law_918 ok_X8_thrown rfl ⟨by decide, rfl⟩ mk_L_95 im_X8_thrown sl_X8_thrown rfl rfl hK271 (by omega) (Nat.le_of_ble_eq_true rfl) hk9 hn9 am_xh_nx (am_C_mono h (fun v K266 N267 I268 P269 z270 h => ?_) (fun _ _ _ _ _ _ h => h))
        replace h := am_iv_or h
        obtain ⟨x272, rfl, h⟩ := h
        show am_E d m_L_law 921 (k + 1) (n + 6) _ [am_i x272] K266 N267 I268 P269 z270 Q am_nx
        refine e_iload dL_law_921 rfl ?_
        refine e_icmp_eq (tgt := 928) dL_law_923 (by decide) (fun hc => ?_) (fun hc => ?_)
        · replace h := h.1 hc
          refine e_iload dL_law_928 rfl ?_
          refine e_if_ne (tgt := 945) dL_law_930 (by decide) (fun hc => ?_) (fun hc => ?_)
          · replace h := h.1 hc
            refine e_goto (tgt := 1545) dL_law_945 (by decide) ?_
            refine e_iinc dL_law_1545 rfl ?_
            refine e_goto (tgt := 23) dL_law_1548 (by decide) ?_
            exact e_forget (am_sub_k (am_sub_k (am_sub_k (am_sub_k (am_sub_k (am_sub_d (am_sub_d (am_sub_d (am_sub_d am_sub_nil))))))))) h
          · replace h := h.2 hc
            refine e_aload_n dL_law_933 rfl trivial ?_
            refine e_iconst dL_law_934 ?_
            obtain ⟨hK273, h⟩ := h
            obtain ⟨⟨h0, h1⟩, h⟩ := h
            refine e_lald dL_law_935 hK273 h0 h1 ?_
            show am_E _ _ _ _ _ _ (am_j (I268 l3 0) :: _) _ _ _ _ _ _ _
            refine e_iload dL_law_936 rfl ?_
            refine e_i2l dL_law_938 ?_
            refine e_lcmp dL_law_939 (fun hc => ?_) (fun hc v hv => ?_)
            · replace h := h.1 hc
              refine e_if_eq (tgt := 945) dL_law_940 (by decide) (fun _ => ?_) (fun q => absurd rfl q)
              refine e_goto (tgt := 1545) dL_law_945 (by decide) ?_
              refine e_iinc dL_law_1545 rfl ?_
              refine e_goto (tgt := 23) dL_law_1548 (by decide) ?_
              exact e_forget (am_sub_k (am_sub_k (am_sub_k (am_sub_k (am_sub_k (am_sub_d (am_sub_d (am_sub_d (am_sub_d am_sub_nil))))))))) h
            · replace h := h.2 hc
              refine e_if_eq (tgt := 945) dL_law_940 (by decide) (fun q => absurd q hv) (fun _ => ?_)
              refine e_iconst dL_law_943 ?_
              obtain ⟨⟨hk9, hn9⟩, h⟩ := h
              exact e_ret_z dL_law_944 rfl (by decide) hk9 hn9 h
        · replace h := h.2 hc
          refine e_iconst dL_law_926 ?_
          obtain ⟨⟨hk9, hn9⟩, h⟩ := h
          exact e_ret_z dL_law_927 rfl (by decide) hk9 hn9 h
      · have h := h.2.2.2.2.2.2.2.2.2.2.2.2.2.1 (by omega)
        show am_E _ _ 948 _ _ _ _ _ _ _ _ _ _ _
        refine e_aload_n dL_law_948 rfl trivial ?_
        refine e_aload_n dL_law_949 rfl trivial ?_
        refine e_iload dL_law_950 rfl ?_
        refine e_iconst dL_law_952 ?_
        refine e_iadd dL_law_953 ?_
        obtain ⟨⟨h0, h1⟩, h⟩ := h
        refine e_ialdC dL_law_954 ha4 h0 h1 ?_
        refine e_aload_n dL_law_955 rfl trivial ?_
        obtain ⟨⟨hk9, hn9⟩, h⟩ := h
        refine e_callSX (Mc := m_L_lost) (vs := [am_r l1, am_i (I l0 (Int.toNat (am_wr (l4 + 1)))), am_r l3]) (st := []) dL_law_956 ok_L_lost rfl mk_L_137 sm_L_lost rfl rfl (by omega) (Nat.le_of_ble_eq_true rfl) hk9 hn9 am_xh_nx (am_C_mono h (fun v K274 N275 I276 P277 z278 h => ?_) (fun _ _ _ _ _ _ h => h))
        replace h := am_iv_or h
        obtain ⟨x279, rfl, h⟩ := h
        show am_E d m_L_law 959 (k + 1) (n + 6) _ [am_i x279] K274 N275 I276 P277 z278 Q am_nx
        refine e_istore dL_law_959 ?_
        refine e_aload_n dL_law_961 rfl trivial ?_
        refine e_aload_n dL_law_962 rfl trivial ?_
        refine e_iload dL_law_963 rfl ?_
        refine e_iconst dL_law_965 ?_
        refine e_iadd dL_law_966 ?_
        obtain ⟨⟨h0, h1⟩, h⟩ := h
        refine e_ialdC dL_law_967 ha4 h0 h1 ?_
        obtain ⟨⟨hk9, hn9⟩, h⟩ := h
        obtain ⟨hK285, h⟩ := h
        refine e_callV (Mc := m_X8_lost) (vs := [am_i (I276 l0 (Int.toNat (am_wr (l4 + 1))))]) (st := []) dL_law_968 ok_X8_lost rfl ⟨by decide, rfl⟩ mk_L_139 im_X8_lost sl_X8_lost rfl rfl hK285 (by omega) (Nat.le_of_ble_eq_true rfl) hk9 hn9 am_xh_nx (am_C_mono h (fun v K280 N281 I282 P283 z284 h => ?_) (fun _ _ _ _ _ _ h => h))
        replace h := am_iv_or h
        obtain ⟨x286, rfl, h⟩ := h
        show am_E d m_L_law 971 (k + 1) (n + 6) _ [am_i x286] K280 N281 I282 P283 z284 Q am_nx
        refine e_istore dL_law_971 ?_
        refine e_aload_n dL_law_973 rfl trivial ?_
        obtain ⟨⟨hk9, hn9⟩, h⟩ := h
        obtain ⟨hK292, h⟩ := h
        refine e_callV (Mc := m_X8_thrown) (vs := []) (st := []) dL_law_974 ok_X8_thrown rfl ⟨by decide, rfl⟩ mk_L_95 im_X8_thrown sl_X8_thrown rfl rfl hK292 (by omega) (Nat.le_of_ble_eq_true rfl) hk9 hn9 am_xh_nx (am_C_mono h (fun v K287 N288 I289 P290 z291 h => ?_) (fun _ _ _ _ _ _ h => h))
        replace h := am_iv_or h
        obtain ⟨x293, rfl, h⟩ := h
        show am_E d m_L_law 977 (k + 1) (n + 6) _ [am_i x293] K287 N288 I289 P290 z291 Q am_nx
        refine e_iload dL_law_977 rfl ?_
        refine e_icmp_eq (tgt := 984) dL_law_979 (by decide) (fun hc => ?_) (fun hc => ?_)
        · replace h := h.1 hc
          refine e_iload dL_law_984 rfl ?_
          refine e_if_ne (tgt := 1001) dL_law_986 (by decide) (fun hc => ?_) (fun hc => ?_)
          · replace h := h.1 hc
            refine e_goto (tgt := 1545) dL_law_1001 (by decide) ?_
            refine e_iinc dL_law_1545 rfl ?_
            refine e_goto (tgt := 23) dL_law_1548 (by decide) ?_
            exact e_forget (am_sub_k (am_sub_k (am_sub_k (am_sub_k (am_sub_k (am_sub_d (am_sub_d (am_sub_d (am_sub_d am_sub_nil))))))))) h
          · replace h := h.2 hc
            refine e_aload_n dL_law_989 rfl trivial ?_
            refine e_iconst dL_law_990 ?_
            obtain ⟨hK294, h⟩ := h
            obtain ⟨⟨h0, h1⟩, h⟩ := h
            refine e_lald dL_law_991 hK294 h0 h1 ?_
            show am_E _ _ _ _ _ _ (am_j (I289 l3 0) :: _) _ _ _ _ _ _ _
            refine e_iload dL_law_992 rfl ?_
            refine e_i2l dL_law_994 ?_
            refine e_lcmp dL_law_995 (fun hc => ?_) (fun hc v hv => ?_)
            · replace h := h.1 hc
              refine e_if_eq (tgt := 1001) dL_law_996 (by decide) (fun _ => ?_) (fun q => absurd rfl q)
              refine e_goto (tgt := 1545) dL_law_1001 (by decide) ?_
              refine e_iinc dL_law_1545 rfl ?_
              refine e_goto (tgt := 23) dL_law_1548 (by decide) ?_
              exact e_forget (am_sub_k (am_sub_k (am_sub_k (am_sub_k (am_sub_k (am_sub_d (am_sub_d (am_sub_d (am_sub_d am_sub_nil))))))))) h
            · replace h := h.2 hc
              refine e_if_eq (tgt := 1001) dL_law_996 (by decide) (fun q => absurd q hv) (fun _ => ?_)
              refine e_iconst dL_law_999 ?_
              obtain ⟨⟨hk9, hn9⟩, h⟩ := h
              exact e_ret_z dL_law_1000 rfl (by decide) hk9 hn9 h
        · replace h := h.2 hc
          refine e_iconst dL_law_982 ?_
          obtain ⟨⟨hk9, hn9⟩, h⟩ := h
          exact e_ret_z dL_law_983 rfl (by decide) hk9 hn9 h
      · have h := h.2.2.2.2.2.2.2.2.2.2.2.2.2.2.1 (by omega)
        show am_E _ _ 1004 _ _ _ _ _ _ _ _ _ _ _
        refine e_aload_n dL_law_1004 rfl trivial ?_
        refine e_aload_n dL_law_1005 rfl trivial ?_
        refine e_iload dL_law_1006 rfl ?_
        refine e_iconst dL_law_1008 ?_
        refine e_iadd dL_law_1009 ?_
        obtain ⟨⟨h0, h1⟩, h⟩ := h
        refine e_ialdC dL_law_1010 ha4 h0 h1 ?_
        refine e_aload_n dL_law_1011 rfl trivial ?_
        obtain ⟨⟨hk9, hn9⟩, h⟩ := h
        refine e_callSX (Mc := m_L_setting) (vs := [am_r l1, am_i (I l0 (Int.toNat (am_wr (l4 + 1)))), am_r l3]) (st := []) dL_law_1012 ok_L_setting rfl mk_L_140 sm_L_setting rfl rfl (by omega) (Nat.le_of_ble_eq_true rfl) hk9 hn9 am_xh_nx (am_C_mono h (fun v K295 N296 I297 P298 z299 h => ?_) (fun _ _ _ _ _ _ h => h))
        replace h := am_iv_or h
        obtain ⟨x300, rfl, h⟩ := h
        show am_E d m_L_law 1015 (k + 1) (n + 6) _ [am_i x300] K295 N296 I297 P298 z299 Q am_nx
        refine e_istore dL_law_1015 ?_
        refine e_aload_n dL_law_1017 rfl trivial ?_
        refine e_aload_n dL_law_1018 rfl trivial ?_
        refine e_iload dL_law_1019 rfl ?_
        refine e_iconst dL_law_1021 ?_
        refine e_iadd dL_law_1022 ?_
        obtain ⟨⟨h0, h1⟩, h⟩ := h
        refine e_ialdC dL_law_1023 ha4 h0 h1 ?_
        obtain ⟨⟨hk9, hn9⟩, h⟩ := h
        obtain ⟨hK306, h⟩ := h
        refine e_callV (Mc := m_X8_setting) (vs := [am_i (I297 l0 (Int.toNat (am_wr (l4 + 1))))]) (st := []) dL_law_1024 ok_X8_setting rfl ⟨by decide, rfl⟩ mk_L_142 im_X8_setting sl_X8_setting rfl rfl hK306 (by omega) (Nat.le_of_ble_eq_true rfl) hk9 hn9 am_xh_nx (am_C_mono h (fun v K301 N302 I303 P304 z305 h => ?_) (fun _ _ _ _ _ _ h => h))
        replace h := am_iv_or h
        obtain ⟨x307, rfl, h⟩ := h
        show am_E d m_L_law 1027 (k + 1) (n + 6) _ [am_i x307] K301 N302 I303 P304 z305 Q am_nx
        refine e_istore dL_law_1027 ?_
        refine e_aload_n dL_law_1029 rfl trivial ?_
        obtain ⟨⟨hk9, hn9⟩, h⟩ := h
        obtain ⟨hK313, h⟩ := h
        refine e_callV (Mc := m_X8_thrown) (vs := []) (st := []) dL_law_1030 ok_X8_thrown rfl ⟨by decide, rfl⟩ mk_L_95 im_X8_thrown sl_X8_thrown rfl rfl hK313 (by omega) (Nat.le_of_ble_eq_true rfl) hk9 hn9 am_xh_nx (am_C_mono h (fun v K308 N309 I310 P311 z312 h => ?_) (fun _ _ _ _ _ _ h => h))
        replace h := am_iv_or h
        obtain ⟨x314, rfl, h⟩ := h
        show am_E d m_L_law 1033 (k + 1) (n + 6) _ [am_i x314] K308 N309 I310 P311 z312 Q am_nx
        refine e_iload dL_law_1033 rfl ?_
        refine e_icmp_eq (tgt := 1040) dL_law_1035 (by decide) (fun hc => ?_) (fun hc => ?_)
        · replace h := h.1 hc
          refine e_iload dL_law_1040 rfl ?_
          refine e_if_ne (tgt := 1057) dL_law_1042 (by decide) (fun hc => ?_) (fun hc => ?_)
          · replace h := h.1 hc
            refine e_goto (tgt := 1545) dL_law_1057 (by decide) ?_
            refine e_iinc dL_law_1545 rfl ?_
            refine e_goto (tgt := 23) dL_law_1548 (by decide) ?_
            exact e_forget (am_sub_k (am_sub_k (am_sub_k (am_sub_k (am_sub_k (am_sub_d (am_sub_d (am_sub_d (am_sub_d am_sub_nil))))))))) h
          · replace h := h.2 hc
            refine e_aload_n dL_law_1045 rfl trivial ?_
            refine e_iconst dL_law_1046 ?_
            obtain ⟨hK315, h⟩ := h
            obtain ⟨⟨h0, h1⟩, h⟩ := h
            refine e_lald dL_law_1047 hK315 h0 h1 ?_
            show am_E _ _ _ _ _ _ (am_j (I310 l3 0) :: _) _ _ _ _ _ _ _
            refine e_iload dL_law_1048 rfl ?_
            refine e_i2l dL_law_1050 ?_
            refine e_lcmp dL_law_1051 (fun hc => ?_) (fun hc v hv => ?_)
            · replace h := h.1 hc
              refine e_if_eq (tgt := 1057) dL_law_1052 (by decide) (fun _ => ?_) (fun q => absurd rfl q)
              refine e_goto (tgt := 1545) dL_law_1057 (by decide) ?_
              refine e_iinc dL_law_1545 rfl ?_
              refine e_goto (tgt := 23) dL_law_1548 (by decide) ?_
              exact e_forget (am_sub_k (am_sub_k (am_sub_k (am_sub_k (am_sub_k (am_sub_d (am_sub_d (am_sub_d (am_sub_d am_sub_nil))))))))) h
            · replace h := h.2 hc
              refine e_if_eq (tgt := 1057) dL_law_1052 (by decide) (fun q => absurd q hv) (fun _ => ?_)
              refine e_iconst dL_law_1055 ?_
              obtain ⟨⟨hk9, hn9⟩, h⟩ := h
              exact e_ret_z dL_law_1056 rfl (by decide) hk9 hn9 h
        · replace h := h.2 hc
          refine e_iconst dL_law_1038 ?_
          obtain ⟨⟨hk9, hn9⟩, h⟩ := h
          exact e_ret_z dL_law_1039 rfl (by decide) hk9 hn9 h
      · have h := h.2.2.2.2.2.2.2.2.2.2.2.2.2.2.2.1 (by omega)
        show am_E _ _ 1060 _ _ _ _ _ _ _ _ _ _ _
        refine e_aload_n dL_law_1060 rfl trivial ?_
        refine e_aload_n dL_law_1061 rfl trivial ?_
        refine e_iload dL_law_1062 rfl ?_
        refine e_iconst dL_law_1064 ?_
        refine e_iadd dL_law_1065 ?_
        obtain ⟨⟨h0, h1⟩, h⟩ := h
        refine e_ialdC dL_law_1066 ha4 h0 h1 ?_
        refine e_aload_n dL_law_1067 rfl trivial ?_
        obtain ⟨⟨hk9, hn9⟩, h⟩ := h
        refine e_callSX (Mc := m_L_routeAt) (vs := [am_r l1, am_i (I l0 (Int.toNat (am_wr (l4 + 1)))), am_r l3]) (st := []) dL_law_1068 ok_L_routeAt rfl mk_L_143 sm_L_routeAt rfl rfl (by omega) (Nat.le_of_ble_eq_true rfl) hk9 hn9 am_xh_nx (am_C_mono h (fun v K316 N317 I318 P319 z320 h => ?_) (fun _ _ _ _ _ _ h => h))
        replace h := am_iv_or h
        obtain ⟨x321, rfl, h⟩ := h
        show am_E d m_L_law 1071 (k + 1) (n + 6) _ [am_i x321] K316 N317 I318 P319 z320 Q am_nx
        refine e_istore dL_law_1071 ?_
        refine e_aload_n dL_law_1073 rfl trivial ?_
        refine e_aload_n dL_law_1074 rfl trivial ?_
        refine e_iload dL_law_1075 rfl ?_
        refine e_iconst dL_law_1077 ?_
        refine e_iadd dL_law_1078 ?_
        obtain ⟨⟨h0, h1⟩, h⟩ := h
        refine e_ialdC dL_law_1079 ha4 h0 h1 ?_
        obtain ⟨⟨hk9, hn9⟩, h⟩ := h
        obtain ⟨hK327, h⟩ := h
        refine e_callV (Mc := m_X8_routeAt) (vs := [am_i (I318 l0 (Int.toNat (am_wr (l4 + 1))))]) (st := []) dL_law_1080 ok_X8_routeAt rfl ⟨by decide, rfl⟩ mk_L_145 im_X8_routeAt sl_X8_routeAt rfl rfl hK327 (by omega) (Nat.le_of_ble_eq_true rfl) hk9 hn9 am_xh_nx (am_C_mono h (fun v K322 N323 I324 P325 z326 h => ?_) (fun _ _ _ _ _ _ h => h))
        replace h := am_iv_or h
        obtain ⟨x328, rfl, h⟩ := h
        show am_E d m_L_law 1083 (k + 1) (n + 6) _ [am_i x328] K322 N323 I324 P325 z326 Q am_nx
        refine e_istore dL_law_1083 ?_
        refine e_aload_n dL_law_1085 rfl trivial ?_
        obtain ⟨⟨hk9, hn9⟩, h⟩ := h
        obtain ⟨hK334, h⟩ := h
        refine e_callV (Mc := m_X8_thrown) (vs := []) (st := []) dL_law_1086 ok_X8_thrown rfl ⟨by decide, rfl⟩ mk_L_95 im_X8_thrown sl_X8_thrown rfl rfl hK334 (by omega) (Nat.le_of_ble_eq_true rfl) hk9 hn9 am_xh_nx (am_C_mono h (fun v K329 N330 I331 P332 z333 h => ?_) (fun _ _ _ _ _ _ h => h))
        replace h := am_iv_or h
        obtain ⟨x335, rfl, h⟩ := h
        show am_E d m_L_law 1089 (k + 1) (n + 6) _ [am_i x335] K329 N330 I331 P332 z333 Q am_nx
        refine e_iload dL_law_1089 rfl ?_
        refine e_icmp_eq (tgt := 1096) dL_law_1091 (by decide) (fun hc => ?_) (fun hc => ?_)
        · replace h := h.1 hc
          refine e_iload dL_law_1096 rfl ?_
          refine e_if_ne (tgt := 1113) dL_law_1098 (by decide) (fun hc => ?_) (fun hc => ?_)
          · replace h := h.1 hc
            refine e_goto (tgt := 1545) dL_law_1113 (by decide) ?_
            refine e_iinc dL_law_1545 rfl ?_
            refine e_goto (tgt := 23) dL_law_1548 (by decide) ?_
            exact e_forget (am_sub_k (am_sub_k (am_sub_k (am_sub_k (am_sub_k (am_sub_d (am_sub_d (am_sub_d (am_sub_d am_sub_nil))))))))) h
          · replace h := h.2 hc
            refine e_aload_n dL_law_1101 rfl trivial ?_
            refine e_iconst dL_law_1102 ?_
            obtain ⟨hK336, h⟩ := h
            obtain ⟨⟨h0, h1⟩, h⟩ := h
            refine e_lald dL_law_1103 hK336 h0 h1 ?_
            show am_E _ _ _ _ _ _ (am_j (I331 l3 0) :: _) _ _ _ _ _ _ _
            refine e_iload dL_law_1104 rfl ?_
            refine e_i2l dL_law_1106 ?_
            refine e_lcmp dL_law_1107 (fun hc => ?_) (fun hc v hv => ?_)
            · replace h := h.1 hc
              refine e_if_eq (tgt := 1113) dL_law_1108 (by decide) (fun _ => ?_) (fun q => absurd rfl q)
              refine e_goto (tgt := 1545) dL_law_1113 (by decide) ?_
              refine e_iinc dL_law_1545 rfl ?_
              refine e_goto (tgt := 23) dL_law_1548 (by decide) ?_
              exact e_forget (am_sub_k (am_sub_k (am_sub_k (am_sub_k (am_sub_k (am_sub_d (am_sub_d (am_sub_d (am_sub_d am_sub_nil))))))))) h
            · replace h := h.2 hc
              refine e_if_eq (tgt := 1113) dL_law_1108 (by decide) (fun q => absurd q hv) (fun _ => ?_)
              refine e_iconst dL_law_1111 ?_
              obtain ⟨⟨hk9, hn9⟩, h⟩ := h
              exact e_ret_z dL_law_1112 rfl (by decide) hk9 hn9 h
        · replace h := h.2 hc
          refine e_iconst dL_law_1094 ?_
          obtain ⟨⟨hk9, hn9⟩, h⟩ := h
          exact e_ret_z dL_law_1095 rfl (by decide) hk9 hn9 h
      · have h := h.2.2.2.2.2.2.2.2.2.2.2.2.2.2.2.2.1 (by omega)
        show am_E _ _ 1116 _ _ _ _ _ _ _ _ _ _ _
        refine e_aload_n dL_law_1116 rfl trivial ?_
        refine e_aload_n dL_law_1117 rfl trivial ?_
        refine e_iload dL_law_1118 rfl ?_
        refine e_iconst dL_law_1120 ?_
        refine e_iadd dL_law_1121 ?_
        obtain ⟨⟨h0, h1⟩, h⟩ := h
        refine e_ialdC dL_law_1122 ha4 h0 h1 ?_
        refine e_aload_n dL_law_1123 rfl trivial ?_
        obtain ⟨⟨hk9, hn9⟩, h⟩ := h
        refine e_callSX (Mc := m_L_gapAhead) (vs := [am_r l1, am_i (I l0 (Int.toNat (am_wr (l4 + 1)))), am_r l3]) (st := []) dL_law_1124 ok_L_gapAhead rfl mk_L_146 sm_L_gapAhead rfl rfl (by omega) (Nat.le_of_ble_eq_true rfl) hk9 hn9 am_xh_nx (am_C_mono h (fun v K337 N338 I339 P340 z341 h => ?_) (fun _ _ _ _ _ _ h => h))
        replace h := am_iv_or h
        obtain ⟨x342, rfl, h⟩ := h
        show am_E d m_L_law 1127 (k + 1) (n + 6) _ [am_i x342] K337 N338 I339 P340 z341 Q am_nx
        refine e_istore dL_law_1127 ?_
        refine e_aload_n dL_law_1129 rfl trivial ?_
        refine e_aload_n dL_law_1130 rfl trivial ?_
        refine e_iload dL_law_1131 rfl ?_
        refine e_iconst dL_law_1133 ?_
        refine e_iadd dL_law_1134 ?_
        obtain ⟨⟨h0, h1⟩, h⟩ := h
        refine e_ialdC dL_law_1135 ha4 h0 h1 ?_
        obtain ⟨⟨hk9, hn9⟩, h⟩ := h
        obtain ⟨hK348, h⟩ := h
        refine e_callV (Mc := m_X8_gapAhead) (vs := [am_i (I339 l0 (Int.toNat (am_wr (l4 + 1))))]) (st := []) dL_law_1136 ok_X8_gapAhead rfl ⟨by decide, rfl⟩ mk_L_148 im_X8_gapAhead sl_X8_gapAhead rfl rfl hK348 (by omega) (Nat.le_of_ble_eq_true rfl) hk9 hn9 am_xh_nx (am_C_mono h (fun v K343 N344 I345 P346 z347 h => ?_) (fun _ _ _ _ _ _ h => h))
        replace h := am_iv_or h
        obtain ⟨x349, rfl, h⟩ := h
        show am_E d m_L_law 1139 (k + 1) (n + 6) _ [am_i x349] K343 N344 I345 P346 z347 Q am_nx
        refine e_istore dL_law_1139 ?_
        refine e_aload_n dL_law_1141 rfl trivial ?_
        obtain ⟨⟨hk9, hn9⟩, h⟩ := h
        obtain ⟨hK355, h⟩ := h
        refine e_callV (Mc := m_X8_thrown) (vs := []) (st := []) dL_law_1142 ok_X8_thrown rfl ⟨by decide, rfl⟩ mk_L_95 im_X8_thrown sl_X8_thrown rfl rfl hK355 (by omega) (Nat.le_of_ble_eq_true rfl) hk9 hn9 am_xh_nx (am_C_mono h (fun v K350 N351 I352 P353 z354 h => ?_) (fun _ _ _ _ _ _ h => h))
        replace h := am_iv_or h
        obtain ⟨x356, rfl, h⟩ := h
        show am_E d m_L_law 1145 (k + 1) (n + 6) _ [am_i x356] K350 N351 I352 P353 z354 Q am_nx
        refine e_iload dL_law_1145 rfl ?_
        refine e_icmp_eq (tgt := 1152) dL_law_1147 (by decide) (fun hc => ?_) (fun hc => ?_)
        · replace h := h.1 hc
          refine e_iload dL_law_1152 rfl ?_
          refine e_if_ne (tgt := 1169) dL_law_1154 (by decide) (fun hc => ?_) (fun hc => ?_)
          · replace h := h.1 hc
            refine e_goto (tgt := 1545) dL_law_1169 (by decide) ?_
            refine e_iinc dL_law_1545 rfl ?_
            refine e_goto (tgt := 23) dL_law_1548 (by decide) ?_
            exact e_forget (am_sub_k (am_sub_k (am_sub_k (am_sub_k (am_sub_k (am_sub_d (am_sub_d (am_sub_d (am_sub_d am_sub_nil))))))))) h
          · replace h := h.2 hc
            refine e_aload_n dL_law_1157 rfl trivial ?_
            refine e_iconst dL_law_1158 ?_
            obtain ⟨hK357, h⟩ := h
            obtain ⟨⟨h0, h1⟩, h⟩ := h
            refine e_lald dL_law_1159 hK357 h0 h1 ?_
            show am_E _ _ _ _ _ _ (am_j (I352 l3 0) :: _) _ _ _ _ _ _ _
            refine e_iload dL_law_1160 rfl ?_
            refine e_i2l dL_law_1162 ?_
            refine e_lcmp dL_law_1163 (fun hc => ?_) (fun hc v hv => ?_)
            · replace h := h.1 hc
              refine e_if_eq (tgt := 1169) dL_law_1164 (by decide) (fun _ => ?_) (fun q => absurd rfl q)
              refine e_goto (tgt := 1545) dL_law_1169 (by decide) ?_
              refine e_iinc dL_law_1545 rfl ?_
              refine e_goto (tgt := 23) dL_law_1548 (by decide) ?_
              exact e_forget (am_sub_k (am_sub_k (am_sub_k (am_sub_k (am_sub_k (am_sub_d (am_sub_d (am_sub_d (am_sub_d am_sub_nil))))))))) h
            · replace h := h.2 hc
              refine e_if_eq (tgt := 1169) dL_law_1164 (by decide) (fun q => absurd q hv) (fun _ => ?_)
              refine e_iconst dL_law_1167 ?_
              obtain ⟨⟨hk9, hn9⟩, h⟩ := h
              exact e_ret_z dL_law_1168 rfl (by decide) hk9 hn9 h
        · replace h := h.2 hc
          refine e_iconst dL_law_1150 ?_
          obtain ⟨⟨hk9, hn9⟩, h⟩ := h
          exact e_ret_z dL_law_1151 rfl (by decide) hk9 hn9 h
      · have h := h.2.2.2.2.2.2.2.2.2.2.2.2.2.2.2.2.2.1 (by omega)
        show am_E _ _ 1172 _ _ _ _ _ _ _ _ _ _ _
        refine e_aload_n dL_law_1172 rfl trivial ?_
        refine e_aload_n dL_law_1173 rfl trivial ?_
        refine e_iload dL_law_1174 rfl ?_
        refine e_iconst dL_law_1176 ?_
        refine e_iadd dL_law_1177 ?_
        obtain ⟨⟨h0, h1⟩, h⟩ := h
        refine e_ialdC dL_law_1178 ha4 h0 h1 ?_
        refine e_aload_n dL_law_1179 rfl trivial ?_
        obtain ⟨⟨hk9, hn9⟩, h⟩ := h
        refine e_callSX (Mc := m_L_ranked) (vs := [am_r l1, am_i (I l0 (Int.toNat (am_wr (l4 + 1)))), am_r l3]) (st := []) dL_law_1180 ok_L_ranked rfl mk_L_149 sm_L_ranked rfl rfl (by omega) (Nat.le_of_ble_eq_true rfl) hk9 hn9 am_xh_nx (am_C_mono h (fun v K358 N359 I360 P361 z362 h => ?_) (fun _ _ _ _ _ _ h => h))
        replace h := am_iv_or h
        obtain ⟨x363, rfl, h⟩ := h
        show am_E d m_L_law 1183 (k + 1) (n + 6) _ [am_i x363] K358 N359 I360 P361 z362 Q am_nx
        refine e_istore dL_law_1183 ?_
        refine e_aload_n dL_law_1185 rfl trivial ?_
        refine e_aload_n dL_law_1186 rfl trivial ?_
        refine e_iload dL_law_1187 rfl ?_
        refine e_iconst dL_law_1189 ?_
        refine e_iadd dL_law_1190 ?_
        obtain ⟨⟨h0, h1⟩, h⟩ := h
        refine e_ialdC dL_law_1191 ha4 h0 h1 ?_
        obtain ⟨⟨hk9, hn9⟩, h⟩ := h
        obtain ⟨hK369, h⟩ := h
        refine e_callV (Mc := m_X8_ranked) (vs := [am_i (I360 l0 (Int.toNat (am_wr (l4 + 1))))]) (st := []) dL_law_1192 ok_X8_ranked rfl ⟨by decide, rfl⟩ mk_L_151 im_X8_ranked sl_X8_ranked rfl rfl hK369 (by omega) (Nat.le_of_ble_eq_true rfl) hk9 hn9 am_xh_nx (am_C_mono h (fun v K364 N365 I366 P367 z368 h => ?_) (fun _ _ _ _ _ _ h => h))
        replace h := am_iv_or h
        obtain ⟨x370, rfl, h⟩ := h
        show am_E d m_L_law 1195 (k + 1) (n + 6) _ [am_i x370] K364 N365 I366 P367 z368 Q am_nx
        refine e_istore dL_law_1195 ?_
        refine e_aload_n dL_law_1197 rfl trivial ?_
        obtain ⟨⟨hk9, hn9⟩, h⟩ := h
        obtain ⟨hK376, h⟩ := h
        refine e_callV (Mc := m_X8_thrown) (vs := []) (st := []) dL_law_1198 ok_X8_thrown rfl ⟨by decide, rfl⟩ mk_L_95 im_X8_thrown sl_X8_thrown rfl rfl hK376 (by omega) (Nat.le_of_ble_eq_true rfl) hk9 hn9 am_xh_nx (am_C_mono h (fun v K371 N372 I373 P374 z375 h => ?_) (fun _ _ _ _ _ _ h => h))
        replace h := am_iv_or h
        obtain ⟨x377, rfl, h⟩ := h
        show am_E d m_L_law 1201 (k + 1) (n + 6) _ [am_i x377] K371 N372 I373 P374 z375 Q am_nx
        refine e_iload dL_law_1201 rfl ?_
        refine e_icmp_eq (tgt := 1208) dL_law_1203 (by decide) (fun hc => ?_) (fun hc => ?_)
        · replace h := h.1 hc
          refine e_iload dL_law_1208 rfl ?_
          refine e_if_ne (tgt := 1225) dL_law_1210 (by decide) (fun hc => ?_) (fun hc => ?_)
          · replace h := h.1 hc
            refine e_goto (tgt := 1545) dL_law_1225 (by decide) ?_
            refine e_iinc dL_law_1545 rfl ?_
            refine e_goto (tgt := 23) dL_law_1548 (by decide) ?_
            exact e_forget (am_sub_k (am_sub_k (am_sub_k (am_sub_k (am_sub_k (am_sub_d (am_sub_d (am_sub_d (am_sub_d am_sub_nil))))))))) h
          · replace h := h.2 hc
            refine e_aload_n dL_law_1213 rfl trivial ?_
            refine e_iconst dL_law_1214 ?_
            obtain ⟨hK378, h⟩ := h
            obtain ⟨⟨h0, h1⟩, h⟩ := h
            refine e_lald dL_law_1215 hK378 h0 h1 ?_
            show am_E _ _ _ _ _ _ (am_j (I373 l3 0) :: _) _ _ _ _ _ _ _
            refine e_iload dL_law_1216 rfl ?_
            refine e_i2l dL_law_1218 ?_
            refine e_lcmp dL_law_1219 (fun hc => ?_) (fun hc v hv => ?_)
            · replace h := h.1 hc
              refine e_if_eq (tgt := 1225) dL_law_1220 (by decide) (fun _ => ?_) (fun q => absurd rfl q)
              refine e_goto (tgt := 1545) dL_law_1225 (by decide) ?_
              refine e_iinc dL_law_1545 rfl ?_
              refine e_goto (tgt := 23) dL_law_1548 (by decide) ?_
              exact e_forget (am_sub_k (am_sub_k (am_sub_k (am_sub_k (am_sub_k (am_sub_d (am_sub_d (am_sub_d (am_sub_d am_sub_nil))))))))) h
            · replace h := h.2 hc
              refine e_if_eq (tgt := 1225) dL_law_1220 (by decide) (fun q => absurd q hv) (fun _ => ?_)
              refine e_iconst dL_law_1223 ?_
              obtain ⟨⟨hk9, hn9⟩, h⟩ := h
              exact e_ret_z dL_law_1224 rfl (by decide) hk9 hn9 h
        · replace h := h.2 hc
          refine e_iconst dL_law_1206 ?_
          obtain ⟨⟨hk9, hn9⟩, h⟩ := h
          exact e_ret_z dL_law_1207 rfl (by decide) hk9 hn9 h
      · have h := h.2.2.2.2.2.2.2.2.2.2.2.2.2.2.2.2.2.2.1 (by omega)
        show am_E _ _ 1228 _ _ _ _ _ _ _ _ _ _ _
        refine e_aload_n dL_law_1228 rfl trivial ?_
        obtain ⟨⟨hk9, hn9⟩, h⟩ := h
        obtain ⟨hK384, h⟩ := h
        refine e_callV (Mc := m_X7_share) (vs := []) (st := []) dL_law_1229 ok_X7_share rfl ⟨by decide, rfl⟩ mk_L_152 im_X7_share sl_X7_share rfl rfl hK384 (by omega) (Nat.le_of_ble_eq_true rfl) hk9 hn9 am_xh_nx (am_C_mono h (fun v K379 N380 I381 P382 z383 h => ?_) (fun _ _ _ _ _ _ h => h))
        replace h := am_dv_or h
        obtain ⟨x385, rfl, h⟩ := h
        show am_E d m_L_law 1232 k n _ [am_d x385] K379 N380 I381 P382 z383 Q am_nx
        refine e_dstore dL_law_1232 ?_
        refine e_aload_n dL_law_1234 rfl trivial ?_
        obtain ⟨⟨hk9, hn9⟩, h⟩ := h
        obtain ⟨hK391, h⟩ := h
        refine e_callV (Mc := m_X8_share) (vs := []) (st := []) dL_law_1235 ok_X8_share rfl ⟨by decide, rfl⟩ mk_L_156 im_X8_share sl_X8_share rfl rfl hK391 (by omega) (Nat.le_of_ble_eq_true rfl) hk9 hn9 am_xh_nx (am_C_mono h (fun v K386 N387 I388 P389 z390 h => ?_) (fun _ _ _ _ _ _ h => h))
        replace h := am_dv_or h
        obtain ⟨x392, rfl, h⟩ := h
        show am_E d m_L_law 1238 k n _ [am_d x392] K386 N387 I388 P389 z390 Q am_nx
        refine e_dstore dL_law_1238 ?_
        refine e_dload dL_law_1240 rfl ?_
        refine e_dload dL_law_1242 rfl ?_
        refine e_dcmp dL_law_1244 ?_
        refine e_if_eq (tgt := 1266) dL_law_1245 (by decide) (fun hc => ?_) (fun hc => ?_)
        · replace h := h.1 hc
          refine e_goto (tgt := 1545) dL_law_1266 (by decide) ?_
          refine e_iinc dL_law_1545 rfl ?_
          refine e_goto (tgt := 23) dL_law_1548 (by decide) ?_
          exact e_forget (am_sub_k (am_sub_k (am_sub_k (am_sub_k (am_sub_k (am_sub_d (am_sub_d (am_sub_d (am_sub_d am_sub_nil))))))))) h
        · replace h := h.2 hc
          refine e_dload dL_law_1248 rfl ?_
          refine e_dload dL_law_1250 rfl ?_
          refine e_dcmp dL_law_1252 ?_
          refine e_if_eq (tgt := 1264) dL_law_1253 (by decide) (fun hc => ?_) (fun hc => ?_)
          · replace h := h.1 hc
            refine e_iconst dL_law_1264 ?_
            obtain ⟨⟨hk9, hn9⟩, h⟩ := h
            exact e_ret_z dL_law_1265 rfl (by decide) hk9 hn9 h
          · replace h := h.2 hc
            refine e_dload dL_law_1256 rfl ?_
            refine e_dload dL_law_1258 rfl ?_
            refine e_dcmp dL_law_1260 ?_
            refine e_if_ne (tgt := 1266) dL_law_1261 (by decide) (fun hc => ?_) (fun hc => ?_)
            · replace h := h.1 hc
              refine e_goto (tgt := 1545) dL_law_1266 (by decide) ?_
              refine e_iinc dL_law_1545 rfl ?_
              refine e_goto (tgt := 23) dL_law_1548 (by decide) ?_
              exact e_forget (am_sub_k (am_sub_k (am_sub_k (am_sub_k (am_sub_k (am_sub_d (am_sub_d (am_sub_d (am_sub_d am_sub_nil))))))))) h
            · replace h := h.2 hc
              refine e_iconst dL_law_1264 ?_
              obtain ⟨⟨hk9, hn9⟩, h⟩ := h
              exact e_ret_z dL_law_1265 rfl (by decide) hk9 hn9 h
      · have h := h.2.2.2.2.2.2.2.2.2.2.2.2.2.2.2.2.2.2.2.1 (by omega)
        show am_E _ _ 1269 _ _ _ _ _ _ _ _ _ _ _
        refine e_aload_n dL_law_1269 rfl trivial ?_
        refine e_aload_n dL_law_1270 rfl trivial ?_
        refine e_iload dL_law_1271 rfl ?_
        refine e_iconst dL_law_1273 ?_
        refine e_iadd dL_law_1274 ?_
        obtain ⟨⟨h0, h1⟩, h⟩ := h
        refine e_ialdC dL_law_1275 ha4 h0 h1 ?_
        refine e_aload_n dL_law_1276 rfl trivial ?_
        obtain ⟨⟨hk9, hn9⟩, h⟩ := h
        refine e_callSX (Mc := m_L_fateOf) (vs := [am_r l1, am_i (I l0 (Int.toNat (am_wr (l4 + 1)))), am_r l3]) (st := []) dL_law_1277 ok_L_fateOf rfl mk_L_157 sm_L_fateOf rfl rfl (by omega) (Nat.le_of_ble_eq_true rfl) hk9 hn9 am_xh_nx (am_C_mono h (fun v K393 N394 I395 P396 z397 h => ?_) (fun _ _ _ _ _ _ h => h))
        replace h := am_iv_or h
        obtain ⟨x398, rfl, h⟩ := h
        show am_E d m_L_law 1280 (k + 1) (n + 6) _ [am_i x398] K393 N394 I395 P396 z397 Q am_nx
        refine e_istore dL_law_1280 ?_
        refine e_aload_n dL_law_1282 rfl trivial ?_
        refine e_aload_n dL_law_1283 rfl trivial ?_
        refine e_iload dL_law_1284 rfl ?_
        refine e_iconst dL_law_1286 ?_
        refine e_iadd dL_law_1287 ?_
        obtain ⟨⟨h0, h1⟩, h⟩ := h
        refine e_ialdC dL_law_1288 ha4 h0 h1 ?_
        obtain ⟨⟨hk9, hn9⟩, h⟩ := h
        obtain ⟨hK404, h⟩ := h
        refine e_callV (Mc := m_X8_fateOf) (vs := [am_i (I395 l0 (Int.toNat (am_wr (l4 + 1))))]) (st := []) dL_law_1289 ok_X8_fateOf rfl ⟨by decide, rfl⟩ mk_L_159 im_X8_fateOf sl_X8_fateOf rfl rfl hK404 (by omega) (Nat.le_of_ble_eq_true rfl) hk9 hn9 am_xh_nx (am_C_mono h (fun v K399 N400 I401 P402 z403 h => ?_) (fun _ _ _ _ _ _ h => h))
        replace h := am_iv_or h
        obtain ⟨x405, rfl, h⟩ := h
        show am_E d m_L_law 1292 (k + 1) (n + 6) _ [am_i x405] K399 N400 I401 P402 z403 Q am_nx
        refine e_istore dL_law_1292 ?_
        refine e_aload_n dL_law_1294 rfl trivial ?_
        obtain ⟨⟨hk9, hn9⟩, h⟩ := h
        obtain ⟨hK411, h⟩ := h
        refine e_callV (Mc := m_X8_thrown) (vs := []) (st := []) dL_law_1295 ok_X8_thrown rfl ⟨by decide, rfl⟩ mk_L_95 im_X8_thrown sl_X8_thrown rfl rfl hK411 (by omega) (Nat.le_of_ble_eq_true rfl) hk9 hn9 am_xh_nx (am_C_mono h (fun v K406 N407 I408 P409 z410 h => ?_) (fun _ _ _ _ _ _ h => h))
        replace h := am_iv_or h
        obtain ⟨x412, rfl, h⟩ := h
        show am_E d m_L_law 1298 (k + 1) (n + 6) _ [am_i x412] K406 N407 I408 P409 z410 Q am_nx
        refine e_iload dL_law_1298 rfl ?_
        refine e_icmp_eq (tgt := 1305) dL_law_1300 (by decide) (fun hc => ?_) (fun hc => ?_)
        · replace h := h.1 hc
          refine e_iload dL_law_1305 rfl ?_
          refine e_if_ne (tgt := 1322) dL_law_1307 (by decide) (fun hc => ?_) (fun hc => ?_)
          · replace h := h.1 hc
            refine e_goto (tgt := 1545) dL_law_1322 (by decide) ?_
            refine e_iinc dL_law_1545 rfl ?_
            refine e_goto (tgt := 23) dL_law_1548 (by decide) ?_
            exact e_forget (am_sub_k (am_sub_k (am_sub_k (am_sub_k (am_sub_k (am_sub_d (am_sub_d (am_sub_d (am_sub_d am_sub_nil))))))))) h
          · replace h := h.2 hc
            refine e_aload_n dL_law_1310 rfl trivial ?_
            refine e_iconst dL_law_1311 ?_
            obtain ⟨hK413, h⟩ := h
            obtain ⟨⟨h0, h1⟩, h⟩ := h
            refine e_lald dL_law_1312 hK413 h0 h1 ?_
            show am_E _ _ _ _ _ _ (am_j (I408 l3 0) :: _) _ _ _ _ _ _ _
            refine e_iload dL_law_1313 rfl ?_
            refine e_i2l dL_law_1315 ?_
            refine e_lcmp dL_law_1316 (fun hc => ?_) (fun hc v hv => ?_)
            · replace h := h.1 hc
              refine e_if_eq (tgt := 1322) dL_law_1317 (by decide) (fun _ => ?_) (fun q => absurd rfl q)
              refine e_goto (tgt := 1545) dL_law_1322 (by decide) ?_
              refine e_iinc dL_law_1545 rfl ?_
              refine e_goto (tgt := 23) dL_law_1548 (by decide) ?_
              exact e_forget (am_sub_k (am_sub_k (am_sub_k (am_sub_k (am_sub_k (am_sub_d (am_sub_d (am_sub_d (am_sub_d am_sub_nil))))))))) h
            · replace h := h.2 hc
              refine e_if_eq (tgt := 1322) dL_law_1317 (by decide) (fun q => absurd q hv) (fun _ => ?_)
              refine e_iconst dL_law_1320 ?_
              obtain ⟨⟨hk9, hn9⟩, h⟩ := h
              exact e_ret_z dL_law_1321 rfl (by decide) hk9 hn9 h
        · replace h := h.2 hc
          refine e_iconst dL_law_1303 ?_
          obtain ⟨⟨hk9, hn9⟩, h⟩ := h
          exact e_ret_z dL_law_1304 rfl (by decide) hk9 hn9 h
      · have h := h.2.2.2.2.2.2.2.2.2.2.2.2.2.2.2.2.2.2.2.2.1 (by omega)
        show am_E _ _ 1325 _ _ _ _ _ _ _ _ _ _ _
        refine e_aload_n dL_law_1325 rfl trivial ?_
        obtain ⟨⟨hk9, hn9⟩, h⟩ := h
        obtain ⟨hK419, h⟩ := h
        refine e_callV (Mc := m_X7_entryIn) (vs := []) (st := []) dL_law_1326 ok_X7_entryIn rfl ⟨by decide, rfl⟩ mk_L_160 im_X7_entryIn sl_X7_entryIn rfl rfl hK419 (by omega) (Nat.le_of_ble_eq_true rfl) hk9 hn9 am_xh_nx (am_C_mono h (fun v K414 N415 I416 P417 z418 h => ?_) (fun _ _ _ _ _ _ h => h))
        replace h := am_iv_or h
        obtain ⟨x420, rfl, h⟩ := h
        show am_E d m_L_law 1329 k n _ [am_i x420] K414 N415 I416 P417 z418 Q am_nx
        refine e_aload_n dL_law_1329 rfl trivial ?_
        obtain ⟨⟨hk9, hn9⟩, h⟩ := h
        obtain ⟨hK426, h⟩ := h
        refine e_callV (Mc := m_X8_entryIn) (vs := []) (st := [am_i x420]) dL_law_1330 ok_X8_entryIn rfl ⟨by decide, rfl⟩ mk_L_163 im_X8_entryIn sl_X8_entryIn rfl rfl hK426 (by omega) (Nat.le_of_ble_eq_true rfl) hk9 hn9 am_xh_nx (am_C_mono h (fun v K421 N422 I423 P424 z425 h => ?_) (fun _ _ _ _ _ _ h => h))
        replace h := am_iv_or h
        obtain ⟨x427, rfl, h⟩ := h
        show am_E d m_L_law 1333 k n _ [am_i x427, am_i x420] K421 N422 I423 P424 z425 Q am_nx
        refine e_icmp_eq (tgt := 1545) dL_law_1333 (by decide) (fun hc => ?_) (fun hc => ?_)
        · replace h := h.1 hc
          refine e_iinc dL_law_1545 rfl ?_
          refine e_goto (tgt := 23) dL_law_1548 (by decide) ?_
          exact e_forget (am_sub_k (am_sub_k (am_sub_k (am_sub_k (am_sub_k (am_sub_d (am_sub_d (am_sub_d (am_sub_d am_sub_nil))))))))) h
        · replace h := h.2 hc
          refine e_iconst dL_law_1336 ?_
          obtain ⟨⟨hk9, hn9⟩, h⟩ := h
          exact e_ret_z dL_law_1337 rfl (by decide) hk9 hn9 h
      · have h := h.2.2.2.2.2.2.2.2.2.2.2.2.2.2.2.2.2.2.2.2.2.1 (by omega)
        show am_E _ _ 1338 _ _ _ _ _ _ _ _ _ _ _
        refine e_aload_n dL_law_1338 rfl trivial ?_
        obtain ⟨⟨hk9, hn9⟩, h⟩ := h
        obtain ⟨hK433, h⟩ := h
        refine e_callV (Mc := m_X7_nextLeaving) (vs := []) (st := []) dL_law_1339 ok_X7_nextLeaving rfl ⟨by decide, rfl⟩ mk_L_164 im_X7_nextLeaving sl_X7_nextLeaving rfl rfl hK433 (by omega) (Nat.le_of_ble_eq_true rfl) hk9 hn9 am_xh_nx (am_C_mono h (fun v K428 N429 I430 P431 z432 h => ?_) (fun _ _ _ _ _ _ h => h))
        replace h := am_iv_or h
        obtain ⟨x434, rfl, h⟩ := h
        show am_E d m_L_law 1342 k n _ [am_i x434] K428 N429 I430 P431 z432 Q am_nx
        refine e_aload_n dL_law_1342 rfl trivial ?_
        obtain ⟨⟨hk9, hn9⟩, h⟩ := h
        obtain ⟨hK440, h⟩ := h
        refine e_callV (Mc := m_X8_nextLeaving) (vs := []) (st := [am_i x434]) dL_law_1343 ok_X8_nextLeaving rfl ⟨by decide, rfl⟩ mk_L_167 im_X8_nextLeaving sl_X8_nextLeaving rfl rfl hK440 (by omega) (Nat.le_of_ble_eq_true rfl) hk9 hn9 am_xh_nx (am_C_mono h (fun v K435 N436 I437 P438 z439 h => ?_) (fun _ _ _ _ _ _ h => h))
        replace h := am_iv_or h
        obtain ⟨x441, rfl, h⟩ := h
        show am_E d m_L_law 1346 k n _ [am_i x441, am_i x434] K435 N436 I437 P438 z439 Q am_nx
        refine e_icmp_eq (tgt := 1545) dL_law_1346 (by decide) (fun hc => ?_) (fun hc => ?_)
        · replace h := h.1 hc
          refine e_iinc dL_law_1545 rfl ?_
          refine e_goto (tgt := 23) dL_law_1548 (by decide) ?_
          exact e_forget (am_sub_k (am_sub_k (am_sub_k (am_sub_k (am_sub_k (am_sub_d (am_sub_d (am_sub_d (am_sub_d am_sub_nil))))))))) h
        · replace h := h.2 hc
          refine e_iconst dL_law_1349 ?_
          obtain ⟨⟨hk9, hn9⟩, h⟩ := h
          exact e_ret_z dL_law_1350 rfl (by decide) hk9 hn9 h
      · have h := h.2.2.2.2.2.2.2.2.2.2.2.2.2.2.2.2.2.2.2.2.2.2.1 (by omega)
        show am_E _ _ 1351 _ _ _ _ _ _ _ _ _ _ _
        refine e_aload_n dL_law_1351 rfl trivial ?_
        refine e_aload_n dL_law_1352 rfl trivial ?_
        refine e_iload dL_law_1353 rfl ?_
        refine e_iconst dL_law_1355 ?_
        refine e_iadd dL_law_1356 ?_
        obtain ⟨⟨h0, h1⟩, h⟩ := h
        refine e_ialdC dL_law_1357 ha4 h0 h1 ?_
        refine e_aload_n dL_law_1358 rfl trivial ?_
        refine e_iload dL_law_1359 rfl ?_
        refine e_iconst dL_law_1361 ?_
        refine e_iadd dL_law_1362 ?_
        obtain ⟨⟨h0, h1⟩, h⟩ := h
        refine e_ialdC dL_law_1363 ha4 h0 h1 ?_
        refine e_aload_n dL_law_1364 rfl trivial ?_
        obtain ⟨⟨hk9, hn9⟩, h⟩ := h
        refine e_callSX (Mc := m_L_laneFor) (vs := [am_r l1, am_i (I l0 (Int.toNat (am_wr (l4 + 1)))), am_i (I l0 (Int.toNat (am_wr (l4 + 2)))), am_r l3]) (st := []) dL_law_1365 ok_L_laneFor rfl mk_L_168 sm_L_laneFor rfl rfl (by omega) (Nat.le_of_ble_eq_true rfl) hk9 hn9 am_xh_nx (am_C_mono h (fun v K442 N443 I444 P445 z446 h => ?_) (fun _ _ _ _ _ _ h => h))
        replace h := am_iv_or h
        obtain ⟨x447, rfl, h⟩ := h
        show am_E d m_L_law 1368 (k + 1) (n + 6) _ [am_i x447] K442 N443 I444 P445 z446 Q am_nx
        refine e_istore dL_law_1368 ?_
        refine e_aload_n dL_law_1370 rfl trivial ?_
        refine e_aload_n dL_law_1371 rfl trivial ?_
        refine e_iload dL_law_1372 rfl ?_
        refine e_iconst dL_law_1374 ?_
        refine e_iadd dL_law_1375 ?_
        obtain ⟨⟨h0, h1⟩, h⟩ := h
        refine e_ialdC dL_law_1376 ha4 h0 h1 ?_
        refine e_aload_n dL_law_1377 rfl trivial ?_
        refine e_iload dL_law_1378 rfl ?_
        refine e_iconst dL_law_1380 ?_
        refine e_iadd dL_law_1381 ?_
        obtain ⟨⟨h0, h1⟩, h⟩ := h
        refine e_ialdC dL_law_1382 ha4 h0 h1 ?_
        obtain ⟨⟨hk9, hn9⟩, h⟩ := h
        obtain ⟨hK453, h⟩ := h
        refine e_callV (Mc := m_X8_laneFor) (vs := [am_i (I444 l0 (Int.toNat (am_wr (l4 + 1)))), am_i (I444 l0 (Int.toNat (am_wr (l4 + 2))))]) (st := []) dL_law_1383 ok_X8_laneFor rfl ⟨by decide, rfl⟩ mk_L_170 im_X8_laneFor sl_X8_laneFor rfl rfl hK453 (by omega) (Nat.le_of_ble_eq_true rfl) hk9 hn9 am_xh_nx (am_C_mono h (fun v K448 N449 I450 P451 z452 h => ?_) (fun _ _ _ _ _ _ h => h))
        replace h := am_iv_or h
        obtain ⟨x454, rfl, h⟩ := h
        show am_E d m_L_law 1386 (k + 1) (n + 6) _ [am_i x454] K448 N449 I450 P451 z452 Q am_nx
        refine e_istore dL_law_1386 ?_
        refine e_aload_n dL_law_1388 rfl trivial ?_
        obtain ⟨⟨hk9, hn9⟩, h⟩ := h
        obtain ⟨hK460, h⟩ := h
        refine e_callV (Mc := m_X8_thrown) (vs := []) (st := []) dL_law_1389 ok_X8_thrown rfl ⟨by decide, rfl⟩ mk_L_95 im_X8_thrown sl_X8_thrown rfl rfl hK460 (by omega) (Nat.le_of_ble_eq_true rfl) hk9 hn9 am_xh_nx (am_C_mono h (fun v K455 N456 I457 P458 z459 h => ?_) (fun _ _ _ _ _ _ h => h))
        replace h := am_iv_or h
        obtain ⟨x461, rfl, h⟩ := h
        show am_E d m_L_law 1392 (k + 1) (n + 6) _ [am_i x461] K455 N456 I457 P458 z459 Q am_nx
        refine e_iload dL_law_1392 rfl ?_
        refine e_icmp_eq (tgt := 1399) dL_law_1394 (by decide) (fun hc => ?_) (fun hc => ?_)
        · replace h := h.1 hc
          refine e_iload dL_law_1399 rfl ?_
          refine e_if_ne (tgt := 1416) dL_law_1401 (by decide) (fun hc => ?_) (fun hc => ?_)
          · replace h := h.1 hc
            refine e_goto (tgt := 1545) dL_law_1416 (by decide) ?_
            refine e_iinc dL_law_1545 rfl ?_
            refine e_goto (tgt := 23) dL_law_1548 (by decide) ?_
            exact e_forget (am_sub_k (am_sub_k (am_sub_k (am_sub_k (am_sub_k (am_sub_d (am_sub_d (am_sub_d (am_sub_d am_sub_nil))))))))) h
          · replace h := h.2 hc
            refine e_aload_n dL_law_1404 rfl trivial ?_
            refine e_iconst dL_law_1405 ?_
            obtain ⟨hK462, h⟩ := h
            obtain ⟨⟨h0, h1⟩, h⟩ := h
            refine e_lald dL_law_1406 hK462 h0 h1 ?_
            show am_E _ _ _ _ _ _ (am_j (I457 l3 0) :: _) _ _ _ _ _ _ _
            refine e_iload dL_law_1407 rfl ?_
            refine e_i2l dL_law_1409 ?_
            refine e_lcmp dL_law_1410 (fun hc => ?_) (fun hc v hv => ?_)
            · replace h := h.1 hc
              refine e_if_eq (tgt := 1416) dL_law_1411 (by decide) (fun _ => ?_) (fun q => absurd rfl q)
              refine e_goto (tgt := 1545) dL_law_1416 (by decide) ?_
              refine e_iinc dL_law_1545 rfl ?_
              refine e_goto (tgt := 23) dL_law_1548 (by decide) ?_
              exact e_forget (am_sub_k (am_sub_k (am_sub_k (am_sub_k (am_sub_k (am_sub_d (am_sub_d (am_sub_d (am_sub_d am_sub_nil))))))))) h
            · replace h := h.2 hc
              refine e_if_eq (tgt := 1416) dL_law_1411 (by decide) (fun q => absurd q hv) (fun _ => ?_)
              refine e_iconst dL_law_1414 ?_
              obtain ⟨⟨hk9, hn9⟩, h⟩ := h
              exact e_ret_z dL_law_1415 rfl (by decide) hk9 hn9 h
        · replace h := h.2 hc
          refine e_iconst dL_law_1397 ?_
          obtain ⟨⟨hk9, hn9⟩, h⟩ := h
          exact e_ret_z dL_law_1398 rfl (by decide) hk9 hn9 h
      · have h := h.2.2.2.2.2.2.2.2.2.2.2.2.2.2.2.2.2.2.2.2.2.2.2.1 (by omega)
        show am_E _ _ 1419 _ _ _ _ _ _ _ _ _ _ _
        refine e_aload_n dL_law_1419 rfl trivial ?_
        refine e_aload_n dL_law_1420 rfl trivial ?_
        refine e_iload dL_law_1421 rfl ?_
        refine e_iconst dL_law_1423 ?_
        refine e_iadd dL_law_1424 ?_
        obtain ⟨⟨h0, h1⟩, h⟩ := h
        refine e_ialdC dL_law_1425 ha4 h0 h1 ?_
        refine e_aload_n dL_law_1426 rfl trivial ?_
        obtain ⟨⟨hk9, hn9⟩, h⟩ := h
        refine e_callSX (Mc := m_L_append) (vs := [am_r l1, am_i (I l0 (Int.toNat (am_wr (l4 + 1)))), am_r l3]) (st := []) dL_law_1427 ok_L_append rfl mk_L_171 sm_L_append rfl rfl (by omega) (Nat.le_of_ble_eq_true rfl) hk9 hn9 am_xh_nx (am_C_mono h (fun v K463 N464 I465 P466 z467 h => ?_) (fun _ _ _ _ _ _ h => h))
        replace h := am_iv_or h
        obtain ⟨x468, rfl, h⟩ := h
        show am_E d m_L_law 1430 (k + 1) (n + 6) _ [am_i x468] K463 N464 I465 P466 z467 Q am_nx
        refine e_istore dL_law_1430 ?_
        refine e_aload_n dL_law_1432 rfl trivial ?_
        refine e_aload_n dL_law_1433 rfl trivial ?_
        refine e_iload dL_law_1434 rfl ?_
        refine e_iconst dL_law_1436 ?_
        refine e_iadd dL_law_1437 ?_
        obtain ⟨⟨h0, h1⟩, h⟩ := h
        refine e_ialdC dL_law_1438 ha4 h0 h1 ?_
        obtain ⟨⟨hk9, hn9⟩, h⟩ := h
        obtain ⟨hK474, h⟩ := h
        refine e_callV (Mc := m_X8_append) (vs := [am_i (I465 l0 (Int.toNat (am_wr (l4 + 1))))]) (st := []) dL_law_1439 ok_X8_append rfl ⟨by decide, rfl⟩ mk_L_173 im_X8_append sl_X8_append rfl rfl hK474 (by omega) (Nat.le_of_ble_eq_true rfl) hk9 hn9 am_xh_nx (am_C_mono h (fun v K469 N470 I471 P472 z473 h => ?_) (fun _ _ _ _ _ _ h => h))
        replace h := am_iv_or h
        obtain ⟨x475, rfl, h⟩ := h
        show am_E d m_L_law 1442 (k + 1) (n + 6) _ [am_i x475] K469 N470 I471 P472 z473 Q am_nx
        refine e_istore dL_law_1442 ?_
        refine e_aload_n dL_law_1444 rfl trivial ?_
        obtain ⟨⟨hk9, hn9⟩, h⟩ := h
        obtain ⟨hK481, h⟩ := h
        refine e_callV (Mc := m_X8_thrown) (vs := []) (st := []) dL_law_1445 ok_X8_thrown rfl ⟨by decide, rfl⟩ mk_L_95 im_X8_thrown sl_X8_thrown rfl rfl hK481 (by omega) (Nat.le_of_ble_eq_true rfl) hk9 hn9 am_xh_nx (am_C_mono h (fun v K476 N477 I478 P479 z480 h => ?_) (fun _ _ _ _ _ _ h => h))
        replace h := am_iv_or h
        obtain ⟨x482, rfl, h⟩ := h
        show am_E d m_L_law 1448 (k + 1) (n + 6) _ [am_i x482] K476 N477 I478 P479 z480 Q am_nx
        refine e_iload dL_law_1448 rfl ?_
        refine e_icmp_eq (tgt := 1455) dL_law_1450 (by decide) (fun hc => ?_) (fun hc => ?_)
        · replace h := h.1 hc
          refine e_iload dL_law_1455 rfl ?_
          refine e_if_ne (tgt := 1472) dL_law_1457 (by decide) (fun hc => ?_) (fun hc => ?_)
          · replace h := h.1 hc
            refine e_goto (tgt := 1545) dL_law_1472 (by decide) ?_
            refine e_iinc dL_law_1545 rfl ?_
            refine e_goto (tgt := 23) dL_law_1548 (by decide) ?_
            exact e_forget (am_sub_k (am_sub_k (am_sub_k (am_sub_k (am_sub_k (am_sub_d (am_sub_d (am_sub_d (am_sub_d am_sub_nil))))))))) h
          · replace h := h.2 hc
            refine e_aload_n dL_law_1460 rfl trivial ?_
            refine e_iconst dL_law_1461 ?_
            obtain ⟨hK483, h⟩ := h
            obtain ⟨⟨h0, h1⟩, h⟩ := h
            refine e_lald dL_law_1462 hK483 h0 h1 ?_
            show am_E _ _ _ _ _ _ (am_j (I478 l3 0) :: _) _ _ _ _ _ _ _
            refine e_iload dL_law_1463 rfl ?_
            refine e_i2l dL_law_1465 ?_
            refine e_lcmp dL_law_1466 (fun hc => ?_) (fun hc v hv => ?_)
            · replace h := h.1 hc
              refine e_if_eq (tgt := 1472) dL_law_1467 (by decide) (fun _ => ?_) (fun q => absurd rfl q)
              refine e_goto (tgt := 1545) dL_law_1472 (by decide) ?_
              refine e_iinc dL_law_1545 rfl ?_
              refine e_goto (tgt := 23) dL_law_1548 (by decide) ?_
              exact e_forget (am_sub_k (am_sub_k (am_sub_k (am_sub_k (am_sub_k (am_sub_d (am_sub_d (am_sub_d (am_sub_d am_sub_nil))))))))) h
            · replace h := h.2 hc
              refine e_if_eq (tgt := 1472) dL_law_1467 (by decide) (fun q => absurd q hv) (fun _ => ?_)
              refine e_iconst dL_law_1470 ?_
              obtain ⟨⟨hk9, hn9⟩, h⟩ := h
              exact e_ret_z dL_law_1471 rfl (by decide) hk9 hn9 h
        · replace h := h.2 hc
          refine e_iconst dL_law_1453 ?_
          obtain ⟨⟨hk9, hn9⟩, h⟩ := h
          exact e_ret_z dL_law_1454 rfl (by decide) hk9 hn9 h
      · have h := h.2.2.2.2.2.2.2.2.2.2.2.2.2.2.2.2.2.2.2.2.2.2.2.2.1 (by omega)
        show am_E _ _ 1475 _ _ _ _ _ _ _ _ _ _ _
        refine e_aload_n dL_law_1475 rfl trivial ?_
        obtain ⟨⟨hk9, hn9⟩, h⟩ := h
        obtain ⟨hK489, h⟩ := h
        refine e_callV (Mc := m_X7_clear) (vs := []) (st := []) dL_law_1476 ok_X7_clear rfl ⟨by decide, rfl⟩ mk_L_174 im_X7_clear sl_X7_clear rfl rfl hK489 (by omega) (Nat.le_of_ble_eq_true rfl) hk9 hn9 am_xh_nx (am_C_mono h (fun v K484 N485 I486 P487 z488 h => ?_) (fun _ _ _ _ _ _ h => h))
        replace h := am_iv_or h
        obtain ⟨x490, rfl, h⟩ := h
        show am_E d m_L_law 1479 k n _ [am_i x490] K484 N485 I486 P487 z488 Q am_nx
        refine e_aload_n dL_law_1479 rfl trivial ?_
        obtain ⟨⟨hk9, hn9⟩, h⟩ := h
        obtain ⟨hK496, h⟩ := h
        refine e_callV (Mc := m_X8_clear) (vs := []) (st := [am_i x490]) dL_law_1480 ok_X8_clear rfl ⟨by decide, rfl⟩ mk_L_177 im_X8_clear sl_X8_clear rfl rfl hK496 (by omega) (Nat.le_of_ble_eq_true rfl) hk9 hn9 am_xh_nx (am_C_mono h (fun v K491 N492 I493 P494 z495 h => ?_) (fun _ _ _ _ _ _ h => h))
        replace h := am_iv_or h
        obtain ⟨x497, rfl, h⟩ := h
        show am_E d m_L_law 1483 k n _ [am_i x497, am_i x490] K491 N492 I493 P494 z495 Q am_nx
        refine e_icmp_eq (tgt := 1545) dL_law_1483 (by decide) (fun hc => ?_) (fun hc => ?_)
        · replace h := h.1 hc
          refine e_iinc dL_law_1545 rfl ?_
          refine e_goto (tgt := 23) dL_law_1548 (by decide) ?_
          exact e_forget (am_sub_k (am_sub_k (am_sub_k (am_sub_k (am_sub_k (am_sub_d (am_sub_d (am_sub_d (am_sub_d am_sub_nil))))))))) h
        · replace h := h.2 hc
          refine e_iconst dL_law_1486 ?_
          obtain ⟨⟨hk9, hn9⟩, h⟩ := h
          exact e_ret_z dL_law_1487 rfl (by decide) hk9 hn9 h
      · have h := h.2.2.2.2.2.2.2.2.2.2.2.2.2.2.2.2.2.2.2.2.2.2.2.2.2.1 (by omega)
        show am_E _ _ 1488 _ _ _ _ _ _ _ _ _ _ _
        refine e_aload_n dL_law_1488 rfl trivial ?_
        obtain ⟨⟨hk9, hn9⟩, h⟩ := h
        obtain ⟨hK503, h⟩ := h
        refine e_callV (Mc := m_X7_errorPosition) (vs := []) (st := []) dL_law_1489 ok_X7_errorPosition rfl ⟨by decide, rfl⟩ mk_L_178 im_X7_errorPosition sl_X7_errorPosition rfl rfl hK503 (by omega) (Nat.le_of_ble_eq_true rfl) hk9 hn9 am_xh_nx (am_C_mono h (fun v K498 N499 I500 P501 z502 h => ?_) (fun _ _ _ _ _ _ h => h))
        replace h := am_iv_or h
        obtain ⟨x504, rfl, h⟩ := h
        show am_E d m_L_law 1492 k n _ [am_i x504] K498 N499 I500 P501 z502 Q am_nx
        refine e_aload_n dL_law_1492 rfl trivial ?_
        obtain ⟨⟨hk9, hn9⟩, h⟩ := h
        obtain ⟨hK510, h⟩ := h
        refine e_callV (Mc := m_X8_errorPosition) (vs := []) (st := [am_i x504]) dL_law_1493 ok_X8_errorPosition rfl ⟨by decide, rfl⟩ mk_L_181 im_X8_errorPosition sl_X8_errorPosition rfl rfl hK510 (by omega) (Nat.le_of_ble_eq_true rfl) hk9 hn9 am_xh_nx (am_C_mono h (fun v K505 N506 I507 P508 z509 h => ?_) (fun _ _ _ _ _ _ h => h))
        replace h := am_iv_or h
        obtain ⟨x511, rfl, h⟩ := h
        show am_E d m_L_law 1496 k n _ [am_i x511, am_i x504] K505 N506 I507 P508 z509 Q am_nx
        refine e_icmp_eq (tgt := 1545) dL_law_1496 (by decide) (fun hc => ?_) (fun hc => ?_)
        · replace h := h.1 hc
          refine e_iinc dL_law_1545 rfl ?_
          refine e_goto (tgt := 23) dL_law_1548 (by decide) ?_
          exact e_forget (am_sub_k (am_sub_k (am_sub_k (am_sub_k (am_sub_k (am_sub_d (am_sub_d (am_sub_d (am_sub_d am_sub_nil))))))))) h
        · replace h := h.2 hc
          refine e_iconst dL_law_1499 ?_
          obtain ⟨⟨hk9, hn9⟩, h⟩ := h
          exact e_ret_z dL_law_1500 rfl (by decide) hk9 hn9 h
      · have h := h.2.2.2.2.2.2.2.2.2.2.2.2.2.2.2.2.2.2.2.2.2.2.2.2.2.2.1 (by omega)
        show am_E _ _ 1501 _ _ _ _ _ _ _ _ _ _ _
        refine e_aload_n dL_law_1501 rfl trivial ?_
        refine e_aload_n dL_law_1502 rfl trivial ?_
        obtain ⟨⟨hk9, hn9⟩, h⟩ := h
        refine e_callSX (Mc := m_L_load) (vs := [am_r l1, am_r l3]) (st := []) dL_law_1503 ok_L_load rfl mk_L_182 sm_L_load rfl rfl (by omega) (Nat.le_of_ble_eq_true rfl) hk9 hn9 am_xh_nx (am_C_mono h (fun v K512 N513 I514 P515 z516 h => ?_) (fun _ _ _ _ _ _ h => h))
        replace h := am_iv_or h
        obtain ⟨x517, rfl, h⟩ := h
        show am_E d m_L_law 1506 (k + 5) (n + 326) _ [am_i x517] K512 N513 I514 P515 z516 Q am_nx
        refine e_istore dL_law_1506 ?_
        refine e_aload_n dL_law_1508 rfl trivial ?_
        obtain ⟨⟨hk9, hn9⟩, h⟩ := h
        obtain ⟨hK523, h⟩ := h
        refine e_callV (Mc := m_X8_load) (vs := []) (st := []) dL_law_1509 ok_X8_load rfl ⟨by decide, rfl⟩ mk_L_184 im_X8_load sl_X8_load rfl rfl hK523 (by omega) (Nat.le_of_ble_eq_true rfl) hk9 hn9 am_xh_nx (am_C_mono h (fun v K518 N519 I520 P521 z522 h => ?_) (fun _ _ _ _ _ _ h => h))
        replace h := am_iv_or h
        obtain ⟨x524, rfl, h⟩ := h
        show am_E d m_L_law 1512 (k + 5) (n + 326) _ [am_i x524] K518 N519 I520 P521 z522 Q am_nx
        refine e_istore dL_law_1512 ?_
        refine e_aload_n dL_law_1514 rfl trivial ?_
        obtain ⟨⟨hk9, hn9⟩, h⟩ := h
        obtain ⟨hK530, h⟩ := h
        refine e_callV (Mc := m_X8_thrown) (vs := []) (st := []) dL_law_1515 ok_X8_thrown rfl ⟨by decide, rfl⟩ mk_L_95 im_X8_thrown sl_X8_thrown rfl rfl hK530 (by omega) (Nat.le_of_ble_eq_true rfl) hk9 hn9 am_xh_nx (am_C_mono h (fun v K525 N526 I527 P528 z529 h => ?_) (fun _ _ _ _ _ _ h => h))
        replace h := am_iv_or h
        obtain ⟨x531, rfl, h⟩ := h
        show am_E d m_L_law 1518 (k + 5) (n + 326) _ [am_i x531] K525 N526 I527 P528 z529 Q am_nx
        refine e_iload dL_law_1518 rfl ?_
        refine e_icmp_eq (tgt := 1525) dL_law_1520 (by decide) (fun hc => ?_) (fun hc => ?_)
        · replace h := h.1 hc
          refine e_iload dL_law_1525 rfl ?_
          refine e_if_ne (tgt := 1542) dL_law_1527 (by decide) (fun hc => ?_) (fun hc => ?_)
          · replace h := h.1 hc
            refine e_goto (tgt := 1545) dL_law_1542 (by decide) ?_
            refine e_iinc dL_law_1545 rfl ?_
            refine e_goto (tgt := 23) dL_law_1548 (by decide) ?_
            exact e_forget (am_sub_k (am_sub_k (am_sub_k (am_sub_k (am_sub_k (am_sub_d (am_sub_d (am_sub_d (am_sub_d am_sub_nil))))))))) h
          · replace h := h.2 hc
            refine e_aload_n dL_law_1530 rfl trivial ?_
            refine e_iconst dL_law_1531 ?_
            obtain ⟨hK532, h⟩ := h
            obtain ⟨⟨h0, h1⟩, h⟩ := h
            refine e_lald dL_law_1532 hK532 h0 h1 ?_
            show am_E _ _ _ _ _ _ (am_j (I527 l3 0) :: _) _ _ _ _ _ _ _
            refine e_iload dL_law_1533 rfl ?_
            refine e_i2l dL_law_1535 ?_
            refine e_lcmp dL_law_1536 (fun hc => ?_) (fun hc v hv => ?_)
            · replace h := h.1 hc
              refine e_if_eq (tgt := 1542) dL_law_1537 (by decide) (fun _ => ?_) (fun q => absurd rfl q)
              refine e_goto (tgt := 1545) dL_law_1542 (by decide) ?_
              refine e_iinc dL_law_1545 rfl ?_
              refine e_goto (tgt := 23) dL_law_1548 (by decide) ?_
              exact e_forget (am_sub_k (am_sub_k (am_sub_k (am_sub_k (am_sub_k (am_sub_d (am_sub_d (am_sub_d (am_sub_d am_sub_nil))))))))) h
            · replace h := h.2 hc
              refine e_if_eq (tgt := 1542) dL_law_1537 (by decide) (fun q => absurd q hv) (fun _ => ?_)
              refine e_iconst dL_law_1540 ?_
              obtain ⟨⟨hk9, hn9⟩, h⟩ := h
              exact e_ret_z dL_law_1541 rfl (by decide) hk9 hn9 h
        · replace h := h.2 hc
          refine e_iconst dL_law_1523 ?_
          obtain ⟨⟨hk9, hn9⟩, h⟩ := h
          exact e_ret_z dL_law_1524 rfl (by decide) hk9 hn9 h
    · intro hc
      have h := h.2.2.2.2.2.2.2.2.2.2.2.2.2.2.2.2.2.2.2.2.2.2.2.2.2.2.2 hc
      show am_E _ _ 1545 _ _ _ _ _ _ _ _ _ _ _
      refine e_iinc dL_law_1545 rfl ?_
      refine e_goto (tgt := 23) dL_law_1548 (by decide) ?_
      exact e_forget (am_sub_k (am_sub_k (am_sub_k (am_sub_k (am_sub_k (am_sub_d (am_sub_d (am_sub_d (am_sub_d am_sub_nil))))))))) h
