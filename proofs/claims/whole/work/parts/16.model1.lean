/-! THE REFERENCE, method by method. W: its row w as a function of whole numbers. -/
theorem am_wE {x : Int} (h1 : -2147483648 ≤ x) (h2 : x ≤ 2147483647) : am_wr x = x := am_wr_eq ⟨h1, h2⟩
/-- where the reference's rows lie -/
def MS (K N : Nat → Nat) (P : Nat → Nat → Option Nat) : Prop := K 284 = 8 ∧ P 284 0 = some 285 ∧ P 284 1 = some 286 ∧ P 284 2 = some 287 ∧ P 284 3 = some 288 ∧ P 284 4 = some 289 ∧ K 285 = 10 ∧ N 285 = 3200 ∧ K 286 = 10 ∧ N 286 = 19200 ∧ K 287 = 10 ∧ N 287 = 3200 ∧ K 288 = 10 ∧ N 288 = 80 ∧ K 289 = 10 ∧ N 289 = 8
def MW (I : Nat → Nat → Int) (W : Int → Int) : Prop := ∀ i : Int, 0 ≤ i → i < 3200 → I 285 i.toNat = W i
theorem MW.lit {I : Nat → Nat → Int} {W : Int → Int} (h : MW I W) (n : Nat) (hn : n < 3200) : I 285 n = W (n : Int) := h (n : Int) (by omega) (by omega)
theorem ite_z {c : Prop} [Decidable c] : ((if c then (1 : Int) else 0) = 0) ↔ ¬ c := by split <;> simp_all
theorem ite_zz {c : Prop} [Decidable c] : (if c then (1 : Int) else 0) = 0 ∨ (if c then (1 : Int) else 0) = 1 := by split <;> simp
section
variable {d : Nat} {K N : Nat → Nat} {I : Nat → Nat → Int} {P : Nat → Nat → Option Nat} {z : Nat} {Q : am_V → am_T} {W : Int → Int}
theorem sp_in {a b c : Int} (h : Q (am_i (if b ≤ a ∧ a ≤ c then 1 else 0)) K N I P z) : am_C d m_X8_in [am_i a, am_i b, am_i c] K N I P z Q am_nx := by
  refine wf_X8_in ⟨fun h1 => ?_, fun h1 => ⟨fun h2 => ?_, fun h2 => ?_⟩⟩
  · rw [if_neg (by omega)] at h; exact h
  · rw [if_neg (by omega)] at h; exact h
  · rw [if_pos (by omega)] at h; exact h
theorem sp_one {a : Int} (h : Q (am_i (if a = 0 then 0 else 1)) K N I P z) : am_C d m_X8_one [am_i a] K N I P z Q am_nx := by
  refine wf_X8_one ⟨fun h1 => ?_, fun h1 => ?_⟩
  · rw [if_pos h1] at h; exact h
  · rw [if_neg h1] at h; exact h
theorem sp_thrown (hm : MS K N P) (h : Q (am_i (I 284 7)) K N I P z) : am_C d m_X8_thrown [am_r 284] K N I P z Q am_nx := wf_X8_thrown ⟨hm.1, h⟩
theorem sp_refuse (hm : MS K N P) {a : Int} (h : Q (am_i 0) K N (am_u2 I 284 7 a) P z) : am_C d m_X8_refuse [am_r 284, am_i a] K N I P z Q am_nx := wf_X8_refuse ⟨hm.1, fun _ e => e ▸ h⟩
theorem sp_isOn (hm : MS K N P) (hW : MW I W) {p : Int} (h0 : 0 ≤ p) (h1 : p < 300) (h : Q (am_i (if W (800 + p) = 0 then 1 else 0)) K N I P z) : am_C d m_X8_isOn [am_r 284, am_i p] K N I P z Q am_nx := by
  refine wf_X8_isOn ?_
  obtain ⟨k0, p0, -, -, -, -, k1, n1, -⟩ := hm
  refine ⟨k0, 285, p0, k1, ?_⟩
  rw [am_wE (by omega) (by omega), hW _ (by omega) (by omega), n1]
  refine ⟨by omega, fun h1 => ?_, fun h1 => ?_⟩
  · rw [if_neg h1] at h; exact h
  · rw [if_pos h1] at h; exact h
theorem sp_tail (hm : MS K N P) (hW : MW I W) {p : Int} (h0 : 0 ≤ p) (h1 : p < 300) (h : Q (am_i (am_wr (W (500 + p) - W (200 + p)))) K N I P z) : am_C d m_X8_tail [am_r 284, am_i p] K N I P z Q am_nx := by
  refine wf_X8_tail ?_
  obtain ⟨k0, p0, -, -, -, -, k1, n1, -⟩ := hm
  refine ⟨k0, 285, p0, k1, ?_⟩
  rw [am_wE (x := 500 + p) (by omega) (by omega), am_wE (x := 200 + p) (by omega) (by omega), hW _ (by omega) (by omega), hW _ (by omega) (by omega), n1]
  exact ⟨by omega, by omega, h⟩
theorem sp_middle (hm : MS K N P) (hW : MW I W) {p : Int} (h0 : 0 ≤ p) (h1 : p < 300) (h : Q (am_i (am_wr (W (500 + p) - am_wr ((W (200 + p)).tdiv 2)))) K N I P z) : am_C d m_X8_middle [am_r 284, am_i p] K N I P z Q am_nx := by
  refine wf_X8_middle ?_
  obtain ⟨k0, p0, -, -, -, -, k1, n1, -⟩ := hm
  refine ⟨k0, 285, p0, k1, ?_⟩
  rw [am_wE (x := 500 + p) (by omega) (by omega), am_wE (x := 200 + p) (by omega) (by omega), hW _ (by omega) (by omega), hW _ (by omega) (by omega), n1]
  exact ⟨by omega, by omega, h⟩
theorem sp_isLane (hd : 1 ≤ d) (hm : MS K N P) (hW : MW I W) (hl : 0 ≤ W 7 ∧ W 7 ≤ 6) {a : Int} (h : Q (am_i (if 0 ≤ a ∧ a < W 7 then 1 else 0)) K N I P z) : am_C d m_X8_isLane [am_r 284, am_i a] K N I P z Q am_nx := by
  refine wf_X8_isLane hd ?_
  obtain ⟨k0, p0, -, -, -, -, k1, n1, -⟩ := hm
  have e : I 285 7 = W 7 := hW.lit 7 (by decide)
  refine ⟨k0, 285, p0, k1, by rw [n1]; omega, sp_in ⟨ite_zz, ?_⟩⟩
  rw [e, am_wE (by omega) (by omega)]
  simp only [Int.le_sub_one_iff]
  exact h
theorem sp_isPart (hd : 1 ≤ d) (hm : MS K N P) (hW : MW I W) (hl : 0 ≤ W 9 ∧ W 9 ≤ 300) {a : Int} (h : Q (am_i (if 0 ≤ a ∧ a < W 9 then 1 else 0)) K N I P z) : am_C d m_X8_isPart [am_r 284, am_i a] K N I P z Q am_nx := by
  refine wf_X8_isPart hd ?_
  obtain ⟨k0, p0, -, -, -, -, k1, n1, -⟩ := hm
  have e : I 285 9 = W 9 := hW.lit 9 (by decide)
  refine ⟨k0, 285, p0, k1, by rw [n1]; omega, sp_in ⟨ite_zz, ?_⟩⟩
  rw [e, am_wE (by omega) (by omega)]
  simp only [Int.le_sub_one_iff]
  exact h
theorem sp_isCode (hd : 1 ≤ d) {a : Int} (h : Q (am_i (if 0 ≤ a ∧ a ≤ 999 then 1 else 0)) K N I P z) : am_C d m_X8_isCode [am_i a] K N I P z Q am_nx := by
  refine wf_X8_isCode hd (sp_in ⟨ite_zz, h⟩)
/-- how many parts below n are on the belt -/
def v_cnt (f : Int → Bool) : Nat → Int
  | 0 => 0
  | n + 1 => v_cnt f n + if f n then 1 else 0
theorem v_cnt_bd (f : Int → Bool) : ∀ n : Nat, 0 ≤ v_cnt f n ∧ v_cnt f n ≤ n
  | 0 => by simp [v_cnt]
  | n + 1 => by
    have := v_cnt_bd f n
    unfold v_cnt
    split <;> omega
abbrev v_on (W : Int → Int) : Int → Bool := fun p => decide (W (800 + p) = 0)
theorem sp_onBelt (hd : 2 ≤ d) (hm : MS K N P) (hW : MW I W) {n : Nat} (hn : W 9 = n) (hl : n ≤ 300) (h : Q (am_i (v_cnt (v_on W) n)) K N I P z) : am_C d m_X8_onBelt [am_r 284] K N I P z Q am_nx := by
  refine wf_X8_onBelt ?_
  have key : ∀ (m j : Nat), j + m = n → L_X8_onBelt_4 d 284 (v_cnt (v_on W) j) j K N I P z Q := by
    intro m
    induction m with
    | zero =>
      intro j hj
      refine wf_X8_onBelt_4 (by omega) ?_
      obtain ⟨k0, p0, -, -, -, -, k1, n1, -⟩ := hm
      refine ⟨k0, 285, p0, k1, by rw [n1]; omega, fun h1 => ?_, fun h1 => ?_⟩
      · rw [show j = n by omega]; exact h
      · rw [show I 285 9 = W 9 from hW.lit 9 (by decide)] at h1; omega
    | succ m ih =>
      intro j hj
      refine wf_X8_onBelt_4 (by omega) ?_
      have hm2 := hm
      obtain ⟨k0, p0, -, -, -, -, k1, n1, -⟩ := hm
      refine ⟨k0, 285, p0, k1, by rw [n1]; omega, fun h1 => ?_, fun h1 => ?_⟩
      · rw [show I 285 9 = W 9 from hW.lit 9 (by decide)] at h1; omega
      · refine sp_isOn hm2 hW (by omega) (by omega) (sp_one ?_)
        have hb := v_cnt_bd (v_on W) j
        have e1 : am_wr ((j : Int) + 1) = ((j + 1 : Nat) : Int) := by rw [am_wE (by omega) (by omega)]; rfl
        have e2 : am_wr (v_cnt (v_on W) j + (if (if W (800 + (j : Int)) = 0 then (1 : Int) else 0) = 0 then 0 else 1)) = v_cnt (v_on W) (j + 1) := by
          rw [v_cnt]
          by_cases hc : W (800 + (j : Int)) = 0
          · have e : v_on W (j : Int) = true := decide_eq_true hc
            rw [e, if_pos hc, if_neg (by decide), if_pos rfl]
            exact am_wE (by omega) (by omega)
          · have e : v_on W (j : Int) = false := decide_eq_false hc
            rw [e, if_neg hc, if_pos rfl, if_neg (by decide)]
            exact am_wE (by omega) (by omega)
        show L_X8_onBelt_4 d 284 (am_wr (v_cnt (v_on W) j + _)) (am_wr ((j : Int) + 1)) K N I P z Q
        rw [e1, e2]
        exact ih (j + 1) (by omega)
  exact key n 0 (by omega)
end
