/-! two sorters that stand for the same state answer alike -/
theorem nn_of {x : UInt64} (h : vf_n64 x) : FP.Core.val64 x ≠ .nan := by
  rw [FP.Core.ne_nan]
  have h := UInt64.le_iff_toNat_le.mp h
  rw [UInt64.toNat_and, show (0x7fffffffffffffff : UInt64).toNat = 2 ^ 63 - 1 by decide, Nat.and_two_pow_sub_one_eq_mod] at h
  exact h
theorem sh_eq {x : UInt64} (h : vf_n64 x) : (Op.cmpValue (FP.dcmp x x) CmpOp.l).toInt = 0 := by
  show (Op.cmpValue (FP.Core.dcmp x x) CmpOp.l).toInt = 0
  rw [FP.Core.dcmp_self (nn_of h)]
  rfl
theorem sh_nn {W : Int → Int} (hG : v_G W) : vf_n64 (v_sh W) := by
  have g9 := hG.n9
  have b1 := fts_bd (W := W) (a := 10) (b := 15) g9.1
  have b4 : 0 ≤ v_ob W ∧ v_ob W ≤ ((W 9).toNat : Nat) := v_cnt_bd (v_on W) (W 9).toNat
  unfold v_sh
  split
  · show FP.dconst1 &&& 0x7fffffffffffffff ≤ 0x7ff0000000000000
    decide +kernel
  · exact v_ddn b1.1 (by omega) (by omega) (by omega)
section
variable {d : Nat} {K N : Nat → Nat} {I : Nat → Nat → Int} {P : Nat → Nat → Option Nat} {z : Nat} {Q : am_V → am_T} {W : Int → Int} {S : Int → Int → Int} {c : Int}
theorem st_partE (hd : 24 ≤ d) (x : Int) {y : Int} (hy : 0 ≤ y ∧ y ≤ 9) : ∃ v, ST1 d m_L_part [am_i x, am_i y] W S c (am_i v) W S c := by
  by_cases q : 0 ≤ x ∧ x < W 9
  · exact ⟨_, st_part hd q hy⟩
  · exact ⟨_, st_partX hd q⟩
theorem GI.k284 (g : G2 K N I P z W S c W S c) : K 4 = 7 ∧ K 284 = 7 := ⟨g.1.k4, g.2.1.k4⟩
theorem al_79 (hd : 25 ≤ d) (hV : VG W) (fin : ∀ I P, G2 K N I P z W S c W S c → Q (am_i 1) K N I P z) : ∀ (m j k n : Nat) (l3 : Int) (I : Nat → Nat → Int) (P : Nat → Nat → Option Nat), j + m = 6 → k ≤ 30 + 8 * j → n ≤ 180 + 48 * j → l3 = j → G2 K N I P z W S c W S c → L_L_areAlike_79 d k n 4 284 1 l3 K N I P z Q := by
  intro m
  induction m with
  | zero =>
    intro j k n l3 I P hj hk hn e3 g
    exact wf_L_areAlike_79 (by omega) ⟨fun _ => ⟨⟨by omega, by omega⟩, Or.inr rfl, fin I P g⟩, fun e => absurd (by omega) e⟩
  | succ m ih =>
    intro j k n l3 I P hj hk hn e3 g
    obtain ⟨v1, s1⟩ := st_partE (d := d - 1) (W := W) (S := S) (c := c) (by omega) l3 (y := 1) (by omega)
    obtain ⟨v2, s2⟩ := st_partE (d := d - 1) (W := W) (S := S) (c := c) (by omega) l3 (y := 2) (by omega)
    obtain ⟨v8, s8⟩ := st_partE (d := d - 1) (W := W) (S := S) (c := c) (by omega) l3 (y := 8) (by omega)
    obtain ⟨vf, sf⟩ := st_fateOf (d := d - 1) (S := S) (c := c) (by omega) hV l3
    refine wf_L_areAlike_79 (by omega) ⟨fun e => absurd e (by omega), fun _ => ⟨fun e => absurd e (by omega), fun _ => ⟨⟨by omega, by omega⟩, st_o s1 g ?_⟩⟩⟩
    intro I1 P1 g
    simp only [am_iv]
    refine ⟨⟨by omega, by omega⟩, st_q s1 rfl rfl g ?_⟩
    intro I2 P2 g
    simp only [am_iv]
    refine ⟨fun e => (e (by trivial)).elim, fun _ => ⟨⟨by omega, by omega⟩, st_o s2 g ?_⟩⟩
    intro I3 P3 g
    simp only [am_iv]
    refine ⟨⟨by omega, by omega⟩, st_q s2 rfl rfl g ?_⟩
    intro I4 P4 g
    simp only [am_iv]
    refine ⟨fun e => (e (by trivial)).elim, fun _ => ⟨⟨by omega, by omega⟩, st_o s8 g ?_⟩⟩
    intro I5 P5 g
    simp only [am_iv]
    refine ⟨⟨by omega, by omega⟩, st_q s8 rfl rfl g ?_⟩
    intro I6 P6 g
    simp only [am_iv]
    refine ⟨fun e => (e (by trivial)).elim, fun _ => ⟨⟨by omega, by omega⟩, st_o sf g ?_⟩⟩
    intro I7 P7 g
    simp only [am_iv]
    refine ⟨⟨by omega, by omega⟩, st_q sf rfl rfl g ?_⟩
    intro I8 P8 g
    simp only [am_iv]
    refine ⟨fun e => (e (by trivial)).elim, fun _ => ?_⟩
    exact ih (j + 1) _ _ _ I8 P8 (by omega) (by omega) (by omega) (by rw [am_wE (by omega) (by omega)]; omega) g
theorem al_42 (hd : 25 ≤ d) (hV : VG W) (fin : ∀ I P, G2 K N I P z W S c W S c → Q (am_i 1) K N I P z) : ∀ (m j k n : Nat) (l3 : Int) (I : Nat → Nat → Int) (P : Nat → Nat → Option Nat), j + m = 15 → k ≤ 2 * j → n ≤ 12 * j → l3 = j → G2 K N I P z W S c W S c → L_L_areAlike_42 d k n 4 284 1 l3 K N I P z Q := by
  intro m
  induction m with
  | zero =>
    intro j k n l3 I P hj hk hn e3 g
    exact wf_L_areAlike_42 (by omega) ⟨fun _ => al_79 hd hV fin 6 0 _ _ _ I P (by omega) (by omega) (by omega) rfl g, fun e => absurd (by omega) e⟩
  | succ m ih =>
    intro j k n l3 I P hj hk hn e3 g
    have s1 := st_total (d := d - 1) (W := W) (S := S) (c := c) (by omega) (y := l3) (by omega)
    refine wf_L_areAlike_42 (by omega) ⟨fun e => absurd e (by omega), fun _ => ⟨fun e => absurd e (by omega), fun _ => ⟨⟨by omega, by omega⟩, st_o s1 g ?_⟩⟩⟩
    intro I1 P1 g
    simp only [am_iv]
    refine ⟨⟨by omega, by omega⟩, st_q s1 rfl rfl g ?_⟩
    intro I2 P2 g
    simp only [am_iv]
    refine ⟨fun e => (e (by trivial)).elim, fun _ => ?_⟩
    exact ih (j + 1) _ _ _ I2 P2 (by omega) (by omega) (by omega) (by rw [am_wE (by omega) (by omega)]; omega) g
theorem st_alike (hd : 25 ≤ d) (hV : VG W) (g : G2 K N I P z W S c W S c) (fin : ∀ I P, G2 K N I P z W S c W S c → Q (am_i 1) K N I P z) : am_C d m_L_areAlike [am_r 4, am_r 284] K N I P z Q am_nx := by
  have kk := GI.k284 g
  have s1 := st_share (d := d - 1) (W := W) (S := S) (c := c) (by omega)
  obtain ⟨v2, s2⟩ := st_entryIn (d := d - 1) (W := W) (S := S) (c := c) (by omega)
  obtain ⟨v3, s3⟩ := st_nextLeaving (d := d - 1) (W := W) (S := S) (c := c) (by omega)
  refine wf_L_areAlike (by omega) ⟨⟨by omega, by omega⟩, kk.1, st_o s1 g ?_⟩
  intro I1 P1 g
  simp only [am_dv]
  refine ⟨⟨by omega, by omega⟩, kk.2, st_q s1 rfl rfl g ?_⟩
  intro I2 P2 g
  simp only [am_dv]
  refine ⟨fun e => (e (sh_eq (sh_nn hV.1))).elim, fun _ => ⟨⟨by omega, by omega⟩, kk.1, st_o s2 g ?_⟩⟩
  intro I3 P3 g
  simp only [am_iv]
  refine ⟨⟨by omega, by omega⟩, kk.2, st_q s2 rfl rfl g ?_⟩
  intro I4 P4 g
  simp only [am_iv]
  refine ⟨fun e => (e (by trivial)).elim, fun _ => ⟨⟨by omega, by omega⟩, kk.1, st_o s3 g ?_⟩⟩
  intro I5 P5 g
  simp only [am_iv]
  refine ⟨⟨by omega, by omega⟩, kk.2, st_q s3 rfl rfl g ?_⟩
  intro I6 P6 g
  simp only [am_iv]
  refine ⟨fun e => (e (by trivial)).elim, fun _ => ?_⟩
  exact al_42 hd hV fin 15 0 _ _ _ I6 P6 (by omega) (by omega) (by omega) rfl g
end
