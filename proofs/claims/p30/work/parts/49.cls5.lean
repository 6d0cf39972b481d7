/-- p's columns, but for its length, front and fate -/
abbrev v_cl (p i : Int) : Prop := i = 1100 + p ∨ i = 1400 + p ∨ i = 1700 + p ∨ i = 2000 + p ∨ i = 2300 + p ∨ i = 2600 + p ∨ i = 2900 + p
/-- the m0 parts that were on the belt in W0: those behind the first m have left -/
def DP (I : Nat → Nat → Int) (W : Int → Int) (m m0 : Int) (L : Int → Int) (π : Int → Nat) (W0 L0 : Int → Int) (π0 : Int → Nat) : Prop := m ≤ m0 ∧ m0 ≤ 20 ∧ (∀ j, m ≤ j → j < m0 → PC I (π j) W (L j) ∧ (0 ≤ L j ∧ L j < W 9) ∧ ¬ W (800 + L j) = 0 ∧ W0 (800 + L j) = 0) ∧ (∀ i, 0 ≤ i → i < m0 → ∃ j, 0 ≤ j ∧ j < m0 ∧ L j = L0 i ∧ π j = π0 i)
theorem PC.cg {I I' : Nat → Nat → Int} {b : Nat} {W W' : Int → Int} {p : Int} (h : PC I b W p) (hI : ∀ k, k < 11 → I' b k = I b k) (hW : W' (200 + p) = W (200 + p) ∧ W' (500 + p) = W (500 + p) ∧ W' (800 + p) = W (800 + p) ∧ W' (1100 + p) = W (1100 + p) ∧ W' (1400 + p) = W (1400 + p) ∧ W' (1700 + p) = W (1700 + p) ∧ W' (2000 + p) = W (2000 + p) ∧ W' (2300 + p) = W (2300 + p) ∧ W' (2600 + p) = W (2600 + p) ∧ W' (2900 + p) = W (2900 + p)) : PC I' b W' p := by
  unfold PC at h ⊢
  rw [hI 0 (by omega), hI 1 (by omega), hI 2 (by omega), hI 3 (by omega), hI 4 (by omega), hI 5 (by omega), hI 6 (by omega), hI 7 (by omega), hI 8 (by omega), hI 9 (by omega), hI 10 (by omega), hW.1, hW.2.1, hW.2.2.1, hW.2.2.2.1, hW.2.2.2.2.1, hW.2.2.2.2.2.1, hW.2.2.2.2.2.2.1, hW.2.2.2.2.2.2.2.1, hW.2.2.2.2.2.2.2.2.1, hW.2.2.2.2.2.2.2.2.2]
  exact h
theorem PC.oth {I I' : Nat → Nat → Int} {b : Nat} {W W' : Int → Int} {p q : Int} (h : PC I b W q) (hI : I' b = I b) (p0 : 0 ≤ p) (p1 : p < 300) (q0 : 0 ≤ q) (q1 : q < 300) (ne : ¬ q = p) (hW : ∀ i : Int, 200 ≤ i → ¬ v_cl p i → ¬ i = 800 + p → W' i = W i) : PC I' b W' q := by
  have f : ∀ c : Int, (c = 200 ∨ c = 500 ∨ c = 800 ∨ c = 1100 ∨ c = 1400 ∨ c = 1700 ∨ c = 2000 ∨ c = 2300 ∨ c = 2600 ∨ c = 2900) → W' (c + q) = W (c + q) := fun c hc => hW _ (by omega) (by simp only [v_cl]; omega) (by omega)
  exact h.cg (fun k _ => by rw [hI]) ⟨f _ (by omega), f _ (by omega), f _ (by omega), f _ (by omega), f _ (by omega), f _ (by omega), f _ (by omega), f _ (by omega), f _ (by omega), f _ (by omega)⟩
theorem BL.cg {W W' : Int → Int} {m : Int} {L : Int → Int} (h : BL W m L) (h9 : W' 9 = W 9) (h8 : ∀ p : Int, 0 ≤ p → p < W 9 → W' (800 + p) = W (800 + p)) : BL W' m L := by
  refine ⟨h.1, fun j a b => ?_, h.2.2.1, fun p a b c => ?_⟩
  · have o := h.on a b
    rw [h9, h8 _ o.1 o.2.1]; exact o
  · rw [h9] at b
    rw [h8 p a b] at c
    exact h.ex a b c
theorem SC.cg {I I' : Nat → Nat → Int} {s : Nat} {W W' : Int → Int} (h : SC I s W) (hI : ∀ a k, s ≤ a → a < s + 13 → ¬ (a = s ∧ (k = 6 ∨ 10 ≤ k)) → I' a k = I a k) (hW : ∀ i : Int, 0 ≤ i → i < 106 → W' i = W i) : SC I' s W' := by
  obtain ⟨c0, c1, c2, c3, c4, c5, c6, c7⟩ := h
  refine ⟨fun k a b => ?_, ?_, fun i k a b e f => ?_, ?_, fun k a b => ⟨?_, ?_⟩, ?_, ?_, ?_⟩
  · rw [hI _ _ (by omega) (by omega) (by omega), hW _ (by omega) (by omega)]; exact c0 k a b
  · rw [hI _ _ (by omega) (by omega) (by omega), hW _ (by omega) (by omega)]; exact c1
  · rw [hI _ _ (by omega) (by omega) (by omega), hW _ (by omega) (by omega)]; exact c2 i k a b e f
  · rw [hI _ _ (by omega) (by omega) (by omega), hW _ (by omega) (by omega)]; exact c3
  · rw [hI _ _ (by omega) (by omega) (by omega), hW _ (by omega) (by omega)]; exact (c4 k a b).1
  · rw [hI _ _ (by omega) (by omega) (by omega), hW _ (by omega) (by omega)]; exact (c4 k a b).2
  · rw [hI _ _ (by omega) (by omega) (by omega), hW _ (by omega) (by omega)]; exact c5
  · rw [hI _ _ (by omega) (by omega) (by omega), hW _ (by omega) (by omega)]; exact c6
  · rw [hI _ _ (by omega) (by omega) (by omega), hW _ (by omega) (by omega)]; exact c7
section
variable {d : Nat} {K N : Nat → Nat} {I I' : Nat → Nat → Int} {P P' : Nat → Nat → Option Nat} {z : Nat} {Q : am_V → am_T} {W W' W0 L0 : Int → Int} {s : Nat} {m m0 : Int} {L : Int → Int} {π π0 : Int → Nat}
theorem ST.ne (h : ST K N I P s W m L π) {i j : Int} (i0 : 0 ≤ i) (i1 : i < 20) (j0 : 0 ≤ j) (j1 : j < 20) (e : ¬ j = i) : ¬ π j = π i := fun q => e (h.i.2.1 j i j0 j1 i0 i1 q)
/-- one part's columns have changed -/
theorem ST.pt (hS : ST K N I P s W m L π) (g9 : W 9 ≤ 300) {i : Int} (i0 : 0 ≤ i) (i1 : i < m) (hI : ∀ a, ¬ a = π i → I' a = I a) (hW : ∀ j : Int, 0 ≤ j → ¬ v_cl (L i) j → W' j = W j) (hp : PC I' (π i) W' (L i)) : ST K N I' P s W' m L π := by
  have hm := hS.m2
  have b := hS.i.bd i0 (show i < 20 by omega)
  have o := hS.b.on i0 i1
  have h9 : W' 9 = W 9 := hW 9 (by omega) (by simp only [v_cl]; omega)
  refine ⟨hS.k, hS.p, hS.i, hS.c.cg (fun a k x y _ => by rw [hI a (by omega)]) (fun j x y => hW j x (by simp only [v_cl]; omega)), by rw [hI s (by omega)]; exact hS.ob, hS.b.cg h9 (fun p x y => hW _ (by omega) (by simp only [v_cl]; omega)), hm.2, fun j x y => ?_⟩
  by_cases e : j = i
  · subst e; exact hp
  · have oj := hS.b.on x y
    exact (hS.t j x y).oth (hI _ (hS.ne i0 (by omega) x (by omega) e)) o.1 (by omega) oj.1 (by omega) (fun q => e (hS.b.inj x y i0 i1 q)) (fun k a b _ => hW k (by omega) b)
theorem DP.pt (hD : DP I W m m0 L π W0 L0 π0) (hS : ST K N I P s W m L π) (g9 : W 9 ≤ 300) {i : Int} (i0 : 0 ≤ i) (i1 : i < m) (hI : ∀ a, ¬ a = π i → I' a = I a) (hW : ∀ j : Int, 0 ≤ j → ¬ v_cl (L i) j → W' j = W j) : DP I' W' m m0 L π W0 L0 π0 := by
  have o := hS.b.on i0 i1
  have h9 : W' 9 = W 9 := hW 9 (by omega) (by simp only [v_cl]; omega)
  obtain ⟨d1, d2, d3, d4⟩ := hD
  refine ⟨d1, d2, fun j x y => ?_, d4⟩
  obtain ⟨e1, e2, e3, e4⟩ := d3 j x y
  refine ⟨e1.oth (hI _ (hS.ne i0 (by have := hS.m2; omega) (by have := hS.m2; omega) (by omega) (by omega))) o.1 (by omega) e2.1 (by omega) (fun q => e3 (by rw [q]; exact o.2.2)) (fun k a b _ => hW k (by omega) b), by rw [h9]; exact e2, ?_, e4⟩
  rw [hW _ (by omega) (by simp only [v_cl]; omega)]; exact e3
/-- lanes, settings, routes, counters have changed -/
theorem ST.ln (hS : ST K N I P s W m L π) (g9 : W 9 ≤ 300) (hI : ∀ a k, (s + 13 ≤ a ∧ a < s + 33) ∨ (a = s ∧ k = 6) → I' a k = I a k) (hc : SC I' s W') (hW : ∀ j : Int, j = 9 ∨ 200 ≤ j → W' j = W j) : ST K N I' P s W' m L π := by
  have hm := hS.m2
  refine ⟨hS.k, hS.p, hS.i, hc, (hI s 6 (Or.inr ⟨rfl, rfl⟩)).trans hS.ob, hS.b.cg (hW 9 (Or.inl rfl)) (fun p x y => hW _ (by omega)), hm.2, fun j x y => ?_⟩
  have b := hS.i.bd x (show j < 20 by omega)
  have o := hS.b.on x y
  exact (hS.t j x y).cg (fun k _ => hI _ _ (Or.inl b)) ⟨hW _ (by omega), hW _ (by omega), hW _ (by omega), hW _ (by omega), hW _ (by omega), hW _ (by omega), hW _ (by omega), hW _ (by omega), hW _ (by omega), hW _ (by omega)⟩
theorem DP.ln (hD : DP I W m m0 L π W0 L0 π0) (hS : ST K N I P s W m L π) (hI : ∀ a k, (s + 13 ≤ a ∧ a < s + 33) ∨ (a = s ∧ k = 6) → I' a k = I a k) (hW : ∀ j : Int, j = 9 ∨ 200 ≤ j → W' j = W j) : DP I' W' m m0 L π W0 L0 π0 := by
  have hm := hS.m2
  obtain ⟨d1, d2, d3, d4⟩ := hD
  have h9 := hW 9 (Or.inl rfl)
  refine ⟨d1, d2, fun j x y => ?_, d4⟩
  obtain ⟨e1, e2, e3, e4⟩ := d3 j x y
  have b := hS.i.bd (j := j) (by omega) (show j < 20 by omega)
  refine ⟨e1.cg (fun k _ => hI _ _ (Or.inl b)) ⟨hW _ (by omega), hW _ (by omega), hW _ (by omega), hW _ (by omega), hW _ (by omega), hW _ (by omega), hW _ (by omega), hW _ (by omega), hW _ (by omega), hW _ (by omega)⟩, by rw [h9]; exact e2, ?_, e4⟩
  rw [hW _ (by omega)]; exact e3
theorem v_rot_a {α : Type} {f : Int → α} {i j : Int} (h : j < i) (h2 : j < m - 1) : v_rot f i m j = f j := by unfold v_rot; rw [if_neg (by omega), if_neg (by omega)]
theorem v_rot_b {α : Type} {f : Int → α} {i j : Int} (h : i ≤ j) (h2 : j < m - 1) : v_rot f i m j = f (j + 1) := by unfold v_rot; rw [if_pos ⟨h, h2⟩]
theorem v_rot_c {α : Type} {f : Int → α} {i : Int} (h : i < m) : v_rot f i m (m - 1) = f i := by unfold v_rot; rw [if_neg (by omega), if_pos rfl]
theorem v_rot_d {α : Type} {f : Int → α} {i j : Int} (h : i < m) (h2 : m ≤ j) : v_rot f i m j = f j := by unfold v_rot; rw [if_neg (by omega), if_neg (by omega)]
/-- the part at place i has left -/
theorem ST.lv (hS : ST K N I P s W m L π) (g9 : W 9 ≤ 300) {i f : Int} (i0 : 0 ≤ i) (i1 : i < m) (hf : ¬ f = 0) (hP : ∀ a, ¬ a = s + 6 → P' a = P a) (hI : SI P' s (v_rot π i m)) : ST K N (am_u2 (am_u2 I (π i) 3 f) s 6 (m - 1)) P' s (v_u W (800 + L i) f) (m - 1) (v_rot L i m) (v_rot π i m) := by
  have hm := hS.m2
  have b := hS.i.bd i0 (show i < 20 by omega)
  have o := hS.b.on i0 i1
  obtain ⟨t0, t1, t2, t3, t4, t5, t6⟩ := hS.p
  have hW : ∀ j : Int, ¬ j = 800 + L i → v_u W (800 + L i) f j = W j := fun j h => v_un h
  refine ⟨hS.k, ⟨by rw [hP _ (by omega)]; exact t0, by rw [hP _ (by omega)]; exact t1, by rw [hP _ (by omega)]; exact t2, by rw [hP _ (by omega)]; exact t3, by rw [hP _ (by omega)]; exact t4, by rw [hP _ (by omega)]; exact t5, fun k x y => by rw [hP _ (by omega)]; exact t6 k x y⟩, hI, ?_, am_u2_s, ?_, by omega, fun j x y => ?_⟩
  · refine hS.c.cg (fun a k x y e => ?_) (fun j x y => hW j (by omega))
    rw [am_u2_o (by omega), am_u2_o (by omega)]
  · refine hS.b.rot i0 i1 (hW 9 (by omega)) (fun p x y e => ?_) (by rw [v_us]; exact hf)
    rw [hW _ (by omega)]
  · have key : ∀ k : Int, 0 ≤ k → k < m → ¬ k = i → PC (am_u2 (am_u2 I (π i) 3 f) s 6 (m - 1)) (π k) (v_u W (800 + L i) f) (L k) := by
      intro k k0 k1 ne
      have bk := hS.i.bd k0 (show k < 20 by omega)
      have ok := hS.b.on k0 k1
      have nl : ¬ L k = L i := fun q => ne (hS.b.inj k0 k1 i0 i1 q)
      refine (hS.t k k0 k1).oth ?_ o.1 (by omega) ok.1 (by omega) nl (fun j _ _ e => hW j e)
      rw [am_u2_ne (by omega), am_u2_ne (hS.ne i0 (by omega) k0 (by omega) ne)]
    rcases (show j < i ∨ i ≤ j by omega) with q | q
    · rw [v_rot_a q (by omega), v_rot_a q (by omega)]
      exact key j x (by omega) (by omega)
    · rw [v_rot_b q (by omega), v_rot_b q (by omega)]
      exact key (j + 1) (by omega) (by omega) (by omega)
theorem DP.lv (hD : DP I W m m0 L π W0 L0 π0) (hS : ST K N I P s W m L π) (g9 : W 9 ≤ 300) {i f : Int} (i0 : 0 ≤ i) (i1 : i < m) (hf : ¬ f = 0) (h0 : W0 (800 + L i) = 0) : DP (am_u2 (am_u2 I (π i) 3 f) s 6 (m - 1)) (v_u W (800 + L i) f) (m - 1) m0 (v_rot L i m) (v_rot π i m) W0 L0 π0 := by
  have hm := hS.m2
  have b := hS.i.bd i0 (show i < 20 by omega)
  have o := hS.b.on i0 i1
  have hW : ∀ j : Int, ¬ j = 800 + L i → v_u W (800 + L i) f j = W j := fun j h => v_un h
  obtain ⟨d1, d2, d3, d4⟩ := hD
  refine ⟨by omega, d2, fun j x y => ?_, fun k x y => ?_⟩
  · rcases (show j = m - 1 ∨ m ≤ j by omega) with q | q
    · subst q
      rw [v_rot_c i1, v_rot_c i1, v_us, hW 9 (by omega)]
      refine ⟨?_, ⟨o.1, o.2.1⟩, hf, h0⟩
      obtain ⟨e0, e1, e2, e3, e4, e5, e6, e7, e8, e9, e10⟩ := hS.t i i0 i1
      unfold PC
      rw [hW (200 + L i) (by omega), hW (500 + L i) (by omega), hW (1100 + L i) (by omega), hW (1400 + L i) (by omega), hW (1700 + L i) (by omega), hW (2000 + L i) (by omega), hW (2300 + L i) (by omega), hW (2600 + L i) (by omega), hW (2900 + L i) (by omega), v_us]
      have f : ∀ k, ¬ k = 3 → am_u2 (am_u2 I (π i) 3 f) s 6 (m - 1) (π i) k = I (π i) k := fun k hk => by rw [am_u2_o (by omega), am_u2_o (by omega)]
      rw [f 0 (by omega), f 1 (by omega), f 2 (by omega), f 4 (by omega), f 5 (by omega), f 6 (by omega), f 7 (by omega), f 8 (by omega), f 9 (by omega), f 10 (by omega), am_u2_o (by omega), am_u2_s]
      exact ⟨e0, e1, e2, rfl, e4, e5, e6, e7, e8, e9, e10⟩
    · rw [v_rot_d i1 q, v_rot_d i1 q, hW 9 (by omega)]
      obtain ⟨e1, e2, e3, e4⟩ := d3 j q y
      have bj := hS.i.bd (j := j) (by omega) (by omega)
      have nl : ¬ L j = L i := fun q => e3 (by rw [q]; exact o.2.2)
      refine ⟨e1.oth ?_ o.1 (by omega) e2.1 (by omega) nl (fun k _ _ e => hW k e), e2, by rw [hW _ (by omega)]; exact e3, e4⟩
      rw [am_u2_ne (by omega), am_u2_ne (hS.ne i0 (by omega) (by omega) (by omega) (by omega))]
  · obtain ⟨j, j0, j1, j2, j3⟩ := d4 k x y
    rcases (show j < i ∨ j = i ∨ (i < j ∧ j < m) ∨ m ≤ j by omega) with q | q | q | q
    · exact ⟨j, j0, j1, by rw [v_rot_a q (by omega)]; exact j2, by rw [v_rot_a q (by omega)]; exact j3⟩
    · exact ⟨m - 1, by omega, by omega, by rw [v_rot_c i1, ← q]; exact j2, by rw [v_rot_c i1, ← q]; exact j3⟩
    · exact ⟨j - 1, by omega, by omega, by rw [v_rot_b (by omega) (by omega), show j - 1 + 1 = j by omega]; exact j2, by rw [v_rot_b (by omega) (by omega), show j - 1 + 1 = j by omega]; exact j3⟩
    · exact ⟨j, j0, j1, by rw [v_rot_d i1 q]; exact j2, by rw [v_rot_d i1 q]; exact j3⟩
theorem cs_hasGaps (hd : 2 ≤ d) (hS : ST K N I P s W m L π) (hG : v_G W) {i : Int} (i0 : 0 ≤ i) (i1 : i < m) (h : Q (am_i (if v_clr W (L i) then 1 else 0)) K N I P z) : am_C d m_X6_hasGaps [am_r s, am_i i] K N I P z Q am_nx := by
  obtain ⟨s0, s1, s2, s3, s4, s5, s6, s7, s8, s9, s10, s11, s12, s13⟩ := id hS.k; obtain ⟨t0, t1, t2, t3, t4, t5, t6⟩ := id hS.p; have tm := hS.ob; have hm2 := hS.m2
  have e1 := hS.b.ah i0 i1
  have e2 := hS.b.be i0 i1
  have g9 := hG.n9
  simp only [v_clr, e1, e2] at h
  have c4 := hS.c.st3
  have rest : (i = 0 ∨ W 4 ≤ v_tl W (L (i - 1)) - W (500 + L i)) → ((I s 6 ≤ am_wr (i + 1) → Q (am_i 1) K N I P z) ∧ (¬ (I s 6 ≤ am_wr (i + 1)) → am_C (d - 1) m_X6_gapBetween [am_r s, am_i i, am_i (am_wr (i + 1))] K N I P z (fun v K2 N3 I4 P5 z6 => am_iv v fun x7 => K2 s = 6 ∧ ∃ b9, P5 s 0 = some b9 ∧ K2 b9 = 10 ∧ (0 ≤ (3 : Int) ∧ (3 : Int) < N3 b9) ∧ ((x7 < I4 b9 3 → Q (am_i 0) K2 N3 I4 P5 z6) ∧ (¬ (x7 < I4 b9 3) → Q (am_i 1) K2 N3 I4 P5 z6))) am_nx)) := by
    intro hc
    rw [am_wE (by omega) (by omega), tm]
    refine ⟨fun q => ?_, fun q => cs_gap (by omega) hS hG i0 i1 (by omega) (by omega) ?_⟩
    · rw [if_pos] at h
      · exact h
      · refine ⟨?_, Or.inl (if_pos (by omega))⟩
        rcases hc with r | r
        · exact Or.inl (if_pos r)
        · by_cases r2 : i = 0
          · exact Or.inl (if_pos r2)
          · rw [if_neg r2]; exact Or.inr r
    · have oj := hS.b.on (j := i + 1) (by omega) (by omega)
      rw [if_neg (show ¬ i + 1 = m by omega)] at h
      refine ⟨s0, s + 1, t0, s1, by omega, fun r => ?_, fun r => ?_⟩
      · rw [c4] at r
        rw [if_neg] at h
        · exact h
        · intro q2
          rcases q2.2 with q3 | q3
          · omega
          · omega
      · rw [c4] at r
        rw [if_pos] at h
        · exact h
        · refine ⟨?_, Or.inr (by omega)⟩
          rcases hc with r | r
          · exact Or.inl (if_pos r)
          · by_cases r2 : i = 0
            · exact Or.inl (if_pos r2)
            · rw [if_neg r2]; exact Or.inr r
  refine wf_X6_hasGaps (by omega) ⟨fun q => ⟨s0, rest (Or.inl (by omega))⟩, fun q => ⟨s0, ?_⟩⟩
  rw [am_wE (x := i - 1) (by omega) (by omega)]
  refine cs_gap (by omega) hS hG (by omega) (by omega) i0 i1 ?_
  refine ⟨s0, s + 1, t0, s1, by omega, fun r => rest (Or.inr (by rw [c4] at r; exact r)), fun r => ?_⟩
  rw [c4] at r
  rw [if_neg (show ¬ i = 0 by omega), if_neg] at h
  · exact h
  · have oj := hS.b.on (j := i - 1) (by omega) (by omega)
    intro q2
    rcases q2.1 with q3 | q3
    · omega
    · exact r q3
end
