/-- a list's part of the count: f holds of parts on the belt alone -/
theorem BL.cnt2 {W : Int → Int} {m : Int} {L : Int → Int} (h : BL W m L) (f : Int → Bool) (hf : ∀ p : Int, 0 ≤ p → p < W 9 → ¬ W (800 + p) = 0 → f p = false) : ∀ (n j : Nat), (n : Int) ≤ W 9 → (j : Int) ≤ m → (∀ i : Int, 0 ≤ i → i < j → L i < n) → (∀ i : Int, j ≤ i → i < m → (n : Int) ≤ L i) → v_cnt f n = v_cnt (fun i => f (L i)) j
  | 0, j, hn, j1, h1, h2 => by
    cases j with
    | zero => rfl
    | succ j =>
      have := h1 0 (by omega) (by omega)
      have := (h.on (j := 0) (by omega) (by omega)).1
      omega
  | n + 1, j, hn, j1, h1, h2 => by
    rw [v_cnt]
    by_cases q : W (800 + (n : Int)) = 0
    · obtain ⟨i, i0, i1, i2⟩ := h.ex (p := n) (by omega) (by omega) q
      have hij : i = (j : Int) - 1 := by
        rcases (show (j : Int) ≤ i ∨ i < j by omega) with r | r
        · have := h2 i r i1; omega
        · rcases (show i = (j : Int) - 1 ∨ i < (j : Int) - 1 by omega) with r2 | r2
          · exact r2
          · have := h.lt i0 (j := (j : Int) - 1) r2 (by omega)
            have := h1 ((j : Int) - 1) (by omega) (by omega)
            omega
      cases j with
      | zero => omega
      | succ j =>
        rw [h.cnt2 f hf n j (by omega) (by omega) ?_ ?_, v_cnt]
        · rw [show ((j : Nat) : Int) = i by omega, i2]
        · intro k k0 k1
          have := h.lt k0 (j := i) (by omega) i1
          omega
        · intro k k0 k1
          rcases (show k = i ∨ i < k by omega) with r | r
          · rw [r, i2]; exact Int.le_refl _
          · have := h.lt i0 r k1
            omega
    · rw [hf n (by omega) (by omega) q, if_neg (by decide), h.cnt2 f hf n j (by omega) j1 ?_ ?_]
      · omega
      · intro k k0 k1
        have a := h1 k k0 k1
        rcases (show L k < n ∨ L k = n by omega) with r | r
        · exact r
        · have := (h.on k0 (by omega)).2.2
          rw [r] at this
          exact (q this).elim
      · intro k k0 k1
        have := h2 k k0 k1
        omega
theorem v_cnt_cg {f g : Int → Bool} : ∀ n : Nat, (∀ p : Int, 0 ≤ p → p < n → f p = g p) → v_cnt f n = v_cnt g n
  | 0, _ => rfl
  | n + 1, h => by
    rw [v_cnt, v_cnt, v_cnt_cg n (fun p a b => h p a (by omega)), h n (by omega) (by omega)]
section
variable {W : Int → Int} {m : Int} {L : Int → Int}
theorem v_dl_lt (hG : v_G W) {p q : Int} (p0 : 0 ≤ p) (p1 : p < W 9) (q0 : 0 ≤ q) (q1 : q < W 9) : v_rb W p q = decide (v_dl W p < v_dl W q ∨ (v_dl W p = v_dl W q ∧ p < q)) := by
  have b1 := hG.lo (p := p)
  have b2 := hG.lo (p := q)
  have g7 := hG.l7
  have gp := hG.pt p p0 p1
  have gq := hG.pt q q0 q1
  have gl := hG.ln (v_lo W p)
  have gl2 := hG.ln (v_lo W q)
  unfold v_rb v_dl
  simp only [v_md]
  generalize v_lo W p = a at *
  generalize v_lo W q = b at *
  by_cases ca : a = -1
  · rw [if_pos (Or.inl ca), if_pos ca]
    by_cases cb : b = -1
    · rw [if_pos cb]; refine decide_eq_decide.mpr ?_; omega
    · rw [if_neg cb]
      have := gl2 (by omega) (by omega)
      refine decide_eq_decide.mpr ?_; omega
  · have g1 := gl (by omega) (by omega)
    by_cases cb : b = -1
    · rw [if_pos (Or.inr cb), if_neg ca, if_pos cb]; refine decide_eq_decide.mpr ?_; omega
    · rw [if_neg (by omega), if_neg ca, if_neg cb]
/-- a part's rank, by places -/
theorem BL.rank (h : BL W m L) (hG : v_G W) {i : Int} (i0 : 0 ≤ i) (i1 : i < m) : v_cnt (v_rkf W (L i)) (W 9).toNat = v_cnt (fun j => decide (v_dl W (L j) < v_dl W (L i) ∨ (v_dl W (L j) = v_dl W (L i) ∧ j < i))) m.toNat := by
  have g9 := hG.n9
  have oi := h.on i0 i1
  rw [h.cnt2 (v_rkf W (L i)) (fun p a b c => decide_eq_false (fun q => c q.1)) (W 9).toNat m.toNat (by omega) (by omega) (fun k a b => by have := h.on a (show k < m by omega); omega) (fun k a b => absurd b (by omega))]
  refine v_cnt_cg _ (fun j a b => ?_)
  have oj := h.on a (show j < m by omega)
  refine decide_eq_decide.mpr ?_
  rw [v_dl_lt hG oj.1 oj.2.1 oi.1 oi.2.1, decide_eq_true_eq]
  have e1 : L j < L i ↔ j < i := by
    refine ⟨fun q => ?_, fun q => h.lt a q i1⟩
    rcases (show j < i ∨ j = i ∨ i < j by omega) with r | r | r
    · exact r
    · subst r; omega
    · have := h.lt i0 r (show j < m by omega); omega
  by_cases e : j = i
  · subst e
    refine ⟨fun q => (q.2.1 rfl).elim, fun q => ?_⟩
    omega
  · have ne : ¬ L j = L i := fun q => e (h.inj a (by omega) i0 i1 q)
    refine ⟨fun q => ?_, fun q => ⟨oj.2.2, ne, ?_⟩⟩
    · rcases q.2.2 with r | r
      · exact Or.inl r
      · exact Or.inr ⟨r.1, e1.mp r.2⟩
    · rcases q with r | r
      · exact Or.inl r
      · exact Or.inr ⟨r.1, e1.mpr r.2⟩
end
/-! leaving the belt -/
/-- the one at place i goes behind the others of the first m -/
def v_rot {α : Type} (f : Int → α) (i m : Int) : Int → α := fun j => if i ≤ j ∧ j < m - 1 then f (j + 1) else if j = m - 1 then f i else f j
section
variable {d : Nat} {K N : Nat → Nat} {I : Nat → Nat → Int} {P : Nat → Nat → Option Nat} {z : Nat} {Q : am_V → am_T} {W : Int → Int} {s : Nat} {m : Int} {L : Int → Int} {π : Int → Nat}
theorem SI.rot (h : SI P s π) {i m : Int} (i0 : 0 ≤ i) (i1 : i < m) (m1 : m ≤ 20) {P' : Nat → Nat → Option Nat} (hp : ∀ j : Int, 0 ≤ j → j < 20 → P' (s + 6) j.toNat = some (v_rot π i m j)) : SI P' s (v_rot π i m) := by
  refine ⟨fun j a b => ⟨hp j a b, ?_⟩, fun a b a0 a1 b0 b1 e => ?_, fun a a0 a1 => ?_⟩
  · unfold v_rot
    split
    · exact h.bd (by omega) (by omega)
    · split
      · exact h.bd (by omega) (by omega)
      · exact h.bd a b
  · have f : ∀ j : Int, 0 ≤ j → j < 20 → ∃ k, v_rot π i m j = π k ∧ 0 ≤ k ∧ k < 20 ∧ k = (if i ≤ j ∧ j < m - 1 then j + 1 else if j = m - 1 then i else j) := by
      intro j j0 j1
      refine ⟨_, ?_, ?_, ?_, rfl⟩
      · unfold v_rot
        split
        · rfl
        · split <;> rfl
      · split
        · omega
        · split <;> omega
      · split
        · omega
        · split <;> omega
    obtain ⟨k, k1, k2, k3, k4⟩ := f a a0 a1
    obtain ⟨l, l1, l2, l3, l4⟩ := f b b0 b1
    rw [k1, l1] at e
    have := h.2.1 k l k2 k3 l2 l3 e
    subst this
    rw [k4] at l4
    split at l4 <;> split at l4 <;> (try split at l4) <;> (try split at l4) <;> omega
  · obtain ⟨k, k0, k1, k2⟩ := h.2.2 a a0 a1
    unfold v_rot
    rcases (show k < i ∨ k = i ∨ (i < k ∧ k < m) ∨ m ≤ k by omega) with q | q | q | q
    · exact ⟨k, k0, k1, by rw [if_neg (by omega), if_neg (by omega)]; exact k2⟩
    · exact ⟨m - 1, by omega, by omega, by rw [if_neg (by omega), if_pos rfl, ← q]; exact k2⟩
    · exact ⟨k - 1, by omega, by omega, by rw [if_pos (by omega), show k - 1 + 1 = k by omega]; exact k2⟩
    · exact ⟨k, k0, k1, by rw [if_neg (by omega), if_neg (by omega)]; exact k2⟩
theorem cs_leave (hS : SK K N s) (t3 : P s 5 = some (s + 6)) (hI : SI P s π) (tm : I s 6 = m) {i f : Int} (i0 : 0 ≤ i) (i1 : i < m) (m1 : m ≤ 20) (h : ∀ P', (∀ a, ¬ a = s + 6 → P' a = P a) → SI P' s (v_rot π i m) → Q am_nl K N (am_u2 (am_u2 I (π i) 3 f) s 6 (m - 1)) P' z) : am_C d m_X6_leave [am_r s, am_i i, am_i f] K N I P z Q am_nx := by
  obtain ⟨s0, s1, s2, s3, s4, s5, s6, s7, s8, s9, s10, s11, s12, s13⟩ := id hS
  have kp : ∀ j : Int, 0 ≤ j → j < 20 → K (π j) = 2 := fun j a b => s13 _ (hI.bd a b).1 (hI.bd a b).2
  have bi := hI.bd i0 (show i < 20 by omega)
  refine wf_X6_leave ⟨fun q => absurd q (by omega), fun _ => ⟨s0, fun _ => ⟨s + 6, t3, s10, by omega, π i, hI.pl i0 (by omega), kp i i0 (by omega), ?_⟩, fun q => absurd tm (by omega)⟩⟩
  rintro I6 rfl I7 rfl
  rw [am_u2_o (I := I) (a := π i) (b := s) (by omega), tm, am_wE (by omega) (by omega)]
  have key : ∀ (n : Nat) (j : Int) (P' : Nat → Nat → Option Nat), i ≤ j → j + n = m - 1 → (∀ a, ¬ a = s + 6 → P' a = P a) → (∀ k : Int, 0 ≤ k → k < 20 → P' (s + 6) k.toNat = some (if i ≤ k ∧ k < j then π (k + 1) else π k)) → L_X6_leave_38 d s (π i) j K N (am_u2 (am_u2 I (π i) 3 f) s 6 (m - 1)) P' z Q := by
    intro n
    induction n with
    | zero =>
      intro j P' j0 j1 hP hQ
      have e5 : P' s 5 = some (s + 6) := by rw [hP s (by omega)]; exact t3
      refine wf_X6_leave_38 ⟨s0, fun _ => ⟨s + 6, e5, s10, ?_, kp i i0 (by omega), ?_⟩, fun q => by rw [am_u2_s] at q; omega⟩
      · rw [am_u2_s]; omega
      rintro P5 rfl
      rw [am_u2_s]
      refine h _ (fun a ha => by rw [am_p2_ne ha]; exact hP a ha) (hI.rot i0 i1 m1 ?_)
      intro k k0 k1
      unfold am_p2 v_rot
      by_cases q : k = m - 1
      · subst q
        rw [if_pos ⟨rfl, rfl⟩, if_neg (by omega), if_pos rfl]
      · rw [if_neg (by omega), hQ k k0 k1]
        by_cases q2 : i ≤ k ∧ k < j
        · rw [if_pos q2, if_pos (by omega)]
        · rw [if_neg q2, if_neg (by omega), if_neg q]
    | succ n ih =>
      intro j P' j0 j1 hP hQ
      have e5 : P' s 5 = some (s + 6) := by rw [hP s (by omega)]; exact t3
      have e1 := hQ (j + 1) (by omega) (by omega)
      rw [if_neg (by omega)] at e1
      refine wf_X6_leave_38 ⟨s0, fun q => by rw [am_u2_s] at q; omega, fun _ => ⟨s + 6, e5, s10, ?_, π (j + 1), ?_, by omega, kp (j + 1) (by omega) (by omega), ?_⟩⟩
      · rw [am_wE (by omega) (by omega)]; omega
      · rw [am_wE (by omega) (by omega)]; exact e1
      rintro P10 rfl
      rw [am_wE (by omega) (by omega)]
      refine ih (j + 1) _ (by omega) (by omega) (fun a ha => by rw [am_p2_ne ha]; exact hP a ha) ?_
      intro k k0 k1
      unfold am_p2
      by_cases q : k = j
      · subst q
        rw [if_pos ⟨rfl, rfl⟩, if_pos (by omega)]
      · rw [if_neg (by omega), hQ k k0 k1]
        by_cases q2 : i ≤ k ∧ k < j
        · rw [if_pos q2, if_pos (by omega)]
        · rw [if_neg q2, if_neg (by omega)]
  exact key (m - 1 - i).toNat i P (Int.le_refl _) (by omega) (fun _ _ => rfl) (fun k a b => by rw [if_neg (by omega)]; exact hI.pl a b)
theorem BL.rot (h : BL W m L) {i : Int} (i0 : 0 ≤ i) (i1 : i < m) {W' : Int → Int} (h9 : W' 9 = W 9) (h8 : ∀ p : Int, 0 ≤ p → p < W 9 → ¬ p = L i → (W' (800 + p) = 0 ↔ W (800 + p) = 0)) (hi : ¬ W' (800 + L i) = 0) : BL W' (m - 1) (v_rot L i m) := by
  have e1 : ∀ j : Int, j < i → j < m - 1 → v_rot L i m j = L j := fun j a b => by unfold v_rot; rw [if_neg (by omega), if_neg (by omega)]
  have e2 : ∀ j : Int, i ≤ j → j < m - 1 → v_rot L i m j = L (j + 1) := fun j a b => by unfold v_rot; rw [if_pos ⟨a, b⟩]
  refine ⟨by omega, ?_, ?_, ?_⟩
  · intro j a b
    rcases (show j < i ∨ i ≤ j by omega) with q | q
    · rw [e1 j q b]
      have o := h.on a (show j < m by omega)
      have := h.lt a q i1
      exact ⟨o.1, by omega, (h8 _ o.1 o.2.1 (by omega)).mpr o.2.2⟩
    · rw [e2 j q b]
      have o := h.on (j := j + 1) (by omega) (by omega)
      have := h.lt i0 (show i < j + 1 by omega) (by omega)
      exact ⟨o.1, by omega, (h8 _ o.1 o.2.1 (by omega)).mpr o.2.2⟩
  · intro j k a b c
    rcases (show k < i ∨ (j < i ∧ i ≤ k) ∨ i ≤ j by omega) with q | q | q
    · rw [e1 j (by omega) (by omega), e1 k q c]; exact h.lt a b (by omega)
    · rw [e1 j q.1 (by omega), e2 k q.2 c]; exact h.lt a (by omega) (by omega)
    · rw [e2 j q (by omega), e2 k (by omega) c]; exact h.lt (by omega) (by omega) (by omega)
  · intro p p0 p1 p2
    rw [h9] at p1
    have ne : ¬ p = L i := by rintro rfl; exact hi p2
    obtain ⟨j, j0, j1, j2⟩ := h.ex p0 p1 ((h8 p p0 p1 ne).mp p2)
    have nj : ¬ j = i := by rintro rfl; exact ne j2.symm
    rcases (show j < i ∨ i < j by omega) with q | q
    · exact ⟨j, j0, by omega, by rw [e1 j q (by omega)]; exact j2⟩
    · refine ⟨j - 1, by omega, by omega, ?_⟩
      rw [e2 (j - 1) (by omega) (by omega), show j - 1 + 1 = j by omega]
      exact j2
end
