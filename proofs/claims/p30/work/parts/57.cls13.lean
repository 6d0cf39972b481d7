theorem BL.prev2 {W : Int → Int} {m : Int} {L : Int → Int} (h : BL W m L) (f : Int → Bool) (hf : ∀ p : Int, 0 ≤ p → p < W 9 → ¬ W (800 + p) = 0 → f p = false) : ∀ (n j : Nat), (n : Int) ≤ W 9 → (j : Int) ≤ m → (∀ i : Int, 0 ≤ i → i < j → L i < n) → (∀ i : Int, j ≤ i → i < m → (n : Int) ≤ L i) → v_prev f n = if v_prev (fun i => f (L i)) j = -1 then -1 else L (v_prev (fun i => f (L i)) j)
  | 0, j, hn, j1, h1, h2 => by
    cases j with
    | zero => rfl
    | succ j =>
      have := h1 0 (by omega) (by omega)
      have := (h.on (j := 0) (by omega) (by omega)).1
      omega
  | n + 1, j, hn, j1, h1, h2 => by
    rw [v_prev]
    by_cases q : W (800 + (n : Int)) = 0
    · obtain ⟨i, i0, i1, i2⟩ := h.ex (p := n) (by omega) (by omega) q
      have hij : i = (j : Int) - 1 := by
        rcases (show (j : Int) ≤ i ∨ i < j by omega) with r | r
        · have := h2 i r i1; omega
        · rcases (show i = (j : Int) - 1 ∨ i < (j : Int) - 1 by omega) with r2 | r2
          · exact r2
          · have := h.lt i0 (j := (j : Int) - 1) r2 (by omega)
            have := h1 ((j : Int) - 1) (by omega) (by omega)
            omega
      cases j with
      | zero => omega
      | succ j =>
        rw [h.prev2 f hf n j (by omega) (by omega) ?_ ?_, v_prev]
        · have e : L (j : Int) = n := by rw [show ((j : Nat) : Int) = i by omega, i2]
          rw [e]
          by_cases c : f n = true
          · rw [if_pos c, if_pos c, if_neg (by omega), e]
          · rw [if_neg c, if_neg c]
        · intro k k0 k1
          have := h.lt k0 (j := i) (by omega) i1
          omega
        · intro k k0 k1
          rcases (show k = i ∨ i < k by omega) with r | r
          · rw [r, i2]; exact Int.le_refl _
          · have := h.lt i0 r k1
            omega
    · rw [hf n (by omega) (by omega) q, if_neg (by decide), h.prev2 f hf n j (by omega) j1 ?_ ?_]
      · intro k k0 k1
        have a := h1 k k0 k1
        rcases (show L k < n ∨ L k = n by omega) with r | r
        · exact r
        · have := (h.on k0 (by omega)).2.2
          rw [r] at this
          exact (q this).elim
      · intro k k0 k1
        have := h2 k k0 k1
        omega
def v_fsh (W : Int → Int) : Int → Bool := fun p => decide (W (800 + p) = 0 ∧ W 1 ≤ v_tl W p ∧ v_tl W p < W 1 + W 2)
def v_fsc (W : Int → Int) : Int → Bool := fun p => decide (W (800 + p) = 0 ∧ v_tl W p < W 1 ∧ W 1 ≤ W (500 + p))
theorem v_cs_prev {W : Int → Int} (hG : v_G W) : ∀ n : Nat, (n : Int) ≤ W 9 → v_cs W n = v_prev (v_fsh W) n
  | 0, _ => rfl
  | n + 1, hn => by
    have ih := v_cs_prev hG n (by omega)
    have g9 := hG.n9
    rw [v_cs, v_prev]
    by_cases c : W (800 + (n : Int)) = 0 ∧ W 1 ≤ v_tl W n ∧ v_tl W n < W 1 + W 2
    · have e : v_fsh W n = true := decide_eq_true c
      have hc : v_cs W n = -1 ∨ v_tl W n < v_tl W (v_cs W n) := by
        by_cases q : v_cs W n = -1
        · exact Or.inl q
        · right
          have o := v_prev_on (v_fsh W) n (by rw [← ih]; exact q)
          have b := v_prev_bd (v_fsh W) n
          rw [← ih] at o b
          have o2 := of_decide_eq_true o
          have := hG.od (v_cs W n) n (by omega) b.2 (by omega) o2.1 c.1
          have gp := hG.pt n (by omega) (by omega)
          simp only [v_tl]
          omega
      rw [e, if_pos rfl, if_pos ⟨c, hc⟩]
    · have e : v_fsh W n = false := decide_eq_false c
      rw [e, if_neg (fun q => c q.1), if_neg (by decide)]
      exact ih
theorem v_as_prev {W : Int → Int} : ∀ n : Nat, v_as W n = v_prev (v_fsc W) n
  | 0 => rfl
  | n + 1 => by
    rw [v_as, v_prev, v_as_prev n]
    by_cases c : W (800 + (n : Int)) = 0 ∧ v_tl W n < W 1 ∧ W 1 ≤ W (500 + (n : Int))
    · have e : v_fsc W n = true := decide_eq_true c
      rw [e, if_pos rfl, if_pos c]
    · have e : v_fsc W n = false := decide_eq_false c
      rw [e, if_neg c, if_neg (by decide)]
section
variable {d : Nat} {K N : Nat → Nat} {I I' : Nat → Nat → Int} {P P' : Nat → Nat → Option Nat} {z : Nat} {Q : am_V → am_T} {W W' W0 : Int → Int} {s s2 : Nat} {m m0 : Int} {L : Int → Int} {π π2 : Int → Nat}
def v_op (π : Int → Nat) (x : Int) : Option Nat := if x = -1 then none else some (π x)
theorem cs_owner (hd : 1 ≤ d) (hS : ST K N I P s W m L π) (hG : v_G W) (h1 : v_own W = -1 → Q am_nl K N I P z) (h2 : ∀ j, 0 ≤ j → j < m → v_own W = L j → Q (am_r (π j)) K N I P z) : am_C d m_X6_ownerOfRead [am_r s] K N I P z Q am_nx := by
  obtain ⟨s0, s1, s2, s3, s4, s5, s6, s7, s8, s9, s10, s11, s12, s13⟩ := id hS.k; obtain ⟨t0, t1, t2, t3, t4, t5, t6⟩ := id hS.p; have tm := hS.ob; have hm2 := hS.m2
  have g9 := hG.n9
  have g1 := hG.s1
  have g2 := hG.s2
  have ecs := v_cs_prev hG (W 9).toNat (by omega)
  have eas := v_as_prev (W := W) (W 9).toNat
  have bnd : ∀ k : Int, 0 ≤ k → k < (m.toNat : Nat) → L k < ((W 9).toNat : Nat) := fun k a b => by have := hS.b.on a (show k < m by omega); omega
  rw [hS.b.prev2 (v_fsh W) (fun p a b c => decide_eq_false (fun q => c q.1)) (W 9).toNat m.toNat (by omega) (by omega) bnd (fun k a b => absurd b (by omega))] at ecs
  rw [hS.b.prev2 (v_fsc W) (fun p a b c => decide_eq_false (fun q => c q.1)) (W 9).toNat m.toNat (by omega) (by omega) bnd (fun k a b => absurd b (by omega))] at eas
  unfold v_own at h1 h2
  rw [ecs, eas] at h1 h2
  clear ecs eas bnd
  have key : ∀ (n j : Nat), (j : Int) + n = m → L_X6_ownerOfRead_14 d s (W 1) (v_op π (v_prev (fun i => v_fsh W (L i)) j)) (v_op π (v_prev (fun i => v_fsc W (L i)) j)) j K N I P z Q := by
    intro n
    induction n with
    | zero =>
      intro j hj
      have b1 := v_prev_bd (fun i => v_fsh W (L i)) j
      have b2 := v_prev_bd (fun i => v_fsc W (L i)) j
      have hjm : m.toNat = j := by omega
      rw [hjm] at h1 h2
      generalize v_prev (fun i => v_fsh W (L i)) j = a at *
      generalize v_prev (fun i => v_fsc W (L i)) j = b at *
      have lnn : ∀ k : Int, 0 ≤ k → k < m → ¬ L k = -1 := fun k x y => by have := (hS.b.on x y).1; omega
      have nl : a = -1 → b = -1 → Q am_nl K N I P z := by
        intro ca cb
        rw [if_pos ca, if_pos cb, if_neg (fun q => q.1 rfl)] at h1
        exact h1 rfl
      have sc : ¬ b = -1 → (a = -1 ∨ ¬ W (1100 + L a) = -1) → Q (am_r (π b)) K N I P z := by
        intro cb cc
        refine h2 b (by omega) (by omega) ?_
        rw [if_neg cb]
        rcases cc with ca | cc
        · rw [if_pos ca, if_neg (fun q => q.1 rfl)]
        · by_cases ca : a = -1
          · rw [if_pos ca, if_neg (fun q => q.1 rfl)]
          · rw [if_neg ca, if_neg (fun q => by rcases q.2 with r | r; exact cc r; exact lnn b (by omega) (by omega) r)]
      have sh : ¬ a = -1 → (W (1100 + L a) = -1 ∨ b = -1) → Q (am_r (π a)) K N I P z := by
        intro ca cc
        refine h2 a (by omega) (by omega) ?_
        have hc : W (1100 + L a) = -1 ∨ (if b = -1 then -1 else L b) = -1 := by
          rcases cc with r | r
          · exact Or.inl r
          · exact Or.inr (if_pos r)
        rw [if_neg ca, if_pos ⟨lnn a (by omega) (by omega), hc⟩]
      refine wf_X6_ownerOfRead_14 hd ⟨s0, fun _ => ⟨fun e => ?_, fun b2 e => ?_⟩, fun q => absurd tm (by omega)⟩
      · have ca : a = -1 := by
          unfold v_op at e
          by_cases q : a = -1
          · exact q
          · rw [if_neg q] at e; cases e
        unfold v_op
        by_cases cb : b = -1
        · rw [if_pos cb]; exact nl ca cb
        · rw [if_neg cb]; exact sc cb (Or.inl ca)
      · have ca : ¬ a = -1 := by
          intro q
          unfold v_op at e
          rw [if_pos q] at e; cases e
        unfold v_op at e
        rw [if_neg ca] at e
        cases e
        have e4 := (hS.t a (by omega) (by omega)).2.2.2.2.1
        refine ⟨hS.kp (by omega) (by omega), ?_⟩
        rw [e4]
        refine ⟨fun q => sh ca (Or.inl q), fun q => ⟨fun e => ?_, fun b4 e => ?_⟩⟩
        · refine sh ca (Or.inr ?_)
          unfold v_op at e
          by_cases q : b = -1
          · exact q
          · rw [if_neg q] at e; cases e
        · have cb : ¬ b = -1 := by
            intro q
            unfold v_op at e
            rw [if_pos q] at e; cases e
          unfold v_op at e
          rw [if_neg cb] at e
          cases e
          exact sc cb (Or.inr q)
    | succ n ih =>
      intro j hj
      have ih2 := ih (j + 1) (by omega)
      have o := hS.b.on (j := (j : Int)) (by omega) (by omega)
      have gp := hG.pt _ o.1 o.2.1
      have e2 := (hS.t j (by omega) (by omega)).2.2.1
      have kp := hS.kp (j := (j : Int)) (by omega) (by omega)
      rw [v_prev, v_prev] at ih2
      have c0 := hS.c.st0
      have c1 := hS.c.st1
      generalize v_prev (fun i => v_fsh W (L i)) j = a at *
      generalize v_prev (fun i => v_fsc W (L i)) j = b at *
      have fsh : v_fsh W (L j) = true ↔ (W 1 ≤ v_tl W (L j) ∧ v_tl W (L j) < W 1 + W 2) := by
        unfold v_fsh
        rw [decide_eq_true_eq]
        exact ⟨fun q => q.2, fun q => ⟨o.2.2, q⟩⟩
      have fsc : v_fsc W (L j) = true ↔ (v_tl W (L j) < W 1 ∧ W 1 ≤ W (500 + L j)) := by
        unfold v_fsc
        rw [decide_eq_true_eq]
        exact ⟨fun q => q.2, fun q => ⟨o.2.2, q⟩⟩
      have opj : v_op π (j : Int) = some (π j) := by unfold v_op; rw [if_neg (by omega)]
      simp only [Int.natCast_add, Int.cast_ofNat_Int] at ih2
      refine wf_X6_ownerOfRead_14 hd ⟨s0, fun q => absurd tm (by omega), fun _ => ⟨s + 6, t3, s10, by omega, π j, hS.i.pl (by omega) (by omega), kp, cp_tail kp (hS.t j (by omega) (by omega)) hG o.1 o.2.1 ?_⟩⟩
      simp only [am_iv]
      rw [am_wE (x := (j : Int) + 1) (by omega) (by omega)]
      refine ⟨fun r1 => ⟨fun r2 => absurd r1 (by omega), fun _ => ⟨kp, ?_⟩⟩, fun r1 => ⟨s0, s + 1, t0, s1, by omega, ?_⟩⟩
      · rw [e2]
        have n1 : ¬ v_fsh W (L j) = true := fun q => absurd (fsh.mp q).1 (by omega)
        rw [if_neg n1] at ih2
        refine ⟨fun r3 => ?_, fun r3 => ?_⟩
        · rw [if_neg (fun q => absurd (fsc.mp q).2 (by omega))] at ih2; exact ih2
        · rw [if_pos (fsc.mpr ⟨r1, by omega⟩), opj] at ih2; exact ih2
      · rw [c1, am_wE (by omega) (by omega)]
        have n1 : ¬ v_fsc W (L j) = true := fun q => absurd (fsc.mp q).1 (by omega)
        rw [if_neg n1] at ih2
        refine ⟨fun r2 => ⟨fun _ => ?_, fun r3 => absurd r1 (by omega)⟩, fun r2 => ⟨fun _ => ?_, fun r3 => absurd r1 (by omega)⟩⟩
        · rw [if_neg (fun q => absurd (fsh.mp q).2 (by omega))] at ih2; exact ih2
        · rw [if_pos (fsh.mpr ⟨by omega, by omega⟩), opj] at ih2; exact ih2
  refine wf_X6_ownerOfRead ⟨s0, s + 1, t0, s1, by omega, ?_⟩
  rw [hS.c.st0]
  exact key m.toNat 0 (by omega)
end
