/-! the text as a rule: what it is, in one way for both programs. T: its signs, n: how many -/
def v_sg (T : Int → Int) (n : Int) : Int → Int := fun i => if 0 ≤ i ∧ i < n then T i else -1
/-- a number of at most m more digits from p on, x read so far (-1: nothing) -/
def v_tn (G : Int → Int) : Nat → Int → Int → Int × Int
  | 0, x, p => (x, p)
  | m + 1, x, p => if 48 ≤ G p ∧ G p ≤ 57 then v_tn G m ((if x = -1 then 0 else 10 * x) + G p - 48) (p + 1) else (x, p)
abbrev v_t3 (G : Int → Int) (p : Int) : Int × Int := v_tn G 3 (-1) p
/-- a condition from p on: whether it is one; the place behind it or of the error -/
def v_tc (G : Int → Int) (p : Int) : Bool × Int :=
  if G p = 109 then
    (if (v_t3 G (p + 1)).1 ≤ 0 ∨ ¬ G (v_t3 G (p + 1)).2 = 44 then (false, (v_t3 G (p + 1)).2)
    else if (v_t3 G ((v_t3 G (p + 1)).2 + 1)).1 = -1 ∨ ¬ G (v_t3 G ((v_t3 G (p + 1)).2 + 1)).2 = 59 then (false, (v_t3 G ((v_t3 G (p + 1)).2 + 1)).2)
    else (true, (v_t3 G ((v_t3 G (p + 1)).2 + 1)).2 + 1))
  else if G p = 99 ∨ G p = 108 then
    (if (v_t3 G (p + 1)).1 = -1 ∨ ¬ G (v_t3 G (p + 1)).2 = 59 then (false, (v_t3 G (p + 1)).2) else (true, (v_t3 G (p + 1)).2 + 1))
  else (false, p)
abbrev v_lf (G : Int → Int) (p : Int) : Prop := G p = 120 ∨ (48 ≤ G p ∧ G p ≤ 53)
/-- a rule from p on, k more questions may stand around what is in it: whether it is one, the place, how many questions -/
def v_tr (G : Int → Int) : Nat → Int → Bool × Int × Int
  | 0, p => if v_lf G p then (true, p + 1, 0) else (false, p, 0)
  | k + 1, p => if v_lf G p then (true, p + 1, 0) else if G p = 63 then
      (if (v_tc G (p + 1)).1 = true then
        (if (v_tr G k (v_tc G (p + 1)).2).1 = true then
          ((v_tr G k (v_tr G k (v_tc G (p + 1)).2).2.1).1, (v_tr G k (v_tr G k (v_tc G (p + 1)).2).2.1).2.1, (v_tr G k (v_tc G (p + 1)).2).2.2 + (v_tr G k (v_tr G k (v_tc G (p + 1)).2).2.1).2.2 + 1)
        else (false, (v_tr G k (v_tc G (p + 1)).2).2.1, 0))
      else (false, (v_tc G (p + 1)).2, 0))
    else (false, p, 0)
def v_err (G : Int → Int) (n : Int) : Int := if (v_tr G 6 0).1 = true ∧ (v_tr G 6 0).2.1 = n then -1 else (v_tr G 6 0).2.1
section
variable {G : Int → Int} {n : Int}
theorem v_tn_bd (hg : ∀ i, n ≤ i → G i = -1) : ∀ (m : Nat) (x p : Int), p ≤ n → -1 ≤ x → p ≤ (v_tn G m x p).2 ∧ (v_tn G m x p).2 ≤ p + m ∧ (v_tn G m x p).2 ≤ n ∧ -1 ≤ (v_tn G m x p).1
  | 0, x, p, h, hx => by simp only [v_tn]; omega
  | m + 1, x, p, h, hx => by
    unfold v_tn
    split
    · rename_i c
      have hp : p < n := by
        rcases (show p < n ∨ n ≤ p by omega) with q | q
        · exact q
        · have := hg p q; omega
      have := v_tn_bd hg m ((if x = -1 then 0 else 10 * x) + G p - 48) (p + 1) (by omega) (by split <;> omega)
      omega
    · simp only; omega
theorem v_t3_bd (hg : ∀ i, n ≤ i → G i = -1) {p : Int} (h : p ≤ n) : p ≤ (v_t3 G p).2 ∧ (v_t3 G p).2 ≤ p + 3 ∧ (v_t3 G p).2 ≤ n ∧ -1 ≤ (v_t3 G p).1 := v_tn_bd hg 3 (-1) p h (by omega)
theorem v_tc_bd (hg : ∀ i, n ≤ i → G i = -1) {p : Int} (h : p ≤ n) : p ≤ (v_tc G p).2 ∧ (v_tc G p).2 ≤ n ∧ ((v_tc G p).1 = true → p + 3 ≤ (v_tc G p).2) := by
  have lt : ∀ {q : Int}, q ≤ n → ¬ G q = -1 → q < n := by
    intro q h1 h2
    rcases (show q < n ∨ n ≤ q by omega) with r | r
    · exact r
    · exact (h2 (hg q r)).elim
  have ge : ∀ q : Int, ¬ (v_t3 G q).1 = -1 → q + 1 ≤ (v_t3 G q).2 := by
    intro q hq
    simp only [v_t3, v_tn] at hq ⊢
    repeat' split
    all_goals simp_all
    all_goals omega
  unfold v_tc
  by_cases c : G p = 109
  · rw [if_pos c]
    have hp := lt h (by omega)
    have b := v_t3_bd hg (p := p + 1) (by omega)
    have g1 := ge (p + 1)
    by_cases c2 : (v_t3 G (p + 1)).1 ≤ 0 ∨ ¬ G (v_t3 G (p + 1)).2 = 44
    · rw [if_pos c2]; simp only; exact ⟨by omega, by omega, fun q => by cases q⟩
    · rw [if_neg c2]
      have c3 : ¬ (v_t3 G (p + 1)).1 ≤ 0 ∧ G (v_t3 G (p + 1)).2 = 44 := by
        refine ⟨fun q => c2 (Or.inl q), ?_⟩
        rcases Decidable.em (G (v_t3 G (p + 1)).2 = 44) with r | r
        · exact r
        · exact (c2 (Or.inr r)).elim
      have hq := lt (q := (v_t3 G (p + 1)).2) (by omega) (by omega)
      have b2 := v_t3_bd hg (p := (v_t3 G (p + 1)).2 + 1) (by omega)
      have g2 := ge ((v_t3 G (p + 1)).2 + 1)
      by_cases c4 : (v_t3 G ((v_t3 G (p + 1)).2 + 1)).1 = -1 ∨ ¬ G (v_t3 G ((v_t3 G (p + 1)).2 + 1)).2 = 59
      · rw [if_pos c4]; simp only; exact ⟨by omega, by omega, fun q => by cases q⟩
      · rw [if_neg c4]
        have c5 : G (v_t3 G ((v_t3 G (p + 1)).2 + 1)).2 = 59 := by
          rcases Decidable.em (G (v_t3 G ((v_t3 G (p + 1)).2 + 1)).2 = 59) with r | r
          · exact r
          · exact (c4 (Or.inr r)).elim
        have hq2 := lt (q := (v_t3 G ((v_t3 G (p + 1)).2 + 1)).2) (by omega) (by omega)
        simp only; exact ⟨by omega, by omega, fun _ => by omega⟩
  · rw [if_neg c]
    by_cases c1 : G p = 99 ∨ G p = 108
    · rw [if_pos c1]
      have hp := lt h (by omega)
      have b := v_t3_bd hg (p := p + 1) (by omega)
      have g1 := ge (p + 1)
      by_cases c2 : (v_t3 G (p + 1)).1 = -1 ∨ ¬ G (v_t3 G (p + 1)).2 = 59
      · rw [if_pos c2]; simp only; exact ⟨by omega, by omega, fun q => by cases q⟩
      · rw [if_neg c2]
        have c5 : G (v_t3 G (p + 1)).2 = 59 := by
          rcases Decidable.em (G (v_t3 G (p + 1)).2 = 59) with r | r
          · exact r
          · exact (c2 (Or.inr r)).elim
        have hq := lt (q := (v_t3 G (p + 1)).2) (by omega) (by omega)
        have g3 := g1 (fun q => c2 (Or.inl q))
        simp only; exact ⟨by omega, by omega, fun _ => by omega⟩
    · rw [if_neg c1]; simp only; exact ⟨by omega, by omega, fun q => by cases q⟩
theorem v_tr_bd (hg : ∀ i, n ≤ i → G i = -1) : ∀ (k : Nat) (p : Int), p ≤ n → p ≤ (v_tr G k p).2.1 ∧ (v_tr G k p).2.1 ≤ n ∧ 0 ≤ (v_tr G k p).2.2 ∧ (v_tr G k p).2.2 ≤ (v_tr G k p).2.1 - p := by
  intro k
  have lt : ∀ {q : Int}, q ≤ n → ¬ G q = -1 → q < n := by
    intro q h1 h2
    rcases (show q < n ∨ n ≤ q by omega) with r | r
    · exact r
    · exact (h2 (hg q r)).elim
  induction k with
  | zero =>
    intro p h
    unfold v_tr
    split
    · rename_i c
      have := lt h (by omega)
      simp only; omega
    · simp only; omega
  | succ k ih =>
    intro p h
    unfold v_tr
    split
    · rename_i c
      have := lt h (by omega)
      simp only; omega
    split
    · rename_i c
      have hp := lt h (by omega)
      have b := v_tc_bd hg (p := p + 1) (by omega)
      split
      · rename_i c1
        have b1 := ih (v_tc G (p + 1)).2 b.2.1
        have b4 := b.2.2 c1
        split
        · have b2 := ih (v_tr G k (v_tc G (p + 1)).2).2.1 b1.2.1
          simp only; omega
        · simp only; omega
      · simp only; omega
    · simp only; omega
end
/-! the reference's reader -/
def PM (I : Nat → Nat → Int) (a o m : Int) (H : Int → Int) : Prop := I 284 9 = a ∧ I 284 10 = o ∧ I 284 13 = m ∧ ∀ k : Int, 0 ≤ k → k < o → I 289 k.toNat = H k
def FE (I I' : Nat → Nat → Int) : Prop := ∀ a j, a ≠ 289 → ¬ (a = 284 ∧ 9 ≤ j ∧ j ≤ 13) → I' a j = I a j
theorem FE.rf {I : Nat → Nat → Int} : FE I I := fun _ _ _ _ => rfl
theorem FE.tr {I I1 I2 : Nat → Nat → Int} (h : FE I I1) (h2 : FE I1 I2) : FE I I2 := fun a j h3 h4 => (h2 a j h3 h4).trans (h a j h3 h4)
theorem FE.p4 {I I' : Nat → Nat → Int} (h : FE I I') {k : Nat} {x : Int} (hk : 9 ≤ k ∧ k ≤ 13) : FE I (am_u2 I' 284 k x) := fun a j h1 h2 => (am_u2_o (by omega)).trans (h a j h1 h2)
theorem FE.p9 {I I' : Nat → Nat → Int} (h : FE I I') {k : Nat} {x : Int} : FE I (am_u2 I' 289 k x) := fun a j h1 h2 => (am_u2_o (by omega)).trans (h a j h1 h2)
theorem FE.FM {I I' : Nat → Nat → Int} (h : FE I I') : FM I I' := fun a h1 => funext fun j => h a j (by omega) (by omega)
theorem MA.fe {I I' : Nat → Nat → Int} {W : Int → Int} {S : Int → Int → Int} {c : Int} {T : Int → Int} {n : Int} (h : MA I W S c T n) (hf : FE I I') : MA I' W S c T n := by
  obtain ⟨h1, h2, h3, h4, h5, h6⟩ := h
  exact ⟨fun i a b => (hf 285 _ (by omega) (by omega)).trans (h1 i a b), (hf 284 5 (by omega) (by omega)).trans h2, (hf 284 6 (by omega) (by omega)).trans h3, fun j i a b e f => (hf 286 _ (by omega) (by omega)).trans (h4 j i a b e f), fun k a b => (hf 288 _ (by omega) (by omega)).trans (h5 k a b), h6⟩
/-- a rule has ended with o questions open -/
def v_er : Nat → (Int → Int) → Int × Int × (Int → Int)
  | 0, H => (5, 0, H)
  | o + 1, H => if H o = 1 then v_er o (v_u H o 2) else (0, ((o + 1 : Nat) : Int), v_u H o (H o + 1))
theorem v_er_cg : ∀ (o : Nat) (H H' : Int → Int), (∀ k : Int, 0 ≤ k → k < o → H k = H' k) → (v_er o H).1 = (v_er o H').1 ∧ (v_er o H).2.1 = (v_er o H').2.1 ∧ (v_er o H).2.1 ≤ o ∧ ∀ k : Int, 0 ≤ k → k < (v_er o H).2.1 → (v_er o H).2.2 k = (v_er o H').2.2 k
  | 0, H, H', h => ⟨rfl, rfl, Int.le_refl _, fun k a b => absurd b (by simp [v_er]; omega)⟩
  | o + 1, H, H', h => by
    have e := h o (by omega) (by omega)
    unfold v_er
    rw [← e]
    by_cases c : H o = 1
    · rw [if_pos c, if_pos c]
      have := v_er_cg o (v_u H o 2) (v_u H' o 2) (fun k a b => by unfold v_u; rw [if_neg (by omega), if_neg (by omega)]; exact h k a (by omega))
      exact ⟨this.1, this.2.1, by omega, this.2.2.2⟩
    · rw [if_neg c, if_neg c]
      refine ⟨rfl, rfl, Int.le_refl _, fun k a b => ?_⟩
      simp only at b ⊢
      unfold v_u
      split
      · rfl
      · exact h k a b
section
variable {d : Nat} {K N : Nat → Nat} {I I1 : Nat → Nat → Int} {P : Nat → Nat → Option Nat} {z : Nat} {Q : am_V → am_T} {W : Int → Int} {S : Int → Int → Int} {c : Int} {T : Int → Int} {n : Int}
end
