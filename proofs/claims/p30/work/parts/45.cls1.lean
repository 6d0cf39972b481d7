/-! THE CLASS. A State at s, its parts and lanes behind it; π: which object stands at which place; L: the numbers of the parts on the belt -/
def SK (K N : Nat → Nat) (s : Nat) : Prop := K s = 6 ∧ K (s + 1) = 10 ∧ N (s + 1) = 6 ∧ K (s + 2) = 11 ∧ N (s + 2) = 6 ∧ K (s + 3) = 3 ∧ K (s + 4) = 10 ∧ N (s + 4) = 30 ∧ K (s + 5) = 10 ∧ N (s + 5) = 30 ∧ K (s + 6) = 12 ∧ N (s + 6) = 20 ∧ (∀ i, s + 7 ≤ i → i < s + 13 → K i = 0) ∧ (∀ i, s + 13 ≤ i → i < s + 33 → K i = 2)
def SP (P : Nat → Nat → Option Nat) (s : Nat) : Prop := P s 0 = some (s + 1) ∧ P s 1 = some (s + 2) ∧ P s 3 = some (s + 3) ∧ P s 5 = some (s + 6) ∧ P (s + 3) 0 = some (s + 4) ∧ P (s + 3) 1 = some (s + 5) ∧ (∀ i : Int, 0 ≤ i → i < 6 → P (s + 2) i.toNat = some (s + 7 + i.toNat))
def SI (P : Nat → Nat → Option Nat) (s : Nat) (π : Int → Nat) : Prop := (∀ j : Int, 0 ≤ j → j < 20 → P (s + 6) j.toNat = some (π j) ∧ s + 13 ≤ π j ∧ π j < s + 33) ∧ (∀ i j : Int, 0 ≤ i → i < 20 → 0 ≤ j → j < 20 → π i = π j → i = j) ∧ (∀ a, s + 13 ≤ a → a < s + 33 → ∃ i : Int, 0 ≤ i ∧ i < 20 ∧ π i = a)
/-- settings, lanes, routes, counters -/
def SC (I : Nat → Nat → Int) (s : Nat) (W : Int → Int) : Prop := (∀ k : Int, 0 ≤ k → k < 6 → I (s + 1) k.toNat = W (1 + k)) ∧ I s 2 = W 7 ∧ (∀ i k : Int, 0 ≤ i → i < 6 → 0 ≤ k → k < 5 → I (s + 7 + i.toNat) k.toNat = W (16 + 6 * k + i)) ∧ I (s + 3) 2 = W 8 ∧ (∀ k : Int, 0 ≤ k → k < 30 → I (s + 4) k.toNat = W (46 + k) ∧ I (s + 5) k.toNat = W (76 + k)) ∧ I s 7 = W 9 ∧ I s 8 = W 0 ∧ I s 9 = W 10
/-- the object b is the part p -/
def PC (I : Nat → Nat → Int) (b : Nat) (W : Int → Int) (p : Int) : Prop := I b 0 = p ∧ I b 1 = W (200 + p) ∧ I b 2 = W (500 + p) ∧ I b 3 = W (800 + p) ∧ I b 4 = W (1100 + p) ∧ I b 5 = W (1400 + p) ∧ I b 6 = W (1700 + p) ∧ I b 7 = W (2000 + p) ∧ I b 8 = W (2300 + p) ∧ I b 9 = W (2600 + p) ∧ I b 10 = W (2900 + p)
/-- L: the m parts on the belt, in order -/
def BL (W : Int → Int) (m : Int) (L : Int → Int) : Prop := 0 ≤ m ∧ (∀ j, 0 ≤ j → j < m → 0 ≤ L j ∧ L j < W 9 ∧ W (800 + L j) = 0) ∧ (∀ i j, 0 ≤ i → i < j → j < m → L i < L j) ∧ (∀ p, 0 ≤ p → p < W 9 → W (800 + p) = 0 → ∃ j, 0 ≤ j ∧ j < m ∧ L j = p)
def ST (K N : Nat → Nat) (I : Nat → Nat → Int) (P : Nat → Nat → Option Nat) (s : Nat) (W : Int → Int) (m : Int) (L : Int → Int) (π : Int → Nat) : Prop := SK K N s ∧ SP P s ∧ SI P s π ∧ SC I s W ∧ I s 6 = m ∧ BL W m L ∧ m ≤ 20 ∧ (∀ j, 0 ≤ j → j < m → PC I (π j) W (L j))
section
variable {K N : Nat → Nat} {I : Nat → Nat → Int} {P : Nat → Nat → Option Nat} {s : Nat} {W : Int → Int} {m : Int} {L : Int → Int} {π : Int → Nat}
theorem ST.k (h : ST K N I P s W m L π) : SK K N s := h.1
theorem ST.p (h : ST K N I P s W m L π) : SP P s := h.2.1
theorem ST.i (h : ST K N I P s W m L π) : SI P s π := h.2.2.1
theorem ST.c (h : ST K N I P s W m L π) : SC I s W := h.2.2.2.1
theorem ST.ob (h : ST K N I P s W m L π) : I s 6 = m := h.2.2.2.2.1
theorem ST.b (h : ST K N I P s W m L π) : BL W m L := h.2.2.2.2.2.1
theorem ST.m2 (h : ST K N I P s W m L π) : 0 ≤ m ∧ m ≤ 20 := ⟨h.2.2.2.2.2.1.1, h.2.2.2.2.2.2.1⟩
theorem ST.t (h : ST K N I P s W m L π) : ∀ j, 0 ≤ j → j < m → PC I (π j) W (L j) := h.2.2.2.2.2.2.2
theorem SI.pl (h : SI P s π) {j : Int} (h0 : 0 ≤ j) (h1 : j < 20) : P (s + 6) j.toNat = some (π j) := (h.1 j h0 h1).1
theorem SI.bd (h : SI P s π) {j : Int} (h0 : 0 ≤ j) (h1 : j < 20) : s + 13 ≤ π j ∧ π j < s + 33 := (h.1 j h0 h1).2
theorem ST.kp (h : ST K N I P s W m L π) {j : Int} (h0 : 0 ≤ j) (h1 : j < 20) : K (π j) = 2 := h.1.2.2.2.2.2.2.2.2.2.2.2.2.2 _ (h.i.bd h0 h1).1 (h.i.bd h0 h1).2
theorem SC.st (h : SC I s W) {k : Int} (h0 : 0 ≤ k) (h1 : k < 6) : I (s + 1) k.toNat = W (1 + k) := h.1 k h0 h1
theorem SC.st0 (h : SC I s W) : I (s + 1) 0 = W 1 := h.1 0 (by omega) (by omega)
theorem SC.st1 (h : SC I s W) : I (s + 1) 1 = W 2 := h.1 1 (by omega) (by omega)
theorem SC.st2 (h : SC I s W) : I (s + 1) 2 = W 3 := h.1 2 (by omega) (by omega)
theorem SC.st3 (h : SC I s W) : I (s + 1) 3 = W 4 := h.1 3 (by omega) (by omega)
theorem SC.st4 (h : SC I s W) : I (s + 1) 4 = W 5 := h.1 4 (by omega) (by omega)
theorem SC.st5 (h : SC I s W) : I (s + 1) 5 = W 6 := h.1 5 (by omega) (by omega)
theorem SC.ln (h : SC I s W) {i : Int} (h0 : 0 ≤ i) (h1 : i < 6) : I (s + 7 + i.toNat) 0 = W (16 + i) ∧ I (s + 7 + i.toNat) 1 = W (22 + i) ∧ I (s + 7 + i.toNat) 2 = W (28 + i) ∧ I (s + 7 + i.toNat) 3 = W (34 + i) ∧ I (s + 7 + i.toNat) 4 = W (40 + i) :=
  ⟨h.2.2.1 i 0 h0 h1 (by omega) (by omega), h.2.2.1 i 1 h0 h1 (by omega) (by omega), h.2.2.1 i 2 h0 h1 (by omega) (by omega), h.2.2.1 i 3 h0 h1 (by omega) (by omega), h.2.2.1 i 4 h0 h1 (by omega) (by omega)⟩
theorem BL.on (h : BL W m L) {j : Int} (h0 : 0 ≤ j) (h1 : j < m) : 0 ≤ L j ∧ L j < W 9 ∧ W (800 + L j) = 0 := h.2.1 j h0 h1
theorem BL.lt (h : BL W m L) {i j : Int} (h0 : 0 ≤ i) (h1 : i < j) (h2 : j < m) : L i < L j := h.2.2.1 i j h0 h1 h2
theorem BL.inj (h : BL W m L) {i j : Int} (h0 : 0 ≤ i) (h1 : i < m) (h2 : 0 ≤ j) (h3 : j < m) (e : L i = L j) : i = j := by
  rcases (show i < j ∨ i = j ∨ j < i by omega) with q | q | q
  · have := h.lt h0 q h3; omega
  · exact q
  · have := h.lt h2 q h1; omega
theorem BL.ex (h : BL W m L) {p : Int} (h0 : 0 ≤ p) (h1 : p < W 9) (h2 : W (800 + p) = 0) : ∃ j, 0 ≤ j ∧ j < m ∧ L j = p := h.2.2.2 p h0 h1 h2
/-- below n there are j parts on the belt -/
theorem BL.cnt (h : BL W m L) : ∀ (n : Nat) (j : Int), (n : Int) ≤ W 9 → 0 ≤ j → j ≤ m → (∀ i, 0 ≤ i → i < j → L i < n) → (∀ i, j ≤ i → i < m → (n : Int) ≤ L i) → v_cnt (v_on W) n = j
  | 0, j, hn, j0, j1, h1, h2 => by
    rcases (show j = 0 ∨ 0 < j by omega) with q | q
    · rw [q]; rfl
    · have := h1 0 (by omega) q
      have := (h.on (j := 0) (by omega) (by omega)).1
      omega
  | n + 1, j, hn, j0, j1, h1, h2 => by
    rw [v_cnt]
    by_cases q : W (800 + (n : Int)) = 0
    · obtain ⟨i, i0, i1, i2⟩ := h.ex (p := n) (by omega) (by omega) q
      have hij : i = j - 1 := by
        rcases (show j ≤ i ∨ i < j by omega) with r | r
        · have := h2 i r i1; omega
        · rcases (show i = j - 1 ∨ i < j - 1 by omega) with r2 | r2
          · exact r2
          · have := h.lt i0 (j := j - 1) r2 (by omega)
            have := h1 (j - 1) (by omega) (by omega)
            omega
      have e : v_on W (n : Int) = true := decide_eq_true q
      rw [e, if_pos rfl, h.cnt n (j - 1) (by omega) (by omega) (by omega) ?_ ?_]
      · omega
      · intro k k0 k1
        have := h.lt k0 (j := i) (by omega) i1
        omega
      · intro k k0 k1
        rcases (show k = i ∨ i < k by omega) with r | r
        · rw [r, i2]; exact Int.le_refl _
        · have := h.lt i0 r k1
          omega
    · have e : v_on W (n : Int) = false := decide_eq_false q
      rw [e, if_neg (by decide), h.cnt n j (by omega) j0 j1 ?_ ?_]
      · omega
      · intro k k0 k1
        have a := h1 k k0 k1
        rcases (show L k < n ∨ L k = n by omega) with r | r
        · exact r
        · have := (h.on k0 (by omega)).2.2
          rw [r] at this
          exact (q this).elim
      · intro k k0 k1
        have := h2 k k0 k1
        omega
theorem BL.ob (h : BL W m L) (h9 : 0 ≤ W 9) : v_ob W = m := by
  refine h.cnt (W 9).toNat m (by omega) h.1 (by omega) ?_ (fun i a b => absurd b (by omega))
  intro i a b
  have := h.on a b
  omega
/-- the last one before the part at place i -/
theorem BL.prev (h : BL W m L) : ∀ (n : Nat) (i : Int), (n : Int) ≤ W 9 → 0 ≤ i → i ≤ m → (∀ k, 0 ≤ k → k < i → L k < n) → (∀ k, i ≤ k → k < m → (n : Int) ≤ L k) → v_prev (v_on W) n = if i = 0 then -1 else L (i - 1)
  | 0, i, hn, i0, i1, h1, h2 => by
    rcases (show i = 0 ∨ 0 < i by omega) with q | q
    · rw [if_pos q]; rfl
    · have := h1 0 (by omega) q
      have := (h.on (j := 0) (by omega) (by omega)).1
      omega
  | n + 1, i, hn, i0, i1, h1, h2 => by
    rw [v_prev]
    by_cases q : W (800 + (n : Int)) = 0
    · obtain ⟨k, k0, k1, k2⟩ := h.ex (p := n) (by omega) (by omega) q
      have hk : k = i - 1 := by
        rcases (show i ≤ k ∨ k < i by omega) with r | r
        · have := h2 k r k1; omega
        · rcases (show k = i - 1 ∨ k < i - 1 by omega) with r2 | r2
          · exact r2
          · have := h.lt k0 (j := i - 1) r2 (by omega)
            have := h1 (i - 1) (by omega) (by omega)
            omega
      rw [if_pos (decide_eq_true q), if_neg (by omega), ← hk, k2]
    · rw [if_neg (by simpa using q)]
      refine h.prev n i (by omega) i0 i1 ?_ (fun k a b => by have := h2 k a b; omega)
      intro k k0 k1
      have a := h1 k k0 k1
      rcases (show L k < n ∨ L k = n by omega) with r | r
      · exact r
      · have := (h.on k0 (by omega)).2.2
        rw [r] at this
        exact (q this).elim
theorem BL.ah (h : BL W m L) {i : Int} (i0 : 0 ≤ i) (i1 : i < m) : v_ah W (L i).toNat = if i = 0 then -1 else L (i - 1) := by
  have a := h.on i0 i1
  refine h.prev (L i).toNat i (by omega) i0 (by omega) ?_ ?_
  · intro k k0 k1
    have := h.lt k0 k1 i1
    omega
  · intro k k0 k1
    rcases (show k = i ∨ i < k by omega) with r | r
    · rw [r]; omega
    · have := h.lt i0 r k1; omega
theorem BL.la (h : BL W m L) (h9 : 0 ≤ W 9) : v_la W = if m = 0 then -1 else L (m - 1) := by
  refine h.prev (W 9).toNat m (by omega) h.1 (by omega) ?_ (fun i a b => absurd b (by omega))
  intro i a b
  have := h.on a b
  omega
theorem v_next_eq {f : Int → Bool} : ∀ (m : Nat) (q r : Int), q ≤ r → r ≤ q + m → (∀ p, q ≤ p → p < r → f p = false) → (r < q + m → f r = true) → v_next f m q = r
  | 0, q, r, h1, h2, h3, h4 => by simp only [v_next]; omega
  | m + 1, q, r, h1, h2, h3, h4 => by
    unfold v_next
    by_cases e : q = r
    · subst e; rw [if_pos (h4 (by omega))]
    · rw [if_neg (by rw [h3 q (by omega) (by omega)]; decide)]
      exact v_next_eq m (q + 1) r (by omega) (by omega) (fun p a b => h3 p (by omega) b) (fun a => h4 (by omega))
theorem BL.be (h : BL W m L) {i : Int} (i0 : 0 ≤ i) (i1 : i < m) : v_be W (L i) = if i + 1 = m then W 9 else L (i + 1) := by
  have a := h.on i0 i1
  have off : ∀ p, L i < p → p < W 9 → (i + 1 < m → p < L (i + 1)) → v_on W p = false := by
    intro p p0 p1 p2
    refine decide_eq_false (fun q => ?_)
    obtain ⟨k, k0, k1, k2⟩ := h.ex (by omega) p1 q
    rcases (show k ≤ i ∨ k = i + 1 ∨ i + 1 < k by omega) with r | r | r
    · rcases (show k = i ∨ k < i by omega) with r2 | r2
      · subst r2; omega
      · have := h.lt k0 r2 i1; omega
    · subst r; have := p2 k1; omega
    · have := h.lt (by omega) r k1
      have := p2 (by omega)
      omega
  refine v_next_eq _ _ _ ?_ ?_ ?_ ?_
  · split
    · omega
    · have := h.lt i0 (show i < i + 1 by omega) (by omega); omega
  · split
    · omega
    · have := h.on (j := i + 1) (by omega) (by omega); omega
  · intro p p0 p1
    split at p1
    · exact off p (by omega) p1 (fun q => by omega)
    · have := h.on (j := i + 1) (by omega) (by omega)
      exact off p (by omega) (by omega) (fun q => p1)
  · intro q
    split
    · rename_i r; rw [if_pos r] at q; omega
    · exact decide_eq_true (h.on (j := i + 1) (by omega) (by omega)).2.2
end
