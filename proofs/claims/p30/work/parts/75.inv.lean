/-! WHAT THE STATE KEEPS: no part has the fate 7 or 8; each lane's number of diverted parts is the number of parts with its fate. -/
theorem c_cg {f g : Int → Bool} : ∀ n : Nat, (∀ p : Int, 0 ≤ p → p < n → f p = g p) → v_cnt f n = v_cnt g n
  | 0, _ => rfl
  | n + 1, h => by
    rw [v_cnt, v_cnt, c_cg n (fun p a b => h p a (by omega)), h n (by omega) (by omega)]
theorem c_one {f g : Int → Bool} {q : Int} : ∀ n : Nat, 0 ≤ q → q < n → f q = false → g q = true → (∀ p : Int, 0 ≤ p → p < n → ¬ p = q → f p = g p) → v_cnt g n = v_cnt f n + 1
  | 0, h0, h1, _, _, _ => by omega
  | n + 1, h0, h1, hf, hg, h => by
    rw [v_cnt, v_cnt]
    by_cases e : q = (n : Int)
    · subst e
      rw [c_cg n (fun p a b => h p a (by omega) (by omega)), hf, hg]
      simp
    · rw [c_one n h0 (by omega) hf hg (fun p a b c => h p a (by omega) c), h n (by omega) (by omega) (fun q => e q.symm)]
      omega
def NI (W : Int → Int) : Prop := (∀ p, 0 ≤ p → p < W 9 → ¬ W (800 + p) = 7 ∧ ¬ W (800 + p) = 8) ∧ ∀ l, 0 ≤ l → l < 6 → v_fts W (10 + l) (10 + l) = W (40 + l)
section
variable {W W' : Int → Int}
theorem fts_cg {a b : Int} (h9 : W' 9 = W 9) (h : ∀ p, 0 ≤ p → p < W 9 → (a ≤ W' (800 + p) ∧ W' (800 + p) ≤ b ↔ a ≤ W (800 + p) ∧ W (800 + p) ≤ b)) : v_fts W' a b = v_fts W a b := by
  show v_cnt _ (W' 9).toNat = v_cnt _ (W 9).toNat
  rw [h9]
  refine c_cg _ (fun p p0 p1 => ?_)
  simp only [decide_eq_decide]
  exact h p p0 (by omega)
theorem NI.fate (h : NI W) (h9 : W' 9 = W 9) (h8 : ∀ p, 0 ≤ p → p < W 9 → W' (800 + p) = W (800 + p) ∨ (W (800 + p) = 0 ∧ ((1 ≤ W' (800 + p) ∧ W' (800 + p) ≤ 6) ∨ W' (800 + p) = 9))) (h4 : ∀ l, 0 ≤ l → l < 6 → W' (40 + l) = W (40 + l)) : NI W' := by
  refine ⟨fun p p0 p1 => ?_, fun l l0 l1 => ?_⟩
  · rw [h9] at p1
    have a := h.1 p p0 p1
    rcases h8 p p0 p1 with e | ⟨e, q⟩
    · rw [e]; exact a
    · omega
  · rw [h4 l l0 l1, ← h.2 l l0 l1]
    refine fts_cg h9 (fun p p0 p1 => ?_)
    rcases h8 p p0 p1 with e | ⟨e, q⟩
    · rw [e]
    · omega
theorem NI.cg (h : NI W) (h9 : W' 9 = W 9) (h8 : ∀ p, 0 ≤ p → p < W 9 → W' (800 + p) = W (800 + p)) (h4 : ∀ l, 0 ≤ l → l < 6 → W' (40 + l) = W (40 + l)) : NI W' := h.fate h9 (fun p a b => Or.inl (h8 p a b)) h4
theorem fts_bd {a b : Int} (h9 : 0 ≤ W 9) : 0 ≤ v_fts W a b ∧ v_fts W a b ≤ W 9 := by
  have := v_cnt_bd (fun p => decide (a ≤ W (800 + p) ∧ W (800 + p) ≤ b)) (W 9).toNat
  show 0 ≤ v_cnt _ _ ∧ v_cnt _ _ ≤ _
  omega
theorem NI.div (h : NI W) {q k : Int} (k0 : 0 ≤ k) (k1 : k < 6) (q0 : 0 ≤ q) (q1 : q < W 9) (e0 : W (800 + q) = 0) (h9 : W' 9 = W 9) (e1 : W' (800 + q) = 10 + k) (h8 : ∀ p, 0 ≤ p → p < W 9 → ¬ p = q → W' (800 + p) = W (800 + p)) (h4 : ∀ l, 0 ≤ l → l < 6 → W' (40 + l) = if l = k then W (40 + l) + 1 else W (40 + l)) : NI W' := by
  refine ⟨fun p p0 p1 => ?_, fun l l0 l1 => ?_⟩
  · rw [h9] at p1
    have a := h.1 p p0 p1
    by_cases e : p = q
    · rw [e]; omega
    · rw [h8 p p0 p1 e]; exact a
  · rw [h4 l l0 l1, ← h.2 l l0 l1]
    by_cases e : l = k
    · rw [if_pos e]
      subst e
      show v_cnt _ (W' 9).toNat = v_cnt _ (W 9).toNat + 1
      rw [h9]
      refine c_one (q := q) _ q0 (by omega) ?_ ?_ (fun p p0 p1 p2 => ?_)
      · simp only [decide_eq_false_iff_not]; omega
      · simp only [decide_eq_true_eq]; omega
      · simp only [h8 p p0 (by omega) p2]
    · rw [if_neg e]
      refine fts_cg h9 (fun p p0 p1 => ?_)
      by_cases e2 : p = q
      · rw [e2]; omega
      · rw [h8 p p0 p1 e2]
theorem NI.att (h : NI W) (hG : v_G W) {p l : Int} (h0 : 0 ≤ p) (h1 : p < W 9) (e0 : W (800 + p) = 0) (l0 : 0 ≤ l) (l1 : l < 6) : NI (v_att W p l) := by
  have g9 := hG.n9
  unfold v_att
  split
  · have b := fts_bd (W := W) (a := 10 + l) (b := 10 + l) g9.1
    rw [h.2 l l0 l1] at b
    rw [am_wE (by omega) (by omega)]
    refine h.div l0 l1 h0 h1 e0 ?_ ?_ (fun q q0 q1 q2 => ?_) (fun k k0 k1 => ?_)
    · rw [v_un (by omega), v_un (by omega), v_un (by omega)]
    · rw [v_un (by omega), v_un (by omega), v_us]
    · rw [v_un (by omega), v_un (by omega), v_un (by omega)]
    · by_cases e : k = l
      · rw [if_pos e, e, v_us]
      · rw [if_neg e, v_un (by omega), v_un (by omega), v_un (by omega)]
  · exact h.cg (v_un (by omega)) (fun q q0 q1 => v_un (by omega)) (fun k k0 k1 => v_un (by omega))
theorem NI.try (h : NI W) (hG : v_G W) {p : Int} (h0 : 0 ≤ p) (h1 : p < W 9) : NI (v_try W p) := by
  have b := hG.lo (p := p)
  have g7 := hG.l7
  unfold v_try
  split
  · rename_i c
    exact h.att hG h0 h1 c.1 (by omega) (by omega)
  · exact h
theorem NI.s2 (h : NI W) (hG : v_G W) : ∀ n : Nat, (n : Int) ≤ W 9 → NI (v_s2 W n)
  | 0, _ => h
  | n + 1, hn => by
    obtain ⟨h1, h2⟩ := v_s2_G hG n (by omega)
    exact (NI.s2 h hG n (by omega)).try h1 (by omega) (by rw [h2.n9]; omega)
theorem NI.s1 (h : NI W) {k n : Int} (hn : n ≤ 300) : NI (v_s1 W k n) := by
  refine h.cg ?_ (fun p p0 p1 => v_s1_8 p0 hn) (fun l l0 l1 => ?_)
  · unfold v_s1
    rw [if_neg (by omega), if_neg (by omega)]
  · unfold v_s1
    rw [if_neg (by omega), if_neg (by omega)]
theorem NI.s3 (h : NI W) (hG : v_G W) {n : Int} (hn : n ≤ 300) : NI (v_s3 W n) := by
  refine h.fate (v_s3_o hn (by omega)) (fun p p0 p1 => ?_) (fun l l0 l1 => v_s3_o hn (by omega))
  have r := v_reason_bd hG p0 p1
  rw [v_s3_8 p0]
  split
  · rename_i c
    exact Or.inr ⟨c.2.1, Or.inl r⟩
  · exact Or.inl rfl
theorem NI.go (h : NI W) (hG : v_G W) (hF : v_F W) : NI (v_go W) := by
  have g9 := hG.n9
  have a1 := v_s1_G hG (k := 1) (by omega) (fun p p0 p1 p2 => by have := hF p p0 p1 p2; omega)
  have e9 : (v_s1 W 1 (W 9)) 9 = W 9 := by
    unfold v_s1
    rw [if_neg (by omega), if_neg (by omega)]
  have a2 := (v_s2_G a1 (W 9).toNat (by rw [e9]; omega)).1
  exact ((h.s1 (by omega)).s2 a1 (W 9).toNat (by rw [e9]; omega)).s3 a2 (by omega)
theorem NI.it (h : NI W) (hG : v_G W) (hF : v_F W) : ∀ k : Nat, NI (v_it k W)
  | 0 => h
  | k + 1 => by
    obtain ⟨g1, g2, -, -⟩ := v_it_G hG hF k
    exact (NI.it h hG hF k).go g1 g2
theorem NI.new (h : NI W) (h0 : 0 ≤ W 9) (h1 : W 9 ≤ 299) {x : Int} : NI (v_new W x) := by
  have e9 : (v_new W x) 9 = W 9 + 1 := by unfold v_new; rw [if_pos rfl]
  have e8 : ∀ p, 0 ≤ p → p < W 9 → (v_new W x) (800 + p) = W (800 + p) := fun p p0 p1 => by
    unfold v_new
    rw [if_neg (by omega), if_neg (by omega), if_neg (by omega), if_neg (by omega)]
  have e80 : (v_new W x) (800 + W 9) = 0 := by
    unfold v_new
    rw [if_neg (by omega), if_neg (by omega), if_neg (by omega), if_pos (by omega)]
  have e4 : ∀ l, 0 ≤ l → l < 6 → (v_new W x) (40 + l) = W (40 + l) := fun l l0 l1 => by
    unfold v_new
    rw [if_neg (by omega), if_neg (by omega), if_neg (by omega), if_neg (by omega)]
  refine ⟨fun p p0 p1 => ?_, fun l l0 l1 => ?_⟩
  · rw [e9] at p1
    by_cases e : p = W 9
    · rw [e, e80]; omega
    · rw [e8 p p0 (by omega)]; exact h.1 p p0 (by omega)
  · rw [e4 l l0 l1, ← h.2 l l0 l1]
    show v_cnt _ ((v_new W x) 9).toNat = v_cnt _ (W 9).toNat
    rw [e9, show (W 9 + 1).toNat = (W 9).toNat + 1 by omega, v_cnt, show (((W 9).toNat : Nat) : Int) = W 9 by omega]
    rw [if_neg (by simp only [decide_eq_true_eq]; rw [e80]; omega), Int.add_zero]
    refine c_cg _ (fun p p0 p1 => ?_)
    simp only [e8 p p0 (by omega)]
theorem NI.ent (h : NI W) (hG : v_G W) (h1 : W 9 ≤ 299) {x : Int} : NI (v_ent W x) := by
  have g9 := hG.n9
  have b : -1 ≤ v_la W ∧ v_la W < ((W 9).toNat : Int) := v_prev_bd (v_on W) (W 9).toNat
  have hn := h.new g9.1 h1 (x := x)
  have e9 : (v_new W x) 9 = W 9 + 1 := by unfold v_new; rw [if_pos rfl]
  unfold v_ent
  split
  · rename_i c
    refine (hn.cg (W' := v_u (v_new W x) (1700 + W 9) 1) (v_un (by omega)) (fun q q0 q1 => v_un (by omega)) (fun k k0 k1 => v_un (by omega))).cg (v_un (by omega)) (fun q q0 q1 => v_un ?_) (fun k k0 k1 => v_un (by omega))
    rw [v_un (by omega), e9] at q1
    omega
  · exact hn
theorem NI.rf (h : NI W) {p c : Int} (h0 : 0 ≤ p) (hn : W 9 ≤ 300) (hp : p < W 9) : NI (v_readFor W p c) := by
  have k : ∀ {V : Int → Int} {i x : Int}, NI V → V 9 = W 9 → 1100 ≤ i → NI (v_u V i x) ∧ (v_u V i x) 9 = W 9 := fun {V i x} hV h9 hi => ⟨hV.cg (v_un (by omega)) (fun q q0 q1 => v_un (by omega)) (fun k k0 k1 => v_un (by omega)), (v_un (by omega)).trans h9⟩
  unfold v_readFor
  split
  · have a := k h rfl (i := 1100 + p) (x := c) (by omega)
    exact (k a.1 a.2 (by omega)).1
  split
  · split
    · have a := k h rfl (i := 2000 + p) (x := am_wr (W (2000 + p) + 1)) (by omega)
      exact (k a.1 a.2 (by omega)).1
    · exact (k h rfl (by omega)).1
  · have a := k h rfl (i := 1400 + p) (x := 1) (by omega)
    exact (k a.1 a.2 (by omega)).1
theorem NI.rt (h : NI W) (hG : v_G W) {j x l : Int} (j0 : 0 ≤ j) (j1 : j ≤ W 8) (h8 : ¬ W 8 = 30) : NI (v_rt W j x l) := by
  have g8 := hG.r8
  have g9 := hG.n9
  have e : ∀ i, ¬ (8 ≤ i ∧ i ≤ 8) → ¬ (46 ≤ i ∧ i < 106) → (v_rt W j x l) i = W i := fun i h1 h2 => by
    unfold v_rt
    rw [v_un (by omega), v_un (by omega), v_un (by omega)]
    unfold v_ins
    rw [if_neg (by omega)]
  exact h.cg (e 9 (by omega) (by omega)) (fun p p0 p1 => e _ (by omega) (by omega)) (fun k k0 k1 => e _ (by omega) (by omega))
theorem NI.del (h : NI W) (hG : v_G W) {k j : Int} (k0 : 0 ≤ k) (j1 : j < W 8) : NI (v_del W k j) := by
  have g8 := hG.r8
  have g9 := hG.n9
  have e : ∀ i, ¬ (8 ≤ i ∧ i ≤ 8) → ¬ (46 ≤ i ∧ i < 106) → (v_del W k j) i = W i := fun i h1 h2 => by
    unfold v_del
    rw [if_neg (by omega), if_neg (by omega)]
  exact h.cg (e 9 (by omega) (by omega)) (fun p p0 p1 => e _ (by omega) (by omega)) (fun k k0 k1 => e _ (by omega) (by omega))
theorem own_bd (h9 : 0 ≤ W 9) (h : ¬ v_own W = -1) : 0 ≤ v_own W ∧ v_own W < W 9 := by
  have a := v_cs_bd W (W 9).toNat
  have b := v_as_bd W (W 9).toNat
  have h : ¬ (if ¬ v_cs W (W 9).toNat = -1 ∧ (W (1100 + v_cs W (W 9).toNat) = -1 ∨ v_as W (W 9).toNat = -1) then v_cs W (W 9).toNat else v_as W (W 9).toNat) = -1 := h
  show 0 ≤ (if ¬ v_cs W (W 9).toNat = -1 ∧ (W (1100 + v_cs W (W 9).toNat) = -1 ∨ v_as W (W 9).toNat = -1) then v_cs W (W 9).toNat else v_as W (W 9).toNat) ∧ (if ¬ v_cs W (W 9).toNat = -1 ∧ (W (1100 + v_cs W (W 9).toNat) = -1 ∨ v_as W (W 9).toNat = -1) then v_cs W (W 9).toNat else v_as W (W 9).toNat) < W 9
  split at h
  · rename_i c
    rw [if_pos c]; omega
  · rename_i c
    rw [if_neg c]; omega
end
/-- the state now and all saved ones -/
def RI (W : Int → Int) (S : Int → Int → Int) (c : Int) : Prop := NI W ∧ ∀ j, 0 ≤ j → j < c → NI (S j)
theorem RI.sv {W W' : Int → Int} {S : Int → Int → Int} {c : Int} (h : RI W S c) (hc : 0 ≤ c ∧ c ≤ 6) (hW : NI W') : RI W' (v_svS S c W) (v_svc c) := by
  refine ⟨hW, fun j j0 j1 => ?_⟩
  unfold v_svS
  unfold v_svc at j1
  by_cases e : c = 6
  · rw [if_pos e] at j1
    simp only [if_pos e]
    by_cases e2 : j = 5
    · rw [if_pos e2]; exact h.1
    · rw [if_neg e2]; exact h.2 _ (by omega) (by omega)
  · rw [if_neg e] at j1
    simp only [if_neg e]
    by_cases e2 : j = c
    · rw [if_pos e2]; exact h.1
    · rw [if_neg e2]; exact h.2 _ j0 (by omega)
