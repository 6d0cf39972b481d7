/-! THE CLASS'S WHOLE HEAP -/
def sN (s : Nat) : Prop := 20 ≤ s ∧ s ≤ 251 ∧ (s - 20) % 33 = 0
def rN (r : Nat) : Prop := r = 10 ∨ r = 15
def v_col (c : Int) : Prop := c = 200 ∨ c = 500 ∨ c = 800 ∨ c = 1100 ∨ c = 1400 ∨ c = 1700 ∨ c = 2000 ∨ c = 2300 ∨ c = 2600
/-- the parts that had left in V are as they were in V' -/
def Sub (V V' : Int → Int) : Prop := ∀ p, 0 ≤ p → p < V 9 → ¬ V (800 + p) = 0 → p < V' 9 ∧ ∀ c, v_col c → V' (c + p) = V (c + p)
/-- the records of the parts that have left in V -/
def RC (I : Nat → Nat → Int) (V : Int → Int) : Prop := ∀ p k, 0 ≤ p → p < V 9 → ¬ V (800 + p) = 0 → 0 ≤ k → k < 10 → I 7 (10 * p + k).toNat = v_pp V p k
def VG (V : Int → Int) : Prop := v_G V ∧ v_F V ∧ V 0 ≤ 50000
def SD (K N : Nat → Nat) (I : Nat → Nat → Int) (P : Nat → Nat → Option Nat) (s : Nat) (V : Int → Int) : Prop := ∃ m L π, ST K N I P s V m L π ∧ RR K N I P s V
def SX (K N : Nat → Nat) (I : Nat → Nat → Int) (P : Nat → Nat → Option Nat) (z s dr : Nat) : Prop := SK K N s ∧ SP P s ∧ SBo I s ∧ (∃ π, SI P s π) ∧ ∃ r, P s 4 = some r ∧ rN r ∧ ¬ r = dr ∧ r + 4 < z + 4
def GA (K N : Nat → Nat) (P : Nat → Nat → Option Nat) (z : Nat) (σ : Int → Nat) (dr : Nat) : Prop := (K 4 = 7 ∧ P 4 0 = some 20 ∧ P 4 1 = some 53 ∧ P 4 2 = some 5 ∧ P 4 4 = some 6 ∧ P 4 5 = some 8 ∧ P 4 6 = some dr) ∧ (K 5 = 13 ∧ N 5 = 6 ∧ K 6 = 1 ∧ P 6 0 = some 7 ∧ K 7 = 10 ∧ N 7 = 3000 ∧ K 8 = 5 ∧ P 8 0 = some 9 ∧ K 9 = 9 ∧ N 9 = 80) ∧ (∀ j : Int, 0 ≤ j → j < 6 → P 5 j.toNat = some (σ j) ∧ sN (σ j) ∧ 86 ≤ σ j) ∧ (∀ i j : Int, 0 ≤ i → i < 6 → 0 ≤ j → j < 6 → σ i = σ j → i = j) ∧ (RO K N P dr ∧ rN dr ∧ dr + 4 < z + 4) ∧ (560 ≤ z ∧ (z - 560) % 5 = 0)
def GB (K N : Nat → Nat) (I : Nat → Nat → Int) (P : Nat → Nat → Option Nat) (z dr : Nat) : Prop := ∀ s, sN s → SX K N I P z s dr
def GC (I : Nat → Nat → Int) (c : Int) (T : Int → Int) (n : Int) : Prop := I 4 3 = c ∧ (0 ≤ c ∧ c ≤ 6) ∧ I 8 1 = n ∧ (0 ≤ n ∧ n ≤ 80) ∧ (∀ k : Int, 0 ≤ k → k < n → I 9 k.toNat = T k ∧ 32 ≤ T k ∧ T k ≤ 126)
def GD (K N : Nat → Nat) (I : Nat → Nat → Int) (P : Nat → Nat → Option Nat) (σ : Int → Nat) (W : Int → Int) (S : Int → Int → Int) (c : Int) : Prop := (SD K N I P 20 W ∧ VG W ∧ RC I W) ∧ (∀ j, 0 ≤ j → j < c → SD K N I P (σ j) (S j) ∧ VG (S j) ∧ RC I (S j) ∧ Sub (S j) W) ∧ (∀ i j, 0 ≤ i → i < j → j < c → Sub (S i) (S j))
def GI (K N : Nat → Nat) (I : Nat → Nat → Int) (P : Nat → Nat → Option Nat) (z : Nat) (W : Int → Int) (S : Int → Int → Int) (c : Int) (T : Int → Int) (n : Int) : Prop := ∃ σ dr, GA K N P z σ dr ∧ GB K N I P z dr ∧ GC I c T n ∧ GD K N I P σ W S c
/-- what is the reference's, and the law's row -/
def GF (I I' : Nat → Nat → Int) : Prop := ∀ a, a < 4 ∨ 284 ≤ a → I' a = I a
def GP (P P' : Nat → Nat → Option Nat) : Prop := ∀ a, 284 ≤ a → 0 ≤ a → P' a = P a
theorem GF.rf {I : Nat → Nat → Int} : GF I I := fun _ _ => rfl
theorem GP.rf {P : Nat → Nat → Option Nat} : GP P P := fun _ _ _ => rfl
theorem GF.tr {I I1 I2 : Nat → Nat → Int} (h : GF I I1) (h2 : GF I1 I2) : GF I I2 := fun a x => (h2 a x).trans (h a x)
theorem GP.tr {P P1 P2 : Nat → Nat → Option Nat} (h : GP P P1) (h2 : GP P1 P2) : GP P P2 := fun a x y => (h2 a x y).trans (h a x y)
theorem Sub.rf {V : Int → Int} : Sub V V := fun p a b c => ⟨b, fun _ _ => rfl⟩
theorem Sub.tr {V V1 V2 : Int → Int} (h : Sub V V1) (h2 : Sub V1 V2) : Sub V V2 := by
  intro p a b c
  obtain ⟨h3, h4⟩ := h p a b c
  have e8 := h4 800 (by unfold v_col; omega)
  obtain ⟨h5, h6⟩ := h2 p a h3 (by rw [e8]; exact c)
  exact ⟨h5, fun k hk => (h6 k hk).trans (h4 k hk)⟩
theorem v_pp_sub {V V' : Int → Int} {p k : Int} (h : ∀ c, v_col c → V' (c + p) = V (c + p)) (h8 : ¬ V (800 + p) = 0) : v_pp V' p k = v_pp V p k := by
  unfold v_pp
  rw [h 200 (by unfold v_col; omega), h 500 (by unfold v_col; omega), h 800 (by unfold v_col; omega), h 1100 (by unfold v_col; omega), h 1400 (by unfold v_col; omega), h 1700 (by unfold v_col; omega), h 2000 (by unfold v_col; omega), h 2300 (by unfold v_col; omega), h 2600 (by unfold v_col; omega), if_neg h8, if_neg h8]
theorem RC.sub {I : Nat → Nat → Int} {V V' : Int → Int} (h : RC I V') (hs : Sub V V') : RC I V := by
  intro p k a b c e f
  obtain ⟨h3, h4⟩ := hs p a b c
  have e8 := h4 800 (by unfold v_col; omega)
  rw [h p k a h3 (by rw [e8]; exact c) e f]
  exact v_pp_sub h4 c
section
variable {d : Nat} {K N : Nat → Nat} {I I' : Nat → Nat → Int} {P P' : Nat → Nat → Option Nat} {z : Nat} {Q : am_V → am_T} {W W' V : Int → Int} {S : Int → Int → Int} {c : Int} {T : Int → Int} {n : Int} {s s2 dr : Nat} {m m0 : Int} {L : Int → Int} {π : Int → Nat} {σ : Int → Nat}
theorem sN.ne {a b : Nat} (h : sN a) (h2 : sN b) (e : ¬ a = b) : a + 33 ≤ b ∨ b + 33 ≤ a := by unfold sN at h h2; omega
theorem sN.b {a : Nat} (h : sN a) : 20 ≤ a ∧ a + 33 ≤ 284 := by unfold sN at h; omega
theorem sN.now : sN 20 := by unfold sN; omega
theorem sN.tri : sN 53 := by unfold sN; omega
theorem SP.tr (h : SP P s) (hP : ∀ a k, s ≤ a → a < s + 4 → ¬ (a = s ∧ k = 4) → P' a k = P a k) : SP P' s := by
  obtain ⟨t0, t1, t2, t3, t4, t5, t6⟩ := h
  exact ⟨by rw [hP _ _ (by omega) (by omega) (by omega)]; exact t0, by rw [hP _ _ (by omega) (by omega) (by omega)]; exact t1, by rw [hP _ _ (by omega) (by omega) (by omega)]; exact t2, by rw [hP _ _ (by omega) (by omega) (by omega)]; exact t3, by rw [hP _ _ (by omega) (by omega) (by omega)]; exact t4, by rw [hP _ _ (by omega) (by omega) (by omega)]; exact t5, fun i a b => by rw [hP _ _ (by omega) (by omega) (by omega)]; exact t6 i a b⟩
theorem SI.tr (h : SI P s π) (hP : P' (s + 6) = P (s + 6)) : SI P' s π := ⟨fun j a b => by rw [hP]; exact h.1 j a b, h.2⟩
theorem ST.tr (hS : ST K N I P s W m L π) (hI : ∀ a, s ≤ a → a < s + 33 → I' a = I a) (hP : ∀ a k, s ≤ a → a < s + 33 → ¬ (a = s ∧ k = 4) → P' a k = P a k) : ST K N I' P' s W m L π := by
  have h1 := hS.fr (I' := I') (fun a k x y _ _ => by rw [hI a x y])
  exact ⟨h1.k, h1.p.tr (fun a k x y e => hP a k x (by omega) e), h1.i.tr (funext fun k => hP _ k (by omega) (by omega) (by omega)), h1.c, h1.ob, h1.b, h1.m2.2, h1.t⟩
theorem SD.tr (h : SD K N I P s V) (hs : 20 ≤ s ∧ s + 33 ≤ 284) (hI : ∀ a, s ≤ a → a < s + 33 → I' a = I a) (hP : ∀ a, s ≤ a → a < s + 33 → P' a = P a) (hr : ∀ a, (10 ≤ a ∧ a < 20) ∨ 564 ≤ a → I' a = I a ∧ P' a = P a) : SD K N I' P' s V := by
  obtain ⟨m, L, π, h1, h2⟩ := h
  exact ⟨m, L, π, h1.tr hI (fun a k x y _ => by rw [hP a x y]), h2.fr hr (by rw [hP s (by omega) (by omega)]) (fun _ _ _ => rfl)⟩
theorem SX.tr (h : SX K N I P z s dr) (hI : ∀ a, s ≤ a → a < s + 33 → I' a = I a) (hP : ∀ a, s ≤ a → a < s + 33 → P' a = P a) : SX K N I' P' z s dr := by
  obtain ⟨h1, h2, h3, ⟨π, h4⟩, r, h5, h6⟩ := h
  exact ⟨h1, h2.tr (fun a k x y _ => by rw [hP a x (by omega)]), fun a x y => by rw [hI a (by omega) y]; exact h3 a x y, ⟨π, h4.tr (hP _ (by omega) (by omega))⟩, r, by rw [hP s (by omega) (by omega)]; exact h5, h6⟩
theorem GB.one (h : GB K N I P z dr) (hs : sN s) (hI : ∀ a, 20 ≤ a → a < 284 → ¬ (s ≤ a ∧ a < s + 33) → I' a = I a ∧ P' a = P a) (hx : SX K N I' P' z s dr) : GB K N I' P' z dr := by
  intro t ht
  by_cases e : t = s
  · rw [e]; exact hx
  · have b := ht.b
    have ne := ht.ne hs e
    exact (h t ht).tr (fun a x y => (hI a (by omega) (by omega) (by omega)).1) (fun a x y => (hI a (by omega) (by omega) (by omega)).2)
theorem GA.p (h : GA K N P z σ dr) (hP : ∀ a, (4 ≤ a ∧ a < 20) ∨ 564 ≤ a → P' a = P a) : GA K N P' z σ dr := by
  obtain ⟨⟨a0, a1, a2, a3, a4, a5, a6⟩, ⟨b0, b1, b2, b3, b4, b5, b6, b7, b8, b9⟩, h3, h4, ⟨h5, h6, h7⟩, h8⟩ := h
  have e4 := hP 4 (by omega)
  refine ⟨⟨a0, by rw [e4]; exact a1, by rw [e4]; exact a2, by rw [e4]; exact a3, by rw [e4]; exact a4, by rw [e4]; exact a5, by rw [e4]; exact a6⟩, ⟨b0, b1, b2, by rw [hP 6 (by omega)]; exact b3, b4, b5, b6, by rw [hP 8 (by omega)]; exact b7, b8, b9⟩, fun j x y => by rw [hP 5 (by omega)]; exact h3 j x y, h4, ⟨?_, h6, h7⟩, h8⟩
  unfold RO at h5 ⊢
  rw [hP dr (by unfold rN at h6; omega)]
  exact h5
theorem GC.i (h : GC I c T n) (h4 : I' 4 = I 4) (h8 : I' 8 = I 8) (h9 : I' 9 = I 9) : GC I' c T n := by
  unfold GC at h ⊢
  rw [h4, h8, h9]; exact h
/-- the State now has changed, and records of parts that were on the belt -/
theorem GI.now (h : GI K N I P z W S c T n) (hI : ∀ a, ¬ (20 ≤ a ∧ a < 53) → ¬ a = 7 → I' a = I a) (hP : ∀ a, ¬ a = 26 → P' a = P a) (hD : ∃ m L π, ST K N I' P' 20 W' m L π) (hB : SBo I' 20) (hr : ∀ i : Int, 0 ≤ i → i < 80 → W' (106 + i) = W (106 + i)) (hV : VG W') (hsub : Sub W W') (hRC : RC I' W') : GI K N I' P' z W' S c T n := by
  obtain ⟨σ, dr, hA, hB0, hC, ⟨⟨d1, d2, d3⟩, d4, d5⟩⟩ := h
  obtain ⟨m, L, π, hS⟩ := hD
  have hx := hB0 20 sN.now
  obtain ⟨x1, x2, x3, x4, r, x5, x6⟩ := hx
  obtain ⟨_, _, _, _, hR⟩ := d1
  refine ⟨σ, dr, hA.p (fun a ha => hP a (by omega)), hB0.one sN.now (fun a x y e => ⟨hI a e (by omega), hP a (by omega)⟩) ⟨hS.k, hS.p, hB, ⟨π, hS.i⟩, r, by rw [hP 20 (by omega)]; exact x5, x6⟩, hC.i (hI 4 (by omega) (by omega)) (hI 8 (by omega) (by omega)) (hI 9 (by omega) (by omega)), ⟨⟨m, L, π, hS, hR.fr (fun a ha => ⟨hI a (by omega) (by omega), hP a (by omega)⟩) (by rw [hP 20 (by omega)]) hr⟩, hV, hRC⟩, fun j j0 j1 => ?_, d5⟩
  obtain ⟨e1, e2, e3, e4⟩ := d4 j j0 j1
  have hs := hA.2.2.1 j j0 (by have := hC.2.1; omega)
  have b := hs.2.1.b
  have s4 := e4.tr hsub
  exact ⟨e1.tr b (fun a x y => hI a (by omega) (by omega)) (fun a x y => hP a (by omega)) (fun a ha => ⟨hI a (by omega) (by omega), hP a (by omega)⟩), e2, hRC.sub s4, s4⟩
end
