/-- a new State, told by itself -/
def NS (K N : Nat → Nat) (I : Nat → Nat → Int) (P : Nat → Nat → Option Nat) (s r : Nat) : Prop := SK K N s ∧ SP P s ∧ P s 4 = some r ∧ SI P s (fun j => s + 13 + j.toNat) ∧ I (s + 1) = I 0 ∧ (∀ a k, s ≤ a → a < s + 33 → ¬ a = s + 1 → (a < s + 13 ∨ (¬ k = 4 ∧ ¬ k = 11)) → I a k = 0)
/-- a new sorter, its States up to e made -/
def LV (I0 : Nat → Nat → Int) (e : Nat) (K N : Nat → Nat) (I : Nat → Nat → Int) (P : Nat → Nat → Option Nat) : Prop :=
  (K 4 = 7 ∧ P 4 2 = some 5 ∧ P 4 4 = some 6 ∧ P 4 5 = some 8 ∧ P 4 6 = some 10 ∧ K 5 = 13 ∧ N 5 = 6 ∧ K 6 = 1 ∧ P 6 0 = some 7 ∧ K 7 = 10 ∧ N 7 = 3000 ∧ K 8 = 5 ∧ P 8 0 = some 9 ∧ K 9 = 9 ∧ N 9 = 80) ∧ RO K N P 10 ∧ RO K N P 15 ∧
  (∀ a, a < 15 → I a = I0 a) ∧ (I 15 4 = 1 ∧ I 16 0 = 120 ∧ I 17 0 = -1) ∧ (∀ a, e ≤ a → I a = I0 a) ∧ (∀ s, sN s → s < e → NS K N I P s 15)
section
variable {d : Nat} {K N K0 N0 K' N' : Nat → Nat} {I I0 I' : Nat → Nat → Int} {P P0 P' : Nat → Nat → Option Nat} {z s r i j b e : Nat} {Q : am_V → am_T}
theorem NV.ns (h : NV K0 N0 I0 P0 s r 6 20 K N I P) (h0 : ∀ k, I0 s k = 0) : NS K N I P s r := by
  obtain ⟨v1, v2, v3, v4, ⟨v5, w1, w2, w3, w4, w5, w6, w7, w8, w9, w10, w11⟩, v6, v7, ⟨v8, x1, x2, x3, x4, x5⟩, v9, v10, v11, v12, v13⟩ := h
  refine ⟨⟨v5, w1, w2, w3, w4, w5, w6, w7, w8, w9, w10, w11, fun a h1 h2 => v6 a h1 (by omega), fun a h1 h2 => v7 a h1 (by omega)⟩, ⟨v8, x1, x2, x3, x4, x5, fun k h1 h2 => v10 k h1 (by omega)⟩, v9, ⟨fun k h1 h2 => ⟨v11 k h1 (by omega), by show s + 13 ≤ s + 13 + k.toNat; omega, by show s + 13 + k.toNat < s + 33; omega⟩, fun x y x0 x1 y0 y1 q => ?_, fun a h1 h2 => ⟨((a - (s + 13) : Nat) : Int), by omega, by omega, ?_⟩⟩, ?_, fun a k h1 h2 h3 h4 => ?_⟩
  · replace q : s + 13 + x.toNat = s + 13 + y.toNat := q
    omega
  · show s + 13 + (((a - (s + 13) : Nat) : Int)).toNat = a
    omega
  · rw [v12, v2 0 (by omega)]
  · by_cases q : a = s
    · rw [q, v2 s (by omega)]; exact h0 k
    · exact v13 a k (by omega) h2 h4
theorem NS.tr (h : NS K N I P s r) (hk : ∀ a, s ≤ a → a < s + 33 → K' a = K a ∧ N' a = N a ∧ I' a = I a ∧ P' a = P a) (hi : I' 0 = I 0) : NS K' N' I' P' s r := by
  obtain ⟨⟨v5, w1, w2, w3, w4, w5, w6, w7, w8, w9, w10, w11, w12, w13⟩, ⟨v8, x1, x2, x3, x4, x5, x6⟩, v9, ⟨y1, y2, y3⟩, u1, u2⟩ := h
  have k0 : ∀ i, i < 33 → K' (s + i) = K (s + i) := fun i q => (hk (s + i) (by omega) (by omega)).1
  have n0 : ∀ i, i < 33 → N' (s + i) = N (s + i) := fun i q => (hk (s + i) (by omega) (by omega)).2.1
  have p0 : ∀ i, i < 33 → P' (s + i) = P (s + i) := fun i q => (hk (s + i) (by omega) (by omega)).2.2.2
  have ks : K' s = K s := k0 0 (by omega)
  have ps : P' s = P s := p0 0 (by omega)
  refine ⟨⟨by rw [ks]; exact v5, by rw [k0 1 (by omega)]; exact w1, by rw [n0 1 (by omega)]; exact w2, by rw [k0 2 (by omega)]; exact w3, by rw [n0 2 (by omega)]; exact w4, by rw [k0 3 (by omega)]; exact w5, by rw [k0 4 (by omega)]; exact w6, by rw [n0 4 (by omega)]; exact w7, by rw [k0 5 (by omega)]; exact w8, by rw [n0 5 (by omega)]; exact w9, by rw [k0 6 (by omega)]; exact w10, by rw [n0 6 (by omega)]; exact w11, fun a h1 h2 => by rw [(hk a (by omega) (by omega)).1]; exact w12 a h1 h2, fun a h1 h2 => by rw [(hk a (by omega) (by omega)).1]; exact w13 a h1 h2⟩, ⟨by rw [ps]; exact v8, by rw [ps]; exact x1, by rw [ps]; exact x2, by rw [ps]; exact x3, by rw [p0 3 (by omega)]; exact x4, by rw [p0 3 (by omega)]; exact x5, fun k h1 h2 => by rw [p0 2 (by omega)]; exact x6 k h1 h2⟩, by rw [ps]; exact v9, ⟨fun k h1 h2 => by rw [p0 6 (by omega)]; exact y1 k h1 h2, y2, y3⟩, ?_, fun a k h1 h2 h3 h4 => by rw [(hk a h1 h2).2.2.1]; exact u2 a k h1 h2 h3 h4⟩
  rw [(hk (s + 1) (by omega) (by omega)).2.2.1, hi]; exact u1
theorem RO.fr {r : Nat} (h : RO K N P r) (hk : ∀ a, r ≤ a → a < r + 5 → K' a = K a ∧ N' a = N a) (hp : P' r = P r) : RO K' N' P' r := by
  obtain ⟨v5, w1, w2, w3, w4, w5, w6, w7, w8, w9, w10, w11, w12⟩ := h
  have k0 : ∀ i, i < 5 → K' (r + i) = K (r + i) := fun i q => (hk (r + i) (by omega) (by omega)).1
  have n0 : ∀ i, i < 5 → N' (r + i) = N (r + i) := fun i q => (hk (r + i) (by omega) (by omega)).2
  have ks : K' r = K r := k0 0 (by omega)
  exact ⟨by rw [ks]; exact v5, by rw [hp]; exact w1, by rw [hp]; exact w2, by rw [hp]; exact w3, by rw [hp]; exact w4, by rw [k0 1 (by omega)]; exact w5, by rw [n0 1 (by omega)]; exact w6, by rw [k0 2 (by omega)]; exact w7, by rw [n0 2 (by omega)]; exact w8, by rw [k0 3 (by omega)]; exact w9, by rw [n0 3 (by omega)]; exact w10, by rw [k0 4 (by omega)]; exact w11, by rw [n0 4 (by omega)]; exact w12⟩
theorem LV.p (h : LV I0 e K N I P) {a k : Nat} {x : Option Nat} (hp : (a = 4 ∧ k < 2) ∨ a = 5) : LV I0 e K N I (am_p2 P a k x) := by
  obtain ⟨⟨a1, a2, a3, a4, a5, a6, a7, a8, a9, a10, a11, a12, a13, a14, a15⟩, h1, h2, h3, h4, h5, h6⟩ := h
  refine ⟨⟨a1, by rw [am_p2_o (by omega)]; exact a2, by rw [am_p2_o (by omega)]; exact a3, by rw [am_p2_o (by omega)]; exact a4, by rw [am_p2_o (by omega)]; exact a5, a6, a7, a8, by rw [am_p2_o (by omega)]; exact a9, a10, a11, a12, by rw [am_p2_o (by omega)]; exact a13, a14, a15⟩, h1.fr (fun _ _ _ => ⟨rfl, rfl⟩) (am_p2_ne (by omega)), h2.fr (fun _ _ _ => ⟨rfl, rfl⟩) (am_p2_ne (by omega)), h3, h4, h5, fun s hs he => ?_⟩
  have b := hs.1
  exact (h6 s hs he).tr (fun a q1 q2 => ⟨rfl, rfl, rfl, am_p2_ne (by omega)⟩) rfl
theorem LV.st (h : LV I0 e K N I P) (he : sN e) (h0 : ∀ k, I0 e k = 0) (hv : NV (am_u1 K e 6) (am_u1 N e 0) I P e 15 6 20 K' N' I' P') : LV I0 (e + 33) K' N' I' P' := by
  obtain ⟨⟨a1, a2, a3, a4, a5, a6, a7, a8, a9, a10, a11, a12, a13, a14, a15⟩, h1, h2, h3, h4, h5, h6⟩ := h
  have b := he.1
  have hns := hv.ns (fun k => by rw [h5 e (by omega)]; exact h0 k)
  obtain ⟨v1, v2, v3, v4, -⟩ := hv
  have hk : ∀ a, a < e → K' a = K a := fun a q => by rw [(v1 a (by omega)).1, am_u1_o (by omega)]
  have hn : ∀ a, a < e → N' a = N a := fun a q => by rw [(v1 a (by omega)).2, am_u1_o (by omega)]
  have hi : ∀ a, a < e → I' a = I a := fun a q => v2 a (by omega)
  have hp : ∀ a, a < e → P' a = P a := v4
  refine ⟨⟨by rw [hk 4 (by omega)]; exact a1, by rw [hp 4 (by omega)]; exact a2, by rw [hp 4 (by omega)]; exact a3, by rw [hp 4 (by omega)]; exact a4, by rw [hp 4 (by omega)]; exact a5, by rw [hk 5 (by omega)]; exact a6, by rw [hn 5 (by omega)]; exact a7, by rw [hk 6 (by omega)]; exact a8, by rw [hp 6 (by omega)]; exact a9, by rw [hk 7 (by omega)]; exact a10, by rw [hn 7 (by omega)]; exact a11, by rw [hk 8 (by omega)]; exact a12, by rw [hp 8 (by omega)]; exact a13, by rw [hk 9 (by omega)]; exact a14, by rw [hn 9 (by omega)]; exact a15⟩, h1.fr (fun a q1 q2 => ⟨hk a (by omega), hn a (by omega)⟩) (hp _ (by omega)), h2.fr (fun a q1 q2 => ⟨hk a (by omega), hn a (by omega)⟩) (hp _ (by omega)), fun a q => by rw [hi a (by omega)]; exact h3 a q, by rw [hi 15 (by omega), hi 16 (by omega), hi 17 (by omega)]; exact h4, fun a q => by rw [v3 a (by omega)]; exact h5 a (by omega), fun s hs hlt => ?_⟩
  have c1 := hs.1
  have c2 := hs.2.2
  have c3 := he.2.2
  rcases (show s < e ∨ s = e by omega) with q | q
  · exact (h6 s hs q).tr (fun a q1 q2 => ⟨hk a (by omega), hn a (by omega), hi a (by omega), hp a (by omega)⟩) (hi 0 (by omega))
  · rw [q]; exact hns
theorem ng_85 (hd : 5 ≤ d) (h0 : ∀ a k, 4 ≤ a → I0 a k = 0) (f : ∀ K' N' I' P', LV I0 284 K' N' I' P' → P' 4 0 = some 20 → P' 4 1 = some 53 → (∀ j : Int, 0 ≤ j → j < 6 → P' 5 j.toNat = some (86 + 33 * j.toNat)) → KF 0 K0 K' → KF 0 N0 N' → Q am_nl K' N' I' P' 280) : ∀ (t i k n : Nat) (l2 : Int) (z : Nat) (K N : Nat → Nat) (I : Nat → Nat → Int) (P : Nat → Nat → Option Nat), t + i = 6 → l2 = (i : Int) → z = 82 + 33 * i → k ≤ 81 + 33 * i → n ≤ 4494 + 376 * i → LV I0 (86 + 33 * i) K N I P → N 0 = 6 → P 4 0 = some 20 → P 4 1 = some 53 → (∀ j : Int, 0 ≤ j → j < i → P 5 j.toNat = some (86 + 33 * j.toNat)) → KF 0 K0 K → KF 0 N0 N → L_X7_init_85 d k n 4 15 l2 K N I P z Q := by
  intro t
  induction t with
  | zero =>
    intro i k n l2 z K N I P ht hl hz hk hn hV hN p0 p1 p5 f1 f2
    obtain rfl : i = 6 := by omega
    subst hz
    exact wf_X7_init_85 (by omega) ⟨fun _ => ⟨⟨by omega, by omega⟩, f _ _ _ _ hV p0 p1 (fun j h1 h2 => p5 j h1 (by omega)) f1 f2⟩, fun q => absurd (by omega) q⟩
  | succ t ih =>
    intro i k n l2 z K N I P ht hl hz hk hn hV hN p0 p1 p5 f1 f2
    refine wf_X7_init_85 (by omega) ⟨fun q => absurd q (by omega), fun q => ?_⟩
    refine ⟨hV.1.1, 5, hV.1.2.1, ⟨by omega, by omega⟩, ?_⟩
    rintro K3 N4 b5 z6 rfl rfl hb rfl
    subst hl
    have he : z + 4 = 86 + 33 * i := by omega
    rw [← hb] at he
    rw [← hb]
    have hN2 : am_u1 N b5 0 0 = 6 := by rw [am_u1_o (by omega)]; exact hN
    refine ⟨⟨by omega, by omega⟩, cu_state (by omega) am_u1_s (by omega) hN2 (fun a k q => by rw [hV.2.2.2.2.2.1 a (by omega)]; exact h0 a k (by omega)) ?_⟩
    intro K8 N9 I10 P11 hv
    rw [he] at hv
    have hV2 := hV.st (by unfold sN; omega) (fun k => h0 _ k (by omega)) hv
    have v1 := hv.1
    have v4 := hv.2.2.2.1
    refine ⟨hV2.1.2.2.2.2.2.1, ⟨by omega, by rw [hV2.1.2.2.2.2.2.2.1]; omega⟩, by rw [he]; exact hv.2.2.2.2.1.1, ?_⟩
    rintro P15 rfl
    rw [am_wE (by omega) (by omega)]
    refine ih (i + 1) _ _ _ _ _ _ _ _ (by omega) (by omega) (by omega) (by omega) (by omega) (hV2.p (Or.inr rfl)) ?_ ?_ ?_ (fun j h1 h2 => ?_) (fun a q => ?_) (fun a q => ?_)
    · rw [(v1 0 (by omega)).2, am_u1_o (by omega)]; exact hN
    · rw [am_p2_ne (by omega), v4 4 (by omega)]; exact p0
    · rw [am_p2_ne (by omega), v4 4 (by omega)]; exact p1
    · by_cases qq : j = (i : Int)
      · rw [qq, am_p2_s, he]; congr 1
      · rw [am_p2_o (by omega), v4 5 (by omega)]; exact p5 j h1 (by omega)
    · rw [(v1 a (by omega)).1, am_u1_o (by omega)]; exact f1 a q
    · rw [(v1 a (by omega)).2, am_u1_o (by omega)]; exact f2 a q
end
