/-! THE SECOND SORTER: the first one's text with the numbers shifted by 280 (wip/p30/gen_init.py) -/
def sM (s : Nat) : Prop := 300 ≤ s ∧ s ≤ 531 ∧ (s - 300) % 33 = 0
/-- a new sorter, its States up to e made -/
def LU (I0 : Nat → Nat → Int) (e : Nat) (K N : Nat → Nat) (I : Nat → Nat → Int) (P : Nat → Nat → Option Nat) : Prop :=
  (K 284 = 7 ∧ P 284 2 = some 285 ∧ P 284 4 = some 286 ∧ P 284 5 = some 288 ∧ P 284 6 = some 290 ∧ K 285 = 13 ∧ N 285 = 6 ∧ K 286 = 1 ∧ P 286 0 = some 287 ∧ K 287 = 10 ∧ N 287 = 3000 ∧ K 288 = 5 ∧ P 288 0 = some 289 ∧ K 289 = 9 ∧ N 289 = 80) ∧ RO K N P 290 ∧ RO K N P 295 ∧
  (∀ a, a < 295 → I a = I0 a) ∧ (I 295 4 = 1 ∧ I 296 0 = 120 ∧ I 297 0 = -1) ∧ (∀ a, e ≤ a → I a = I0 a) ∧ (∀ s, sM s → s < e → NS K N I P s 295)
section
variable {d : Nat} {K N K0 N0 K' N' : Nat → Nat} {I I0 I' : Nat → Nat → Int} {P P0 P' : Nat → Nat → Option Nat} {z s r i j b e : Nat} {Q : am_V → am_T}
theorem LU.p (h : LU I0 e K N I P) {a k : Nat} {x : Option Nat} (hp : (a = 284 ∧ k < 2) ∨ a = 285) : LU I0 e K N I (am_p2 P a k x) := by
  obtain ⟨⟨a1, a2, a3, a4, a5, a6, a7, a8, a9, a10, a11, a12, a13, a14, a15⟩, h1, h2, h3, h4, h5, h6⟩ := h
  refine ⟨⟨a1, by rw [am_p2_o (by omega)]; exact a2, by rw [am_p2_o (by omega)]; exact a3, by rw [am_p2_o (by omega)]; exact a4, by rw [am_p2_o (by omega)]; exact a5, a6, a7, a8, by rw [am_p2_o (by omega)]; exact a9, a10, a11, a12, by rw [am_p2_o (by omega)]; exact a13, a14, a15⟩, h1.fr (fun _ _ _ => ⟨rfl, rfl⟩) (am_p2_ne (by omega)), h2.fr (fun _ _ _ => ⟨rfl, rfl⟩) (am_p2_ne (by omega)), h3, h4, h5, fun s hs he => ?_⟩
  have b := hs.1
  exact (h6 s hs he).tr (fun a q1 q2 => ⟨rfl, rfl, rfl, am_p2_ne (by omega)⟩) rfl
theorem LU.st (h : LU I0 e K N I P) (he : sM e) (h0 : ∀ k, I0 e k = 0) (hv : NV (am_u1 K e 6) (am_u1 N e 0) I P e 295 6 20 K' N' I' P') : LU I0 (e + 33) K' N' I' P' := by
  obtain ⟨⟨a1, a2, a3, a4, a5, a6, a7, a8, a9, a10, a11, a12, a13, a14, a15⟩, h1, h2, h3, h4, h5, h6⟩ := h
  have b := he.1
  have hns := hv.ns (fun k => by rw [h5 e (by omega)]; exact h0 k)
  obtain ⟨v1, v2, v3, v4, -⟩ := hv
  have hk : ∀ a, a < e → K' a = K a := fun a q => by rw [(v1 a (by omega)).1, am_u1_o (by omega)]
  have hn : ∀ a, a < e → N' a = N a := fun a q => by rw [(v1 a (by omega)).2, am_u1_o (by omega)]
  have hi : ∀ a, a < e → I' a = I a := fun a q => v2 a (by omega)
  have hp : ∀ a, a < e → P' a = P a := v4
  refine ⟨⟨by rw [hk 284 (by omega)]; exact a1, by rw [hp 284 (by omega)]; exact a2, by rw [hp 284 (by omega)]; exact a3, by rw [hp 284 (by omega)]; exact a4, by rw [hp 284 (by omega)]; exact a5, by rw [hk 285 (by omega)]; exact a6, by rw [hn 285 (by omega)]; exact a7, by rw [hk 286 (by omega)]; exact a8, by rw [hp 286 (by omega)]; exact a9, by rw [hk 287 (by omega)]; exact a10, by rw [hn 287 (by omega)]; exact a11, by rw [hk 288 (by omega)]; exact a12, by rw [hp 288 (by omega)]; exact a13, by rw [hk 289 (by omega)]; exact a14, by rw [hn 289 (by omega)]; exact a15⟩, h1.fr (fun a q1 q2 => ⟨hk a (by omega), hn a (by omega)⟩) (hp _ (by omega)), h2.fr (fun a q1 q2 => ⟨hk a (by omega), hn a (by omega)⟩) (hp _ (by omega)), fun a q => by rw [hi a (by omega)]; exact h3 a q, by rw [hi 295 (by omega), hi 296 (by omega), hi 297 (by omega)]; exact h4, fun a q => by rw [v3 a (by omega)]; exact h5 a (by omega), fun s hs hlt => ?_⟩
  have c1 := hs.1
  have c2 := hs.2.2
  have c3 := he.2.2
  rcases (show s < e ∨ s = e by omega) with q | q
  · exact (h6 s hs q).tr (fun a q1 q2 => ⟨hk a (by omega), hn a (by omega), hi a (by omega), hp a (by omega)⟩) (hi 0 (by omega))
  · rw [q]; exact hns
theorem nh_85 (hd : 5 ≤ d) (h0 : ∀ a k, 284 ≤ a → I0 a k = 0) (f : ∀ K' N' I' P', LU I0 564 K' N' I' P' → P' 284 0 = some 300 → P' 284 1 = some 333 → (∀ j : Int, 0 ≤ j → j < 6 → P' 285 j.toNat = some (366 + 33 * j.toNat)) → KF 280 K0 K' → KF 280 N0 N' → (∀ a, a < 284 → P' a = P0 a) → Q am_nl K' N' I' P' 560) : ∀ (t i k n : Nat) (l2 : Int) (z : Nat) (K N : Nat → Nat) (I : Nat → Nat → Int) (P : Nat → Nat → Option Nat), t + i = 6 → l2 = (i : Int) → z = 362 + 33 * i → k ≤ 81 + 33 * i → n ≤ 4494 + 376 * i → LU I0 (366 + 33 * i) K N I P → N 0 = 6 → P 284 0 = some 300 → P 284 1 = some 333 → (∀ j : Int, 0 ≤ j → j < i → P 285 j.toNat = some (366 + 33 * j.toNat)) → KF 280 K0 K → KF 280 N0 N → (∀ a, a < 284 → P a = P0 a) → L_X7_init_85 d k n 284 295 l2 K N I P z Q := by
  intro t
  induction t with
  | zero =>
    intro i k n l2 z K N I P ht hl hz hk hn hV hN p0 p1 p5 f1 f2 fp
    obtain rfl : i = 6 := by omega
    subst hz
    exact wf_X7_init_85 (by omega) ⟨fun _ => ⟨⟨by omega, by omega⟩, f _ _ _ _ hV p0 p1 (fun j h1 h2 => p5 j h1 (by omega)) f1 f2 fp⟩, fun q => absurd (by omega) q⟩
  | succ t ih =>
    intro i k n l2 z K N I P ht hl hz hk hn hV hN p0 p1 p5 f1 f2 fp
    refine wf_X7_init_85 (by omega) ⟨fun q => absurd q (by omega), fun q => ?_⟩
    refine ⟨hV.1.1, 285, hV.1.2.1, ⟨by omega, by omega⟩, ?_⟩
    rintro K3 N4 b5 z6 rfl rfl hb rfl
    subst hl
    have he : z + 4 = 366 + 33 * i := by omega
    rw [← hb] at he
    rw [← hb]
    have hN2 : am_u1 N b5 0 0 = 6 := by rw [am_u1_o (by omega)]; exact hN
    refine ⟨⟨by omega, by omega⟩, cu_state (by omega) am_u1_s (by omega) hN2 (fun a k q => by rw [hV.2.2.2.2.2.1 a (by omega)]; exact h0 a k (by omega)) ?_⟩
    intro K8 N9 I10 P11 hv
    rw [he] at hv
    have hV2 := hV.st (by unfold sM; omega) (fun k => h0 _ k (by omega)) hv
    have v1 := hv.1
    have v4 := hv.2.2.2.1
    refine ⟨hV2.1.2.2.2.2.2.1, ⟨by omega, by rw [hV2.1.2.2.2.2.2.2.1]; omega⟩, by rw [he]; exact hv.2.2.2.2.1.1, ?_⟩
    rintro P15 rfl
    rw [am_wE (by omega) (by omega)]
    refine ih (i + 1) _ _ _ _ _ _ _ _ (by omega) (by omega) (by omega) (by omega) (by omega) (hV2.p (Or.inr rfl)) ?_ ?_ ?_ (fun j h1 h2 => ?_) (fun a q => ?_) (fun a q => ?_) (fun a q => ?_)
    · rw [(v1 0 (by omega)).2, am_u1_o (by omega)]; exact hN
    · rw [am_p2_ne (by omega), v4 284 (by omega)]; exact p0
    · rw [am_p2_ne (by omega), v4 284 (by omega)]; exact p1
    · by_cases qq : j = (i : Int)
      · rw [qq, am_p2_s, he]; congr 1
      · rw [am_p2_o (by omega), v4 285 (by omega)]; exact p5 j h1 (by omega)
    · rw [(v1 a (by omega)).1, am_u1_o (by omega)]; exact f1 a q
    · rw [(v1 a (by omega)).2, am_u1_o (by omega)]; exact f2 a q
    · rw [am_p2_ne (by omega), v4 a (by omega)]; exact fp a q
end
