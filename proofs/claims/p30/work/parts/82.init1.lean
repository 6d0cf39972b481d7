/-! NEW OBJECTS -/
theorem am_p2_o {P : Nat → Nat → Option Nat} {a k b j : Nat} {x : Option Nat} (h : ¬ (b = a ∧ j = k)) : am_p2 P a k x b j = P b j := if_neg h
theorem am_p2_s {P : Nat → Nat → Option Nat} {a k : Nat} {x : Option Nat} : am_p2 P a k x a k = x := by simp [am_p2]
theorem am_z2_o {I : Nat → Nat → Int} {a b c : Nat} (h : ¬ c = a) : am_z2 I a b c = I c := by funext j; exact if_neg h
theorem am_z2_s {I : Nat → Nat → Int} {a b : Nat} : am_z2 I a b a = I b := by funext j; exact if_pos rfl
/-- a new State at s with the rule r, i of its lanes and j of its parts made; before: K0 N0 I0 P0 -/
def NV (K0 N0 : Nat → Nat) (I0 : Nat → Nat → Int) (P0 : Nat → Nat → Option Nat) (s r i j : Nat) (K N : Nat → Nat) (I : Nat → Nat → Int) (P : Nat → Nat → Option Nat) : Prop :=
  (∀ a, a < s + 1 → K a = K0 a ∧ N a = N0 a) ∧ (∀ a, a < s + 1 → I a = I0 a) ∧ (∀ a, s + 13 + j ≤ a → I a = I0 a) ∧ (∀ a, a < s → P a = P0 a) ∧
  (K s = 6 ∧ K (s + 1) = 10 ∧ N (s + 1) = 6 ∧ K (s + 2) = 11 ∧ N (s + 2) = 6 ∧ K (s + 3) = 3 ∧ K (s + 4) = 10 ∧ N (s + 4) = 30 ∧ K (s + 5) = 10 ∧ N (s + 5) = 30 ∧ K (s + 6) = 12 ∧ N (s + 6) = 20) ∧
  (∀ a, s + 7 ≤ a → a < s + 7 + i → K a = 0) ∧ (∀ a, s + 13 ≤ a → a < s + 13 + j → K a = 2) ∧
  (P s 0 = some (s + 1) ∧ P s 1 = some (s + 2) ∧ P s 3 = some (s + 3) ∧ P s 5 = some (s + 6) ∧ P (s + 3) 0 = some (s + 4) ∧ P (s + 3) 1 = some (s + 5)) ∧ P s 4 = some r ∧
  (∀ k : Int, 0 ≤ k → k < i → P (s + 2) k.toNat = some (s + 7 + k.toNat)) ∧ (∀ k : Int, 0 ≤ k → k < j → P (s + 6) k.toNat = some (s + 13 + k.toNat)) ∧
  I (s + 1) = I0 0 ∧ (∀ a k, s + 1 < a → a < s + 33 → (a < s + 13 ∨ (¬ k = 4 ∧ ¬ k = 11)) → I a k = 0)
section
variable {d : Nat} {K N K0 N0 : Nat → Nat} {I I0 : Nat → Nat → Int} {P P0 : Nat → Nat → Option Nat} {z s r i j b : Nat} {Q : am_V → am_T}
theorem NV.lane (h : NV K0 N0 I0 P0 s r i 0 K N I P) (hb : b = s + 7 + i) (hi : i < 6) : NV K0 N0 I0 P0 s r (i + 1) 0 (am_u1 K b 0) (am_u1 N b 0) I (am_p2 P (s + 2) i (some b)) := by
  obtain ⟨v1, v2, v3, v4, v5, v6, v7, v8, v9, v10, v11, v12, v13⟩ := h
  refine ⟨fun a ha => by rw [am_u1_o (by omega), am_u1_o (by omega)]; exact v1 a ha, v2, v3, fun a ha => by rw [am_p2_ne (by omega)]; exact v4 a ha, ?_, fun a h1 h2 => ?_, fun a h1 h2 => by omega, ?_, by rw [am_p2_ne (by omega)]; exact v9, fun k h1 h2 => ?_, fun k h1 h2 => by omega, v12, v13⟩
  · simp (disch := omega) only [am_u1_o]; exact v5
  · by_cases q : a = b
    · rw [q, am_u1_s]
    · rw [am_u1_o q]; exact v6 a h1 (by omega)
  · simp (disch := omega) only [am_p2_ne]; exact v8
  · by_cases q : k = (i : Int)
    · have e : k.toNat = i := by omega
      rw [e, am_p2_s, hb]
    · rw [am_p2_o (by omega)]; exact v10 k h1 (by omega)
theorem NV.part (h : NV K0 N0 I0 P0 s r 6 j K N I P) (hb : b = s + 13 + j) (hi : j < 20) : NV K0 N0 I0 P0 s r 6 (j + 1) (am_u1 K b 2) (am_u1 N b 0) (am_u2 (am_u2 I b 4 (-1)) b 11 (-1)) (am_p2 P (s + 6) j (some b)) := by
  obtain ⟨v1, v2, v3, v4, v5, v6, v7, v8, v9, v10, v11, v12, v13⟩ := h
  refine ⟨fun a ha => by rw [am_u1_o (by omega), am_u1_o (by omega)]; exact v1 a ha, fun a ha => by rw [am_u2_ne (by omega), am_u2_ne (by omega)]; exact v2 a ha, fun a ha => by rw [am_u2_ne (by omega), am_u2_ne (by omega)]; exact v3 a (by omega), fun a ha => by rw [am_p2_ne (by omega)]; exact v4 a ha, ?_, fun a h1 h2 => by rw [am_u1_o (by omega)]; exact v6 a h1 (by omega), fun a h1 h2 => ?_, ?_, by rw [am_p2_ne (by omega)]; exact v9, fun k h1 h2 => by rw [am_p2_ne (by omega)]; exact v10 k h1 h2, fun k h1 h2 => ?_, by rw [am_u2_ne (by omega), am_u2_ne (by omega)]; exact v12, fun a k h1 h2 h3 => ?_⟩
  · simp (disch := omega) only [am_u1_o]; exact v5
  · by_cases q : a = b
    · rw [q, am_u1_s]
    · rw [am_u1_o q]; exact v7 a h1 (by omega)
  · simp (disch := omega) only [am_p2_ne]; exact v8
  · by_cases q : k = (j : Int)
    · have e : k.toNat = j := by omega
      rw [e, am_p2_s, hb]
    · rw [am_p2_o (by omega)]; exact v11 k h1 (by omega)
  · rw [am_u2_o (by omega), am_u2_o (by omega)]; exact v13 a k h1 h2 h3
theorem ni_80 (hd : 2 ≤ d) (f : ∀ K' N' I' P', NV K0 N0 I0 P0 s r 6 20 K' N' I' P' → Q am_nl K' N' I' P' (s + 29)) : ∀ (t j k n : Nat) (l2 : Int) (z : Nat) (K N : Nat → Nat) (I : Nat → Nat → Int) (P : Nat → Nat → Option Nat), t + j = 20 → l2 = (j : Int) → z = s + 9 + j → k ≤ 12 + j → n ≤ 125 + 12 * j → NV K0 N0 I0 P0 s r 6 j K N I P → L_X6_init_80 d k n s l2 K N I P z Q := by
  intro t
  induction t with
  | zero =>
    intro j k n l2 z K N I P ht hl hz hk hn hV
    obtain rfl : j = 20 := by omega
    refine wf_X6_init_80 (by omega) ⟨fun _ => ⟨⟨by omega, by omega⟩, ?_⟩, fun q => absurd (by omega) q⟩
    subst hz
    exact f _ _ _ _ hV
  | succ t ih =>
    intro j k n l2 z K N I P ht hl hz hk hn hV
    refine wf_X6_init_80 (by omega) ⟨fun q => absurd q (by omega), fun q => ?_⟩
    have v5 := hV.2.2.2.2.1
    have v8 := hV.2.2.2.2.2.2.2.1
    refine ⟨v5.1, s + 6, v8.2.2.2.1, ⟨by omega, by omega⟩, ?_⟩
    rintro K3 N4 b5 z6 rfl rfl hb rfl
    subst hl
    refine ⟨⟨by omega, by omega⟩, wf_X2_init (by omega) ⟨by rw [hb]; exact am_u1_s, ?_⟩⟩
    rintro I2 rfl I3 rfl
    rw [← hb]
    refine ⟨by rw [am_u1_o (by omega)]; exact v5.2.2.2.2.2.2.2.2.2.2.1, ⟨by omega, by rw [am_u1_o (by omega), v5.2.2.2.2.2.2.2.2.2.2.2]; omega⟩, am_u1_s, ?_⟩
    rintro P15 rfl
    rw [am_wE (by omega) (by omega)]
    exact ih (j + 1) _ _ _ _ _ _ _ _ (by omega) (by omega) (by omega) (by omega) (by omega) (hV.part (by omega) (by omega))
theorem ni_53 (hd : 2 ≤ d) (f : ∀ K' N' I' P', NV K0 N0 I0 P0 s r 6 20 K' N' I' P' → Q am_nl K' N' I' P' (s + 29)) : ∀ (t i k n : Nat) (l2 : Int) (z : Nat) (K N : Nat → Nat) (I : Nat → Nat → Int) (P : Nat → Nat → Option Nat), t + i = 6 → l2 = (i : Int) → z = s + 3 + i → k ≤ 6 + i → n ≤ 95 + 5 * i → NV K0 N0 I0 P0 s r i 0 K N I P → L_X6_init_53 d k n s l2 K N I P z Q := by
  intro t
  induction t with
  | zero =>
    intro i k n l2 z K N I P ht hl hz hk hn hV
    obtain rfl : i = 6 := by omega
    exact wf_X6_init_53 (by omega) ⟨fun _ => ni_80 hd f 20 0 _ _ _ _ _ _ _ _ (by omega) rfl (by omega) (by omega) (by omega) hV, fun q => absurd (by omega) q⟩
  | succ t ih =>
    intro i k n l2 z K N I P ht hl hz hk hn hV
    refine wf_X6_init_53 (by omega) ⟨fun q => absurd q (by omega), fun q => ?_⟩
    have v5 := hV.2.2.2.2.1
    have v8 := hV.2.2.2.2.2.2.2.1
    refine ⟨v5.1, s + 2, v8.2.1, ⟨by omega, by omega⟩, ?_⟩
    rintro K3 N4 b5 z6 rfl rfl hb rfl
    subst hl
    refine ⟨⟨by omega, by omega⟩, wf_X0_init (by omega) ?_⟩
    rw [← hb]
    refine ⟨by rw [am_u1_o (by omega)]; exact v5.2.2.2.1, ⟨by omega, by rw [am_u1_o (by omega), v5.2.2.2.2.1]; omega⟩, am_u1_s, ?_⟩
    rintro P15 rfl
    rw [am_wE (by omega) (by omega)]
    exact ih (i + 1) _ _ _ _ _ _ _ _ (by omega) (by omega) (by omega) (by omega) (by omega) (hV.lane (by omega) (by omega))
theorem cu_state (hd : 3 ≤ d) (ks : K s = 6) (hs : s = z + 3) (hn : N 0 = 6) (h0 : ∀ a k, s < a → I a k = 0) (f : ∀ K' N' I' P', NV K N I P s r 6 20 K' N' I' P' → Q am_nl K' N' I' P' (s + 29)) : am_C d m_X6_init [am_r s, am_r r] K N I P z Q am_nx := by
  refine wf_X6_init (by omega) ⟨by omega, ?_⟩
  rintro K1 N2 b3 z4 rfl rfl rfl rfl I5 rfl
  refine ⟨by rw [am_u1_o (by omega)]; exact ks, ?_⟩
  rintro P8 rfl
  refine ⟨by omega, ?_⟩
  rintro K9 N10 b11 z12 rfl rfl rfl rfl
  refine ⟨by simp (disch := omega) only [am_u1_o]; exact ks, ?_⟩
  rintro P15 rfl
  refine ⟨by omega, ?_⟩
  rintro K16 N17 b18 z19 rfl rfl rfl rfl
  refine ⟨by omega, wf_X3_init (by omega) ⟨by omega, ?_⟩⟩
  rintro K1 N2 b3 z4 rfl rfl rfl rfl
  refine ⟨by simp (disch := omega) only [am_u1_o, am_u1_s], ?_⟩
  rintro P7 rfl
  refine ⟨by omega, ?_⟩
  rintro K8 N9 b10 z11 rfl rfl rfl rfl
  refine ⟨by simp (disch := omega) only [am_u1_o, am_u1_s], ?_⟩
  rintro P14 rfl
  refine ⟨by omega, ?_⟩
  refine ⟨by simp (disch := omega) only [am_u1_o, am_u1_s]; exact ks, ?_⟩
  rintro P27 rfl
  refine ⟨by omega, ?_⟩
  rintro K28 N29 b30 z31 rfl rfl rfl rfl
  refine ⟨by simp (disch := omega) only [am_u1_o, am_u1_s]; exact ks, ?_⟩
  rintro P34 rfl P35 rfl
  refine ni_53 (by omega) f 6 0 _ _ _ _ _ _ _ _ (by omega) rfl (by omega) (by omega) (by omega) ?_
  subst hs
  refine ⟨fun a ha => ?_, fun a ha => am_z2_o (by omega), fun a ha => am_z2_o (by omega), fun a ha => ?_, ?_, fun a h1 h2 => by omega, fun a h1 h2 => by omega, ?_, ?_, fun k h1 h2 => by omega, fun k h1 h2 => by omega, ?_, fun a k h1 h2 h3 => ?_⟩
  · constructor <;> simp (disch := omega) only [am_u1_o]
  · simp (disch := omega) only [am_p2_ne]
  · simp (disch := omega) [am_u1, ks, hn]
  · simp [am_p2]
  · simp [am_p2]
  · exact am_z2_s
  · rw [am_z2_o (by omega)]; exact h0 a k (by omega)
end
