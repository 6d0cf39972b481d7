theorem am_u1_o {f : Nat → Nat} {a x b : Nat} (h : ¬ b = a) : am_u1 f a x b = f b := if_neg h
theorem am_u1_s {f : Nat → Nat} {a x : Nat} : am_u1 f a x a = x := if_pos rfl
section
variable {d : Nat} {K N K' N' : Nat → Nat} {I I' : Nat → Nat → Int} {P P' : Nat → Nat → Option Nat} {z : Nat} {Q : am_V → am_T} {X : Nat → am_T} {W W' V W0 L0 : Int → Int} {S : Int → Int → Int} {c : Int} {T T' : Int → Int} {n n' : Int} {s s2 dr : Nat} {m : Int} {L : Int → Int} {π : Int → Nat}
theorem cu_init {r : Nat} (hd : 1 ≤ d) (kr : K r = 4) (hr : r + 1 = z + 4) (h : ∀ K' N' P', KF z K K' → KF z N N' → (∀ a, ¬ a = r → P' a = P a) → RO K' N' P' r → Q am_nl K' N' I P' (z + 4)) : am_C d m_X4_init [am_r r] K N I P z Q am_nx := by
  refine wf_X4_init hd ⟨by omega, ?_⟩
  rintro K1 N2 b3 z4 rfl rfl rfl rfl
  refine ⟨by rw [am_u1_o (by omega)]; exact kr, ?_⟩
  rintro P7 rfl
  refine ⟨by omega, ?_⟩
  rintro K8 N9 b10 z11 rfl rfl rfl rfl
  refine ⟨by rw [am_u1_o (by omega), am_u1_o (by omega)]; exact kr, ?_⟩
  rintro P14 rfl
  refine ⟨by omega, ?_⟩
  rintro K15 N16 b17 z18 rfl rfl rfl rfl
  refine ⟨by rw [am_u1_o (by omega), am_u1_o (by omega), am_u1_o (by omega)]; exact kr, ?_⟩
  rintro P21 rfl
  refine ⟨by omega, ?_⟩
  rintro K22 N23 b24 z25 rfl rfl rfl rfl
  refine ⟨by rw [am_u1_o (by omega), am_u1_o (by omega), am_u1_o (by omega), am_u1_o (by omega)]; exact kr, ?_⟩
  rintro P28 rfl
  refine ⟨by omega, ?_⟩
  have z80 : Int.toNat 80 = 80 := rfl
  rw [z80]
  have hz : r = z + 3 := by omega
  subst hz
  refine h _ _ _ (fun a ha => ?_) (fun a ha => ?_) (fun a ha => ?_) ⟨?_, ?_, ?_, ?_, ?_, ?_, ?_, ?_, ?_, ?_, ?_, ?_, ?_⟩
  · rw [am_u1_o (by omega), am_u1_o (by omega), am_u1_o (by omega), am_u1_o (by omega)]
  · rw [am_u1_o (by omega), am_u1_o (by omega), am_u1_o (by omega), am_u1_o (by omega)]
  · rw [am_p2_ne ha, am_p2_ne ha, am_p2_ne ha, am_p2_ne ha]
  · rw [am_u1_o (by omega), am_u1_o (by omega), am_u1_o (by omega), am_u1_o (by omega)]; exact kr
  · unfold am_p2; rw [if_neg (by omega), if_neg (by omega), if_neg (by omega), if_pos ⟨rfl, rfl⟩]
  · unfold am_p2; rw [if_neg (by omega), if_neg (by omega), if_pos ⟨rfl, rfl⟩]
  · unfold am_p2; rw [if_neg (by omega), if_pos ⟨rfl, rfl⟩]
  · unfold am_p2; rw [if_pos ⟨rfl, rfl⟩]
  · rw [am_u1_o (by omega), am_u1_o (by omega), am_u1_o (by omega)]; exact am_u1_s
  · rw [am_u1_o (by omega), am_u1_o (by omega), am_u1_o (by omega)]; exact am_u1_s
  · rw [am_u1_o (by omega), am_u1_o (by omega)]; exact am_u1_s
  · rw [am_u1_o (by omega), am_u1_o (by omega)]; exact am_u1_s
  · rw [am_u1_o (by omega)]; exact am_u1_s
  · rw [am_u1_o (by omega)]; exact am_u1_s
  · exact am_u1_s
  · exact am_u1_s
theorem SC.c11 (h : SC I s W) (hW : ∀ i : Int, 0 ≤ i → i < 106 → ¬ i = 11 → W' i = W i) : SC I s W' := by
  obtain ⟨c0, c1, c2, c3, c4, c5, c6, c7⟩ := h
  refine ⟨fun k a b => ?_, ?_, fun i k a b e f => ?_, ?_, fun k a b => ⟨?_, ?_⟩, ?_, ?_, ?_⟩
  · rw [hW _ (by omega) (by omega) (by omega)]; exact c0 k a b
  · rw [hW _ (by omega) (by omega) (by omega)]; exact c1
  · rw [hW _ (by omega) (by omega) (by omega)]; exact c2 i k a b e f
  · rw [hW _ (by omega) (by omega) (by omega)]; exact c3
  · rw [hW _ (by omega) (by omega) (by omega)]; exact (c4 k a b).1
  · rw [hW _ (by omega) (by omega) (by omega)]; exact (c4 k a b).2
  · rw [hW _ (by omega) (by omega) (by omega)]; exact c5
  · rw [hW _ (by omega) (by omega) (by omega)]; exact c6
  · rw [hW _ (by omega) (by omega) (by omega)]; exact c7
end
