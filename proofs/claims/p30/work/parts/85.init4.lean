/-- the reference's row of a new model -/
def WZ : Int → Int := fun i => if i = 1 then 300 else if i = 2 then 20 else if i = 3 then 50 else if i = 4 then 40 else if i = 5 then 2000 else if i = 6 then 5 else if i = 11 then 1 else if i = 106 then 120 else 0
theorem WZ.z {i : Int} (h : ¬ (1 ≤ i ∧ i ≤ 6)) (h1 : ¬ i = 11) (h2 : ¬ i = 106) : WZ i = 0 := by
  unfold WZ
  rw [if_neg (by omega), if_neg (by omega), if_neg (by omega), if_neg (by omega), if_neg (by omega), if_neg (by omega), if_neg (by omega), if_neg (by omega)]
section
variable {d : Nat} {K N K0 N0 K' N' : Nat → Nat} {I I0 I' : Nat → Nat → Int} {P P0 P' : Nat → Nat → Option Nat} {z s r i j b e : Nat} {Q : am_V → am_T}
theorem VG.start : VG WZ := by
  have z9 : WZ 9 = 0 := rfl
  have z7 : WZ 7 = 0 := rfl
  have z8 : WZ 8 = 0 := rfl
  refine ⟨⟨by decide, by decide, by decide, by decide, by decide, by decide, by decide, by decide, by decide, by decide, fun l h0 h1 => ?_, fun l h0 h1 => ⟨WZ.z (by omega) (by omega) (by omega), WZ.z (by omega) (by omega) (by omega)⟩, fun l h0 h1 => ?_, ⟨1, by omega, ?_⟩, fun p h0 h1 => ?_, fun p q h0 h1 h2 => ?_⟩, fun p h0 h1 => ?_, by decide⟩
  · rw [z7] at h1; omega
  · rw [z8] at h1; omega
  · rfl
  · rw [z9] at h1; omega
  · rw [z9] at h2; omega
  · rw [z9] at h1; omega
theorem SD.start (h : NS K N I P 20 15) (hr : RO K N P 15) (h5 : I 15 4 = 1 ∧ I 16 0 = 120 ∧ I 17 0 = -1) (ht : GT N I) : SD K N I P 20 WZ := by
  obtain ⟨h1, h2, h3, h4, g1, g2⟩ := h
  have z9 : WZ 9 = 0 := rfl
  obtain ⟨-, -, -, ⟨s1, s2, s3, s4, s5, s6⟩, -⟩ := ht
  have z : ∀ a k, 20 ≤ a → a < 33 → ¬ a = 21 → I a k = 0 := fun a k q1 q2 q3 => g2 a k q1 (by omega) q3 (Or.inl q2)
  refine ⟨0, fun _ => 0, _, ⟨h1, h2, h4, ⟨fun k k0 k1 => ?_, z 20 2 (by omega) (by omega) (by omega), fun i k i0 i1 k0 k1 => ?_, z 23 2 (by omega) (by omega) (by omega), fun k k0 k1 => ⟨?_, ?_⟩, z 20 7 (by omega) (by omega) (by omega), z 20 8 (by omega) (by omega) (by omega), z 20 9 (by omega) (by omega) (by omega)⟩, z 20 6 (by omega) (by omega) (by omega), ⟨by omega, fun j q1 q2 => by omega, fun i j q1 q2 q3 => by omega, fun p p0 p1 => ?_⟩, by omega, fun j q1 q2 => by omega⟩, ⟨15, fun i => WZ (106 + i), 1, 1, h3, hr, Or.inl ⟨by omega, by omega⟩, by omega, fun i q1 q2 => rfl, by omega, ?_⟩⟩
  · rw [g1]
    rcases (show k = 0 ∨ k = 1 ∨ k = 2 ∨ k = 3 ∨ k = 4 ∨ k = 5 by omega) with q | q | q | q | q | q <;> rw [q]
    · exact s1
    · exact s2
    · exact s3
    · exact s4
    · exact s5
    · exact s6
  · rw [z _ _ (by omega) (by omega) (by omega), WZ.z (by omega) (by omega) (by omega)]
  · rw [z _ _ (by omega) (by omega) (by omega), WZ.z (by omega) (by omega) (by omega)]
  · rw [z _ _ (by omega) (by omega) (by omega), WZ.z (by omega) (by omega) (by omega)]
  · rw [z9] at p1; omega
  · exact ⟨⟨by omega, by omega⟩, Or.inl ⟨h5.2.1, rfl, rfl, Or.inl ⟨rfl, h5.2.2⟩⟩⟩
theorem GI.start {S : Int → Int → Int} {T : Int → Int} (h : LV I0 284 K N I P) (h0 : ∀ a k, 4 ≤ a → a < 15 → I0 a k = 0) (p0 : P 4 0 = some 20) (p1 : P 4 1 = some 53) (p5 : ∀ j : Int, 0 ≤ j → j < 6 → P 5 j.toNat = some (86 + 33 * j.toNat)) (ht : GT N I) : GI K N I P 560 WZ S 0 T 0 := by
  obtain ⟨⟨a1, a2, a3, a4, a5, a6, a7, a8, a9, a10, a11, a12, a13, a14, a15⟩, h1, h2, h3, h4, h5, h6⟩ := h
  have z9 : WZ 9 = 0 := rfl
  refine ⟨fun j => 86 + 33 * j.toNat, 10, ⟨⟨a1, p0, p1, a2, a3, a4, a5⟩, ⟨a6, a7, a8, a9, a10, a11, a12, a13, a14, a15⟩, fun j j0 j1 => ⟨p5 j j0 j1, ?_, ?_⟩, fun i j i0 i1 j0 j1 q => ?_, ⟨h1, Or.inl rfl, by omega⟩, by omega, by omega⟩, fun s hs => ?_, ⟨?_, ⟨by omega, by omega⟩, ?_, ⟨by omega, by omega⟩, fun k k0 k1 => by omega⟩, ⟨SD.start (h6 20 (by unfold sN; omega) (by omega)) h2 h4 ht, VG.start, fun p k p0 p1 => ?_⟩, fun j j0 j1 => by omega, fun i j i0 i1 j1 => by omega⟩
  · show sN (86 + 33 * j.toNat); unfold sN; omega
  · show 86 ≤ 86 + 33 * j.toNat; omega
  · replace q : 86 + 33 * i.toNat = 86 + 33 * j.toNat := q
    omega
  · have b := hs.2.1
    have b0 := hs.1
    obtain ⟨g1, g2, g3, g4, g5, g6⟩ := h6 s hs (by omega)
    refine ⟨g1, g2, fun a q1 q2 => ⟨Or.inl (g6 a 5 (by omega) q2 (by omega) (Or.inr ⟨by omega, by omega⟩)), Or.inl (g6 a 6 (by omega) q2 (by omega) (Or.inr ⟨by omega, by omega⟩))⟩, ⟨_, g4⟩, 15, g3, Or.inr rfl, by omega, by omega⟩
  · rw [h3 4 (by omega)]; exact h0 4 3 (by omega) (by omega)
  · rw [h3 8 (by omega)]; exact h0 8 1 (by omega) (by omega)
  · rw [z9] at p1; omega
end
