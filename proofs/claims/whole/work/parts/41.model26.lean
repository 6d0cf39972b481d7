section
variable {d : Nat} {K N : Nat → Nat} {I I1 : Nat → Nat → Int} {P : Nat → Nat → Option Nat} {z : Nat} {Q : am_V → am_T} {W : Int → Int} {S : Int → Int → Int} {c : Int} {T : Int → Int} {n : Int}
theorem PM.fe4 {I : Nat → Nat → Int} {a o m : Int} {H : Int → Int} (h : PM I a o m H) {k : Nat} {x : Int} (hk : ¬ k = 9 ∧ ¬ k = 10 ∧ ¬ k = 13) : PM (am_u2 I 284 k x) a o m H := ⟨(am_u2_o (by omega)).trans h.1, (am_u2_o (by omega)).trans h.2.1, (am_u2_o (by omega)).trans h.2.2.1, fun j x y => (am_u2_o (by omega)).trans (h.2.2.2 j x y)⟩
theorem PM.aw {I : Nat → Nat → Int} {a o m : Int} {H : Int → Int} (h : PM I a o m H) {x : Int} : PM (am_u2 I 284 9 x) x o m H := ⟨am_u2_s, (am_u2_o (by omega)).trans h.2.1, (am_u2_o (by omega)).trans h.2.2.1, fun j x y => (am_u2_o (by omega)).trans (h.2.2.2 j x y)⟩
theorem sp_takesRule (hd : 2 ≤ d) (hm : MS K N P) {o : Nat} (ho : o ≤ 6) {a m x : Int} {H : Int → Int} (hp : PM I a o m H) (hH : ∀ k : Int, 0 ≤ k → k < o → 0 ≤ H k ∧ H k ≤ 1) (hm0 : 0 ≤ m ∧ m ≤ 1000)
    (h1 : x = 120 ∨ (48 ≤ x ∧ x ≤ 53) → ∀ I', FE I I' → PM I' (v_er o H).1 (v_er o H).2.1 m (v_er o H).2.2 → Q (am_i 1) K N I' P z)
    (h2 : x = 63 → o < 6 → ∀ I', FE I I' → PM I' 1 ((o + 1 : Nat) : Int) (m + 1) (v_u H o 0) → Q (am_i 1) K N I' P z)
    (h3 : ¬ (x = 120 ∨ (48 ≤ x ∧ x ≤ 53)) → ¬ (x = 63 ∧ o < 6) → Q (am_i 0) K N I P z) : am_C d m_X8_takesRule [am_r 284, am_i x] K N I P z Q am_nx := by
  refine wf_X8_takesRule (by omega) (sp_in ?_)
  simp only [am_iv, ite_z]
  refine ⟨fun q => ⟨hm.1, wf_X8_endRule (sp_endRule (by omega) hm o ho hp hH (fun I' f1 f2 => h1 (Or.inr (Decidable.not_not.mp q)) I' f1 f2))⟩, fun q => ⟨fun c1 => ⟨fun c2 => ?_, fun c2 => ?_⟩, fun c1 => ⟨hm.1, wf_X8_endRule (sp_endRule (by omega) hm o ho hp hH (fun I' f1 f2 => h1 (Or.inl c1) I' f1 f2))⟩⟩⟩
  · exact h3 (by omega) (by omega)
  · obtain ⟨q1, q2, q3, q4⟩ := hp
    refine ⟨hm.1, fun c3 => ?_, fun c3 => h3 (by omega) (by omega)⟩
    obtain ⟨k0, p0, p1, p2, p3, p4, k1, n1, k2, n2, k3, n3, k4, n4, k5, n5⟩ := id hm
    simp (disch := omega) only [k0, p0, p1, p2, p3, p4, k1, n1, k2, n2, k3, n3, k4, n4, k5, n5, true_and, and_true, Option.some.injEq, exists_eq_left', am_wE, and_dr, imp_dr, imp_df, true_imp_iff, false_imp_iff, not_true_eq_false, not_false_eq_true, forall_eq, am_u2_o, q2, q3, am_u2_s]
    have e : ((o : Nat) : Int) + 1 = ((o + 1 : Nat) : Int) := by omega
    rw [e]
    refine h2 c2 (by omega) _ (((FE.rf.p9.p4 (by omega)).p4 (by omega)).p4 (by omega)) ⟨am_u2_s, (am_u2_o (by omega)).trans ((am_u2_o (by omega)).trans am_u2_s), (am_u2_o (by omega)).trans am_u2_s, ?_⟩
    intro k x y
    rw [am_u2_o (by omega), am_u2_o (by omega), am_u2_o (by omega)]
    unfold v_u
    by_cases f : k = o
    · rw [if_pos f, f, am_u2_s]
    · rw [if_neg f, am_u2_o (by omega)]; exact q4 k x (by omega)
theorem sp_takesNumber (hd : 1 ≤ d) (hm : MS K N P) {a o m x g v : Int} {H : Int → Int} (hp : PM I a o m H) (hg : I 284 11 = g) (hv : I 284 12 = v) (hg0 : 0 ≤ g ∧ g ≤ 3) (hv0 : ¬ g = 0 → 0 ≤ v ∧ v ≤ 999)
    (h1 : 48 ≤ x ∧ x ≤ 57 → g < 3 → ∀ I', FE I I' → PM I' a o m H → I' 284 11 = g + 1 → I' 284 12 = (if g = 0 then 0 else 10 * v) + x - 48 → Q (am_i 1) K N I' P z)
    (h2 : 48 ≤ x ∧ x ≤ 57 → g = 3 → ∀ I', FE I I' → Q (am_i 0) K N I' P z)
    (h3 : ¬ (48 ≤ x ∧ x ≤ 57) → ¬ g = 0 → x = (if a = 3 then 44 else 59) → ¬ (a = 3 ∧ v = 0) → ∀ I', FE I I' → PM I' (if a = 3 then 4 else 0) o m H → I' 284 11 = 0 → Q (am_i 1) K N I' P z)
    (h4 : ¬ (48 ≤ x ∧ x ≤ 57) → ¬ (¬ g = 0 ∧ x = (if a = 3 then 44 else 59) ∧ ¬ (a = 3 ∧ v = 0)) → Q (am_i 0) K N I P z) : am_C d m_X8_takesNumber [am_r 284, am_i x] K N I P z Q am_nx := by
  refine wf_X8_takesNumber (by omega) (sp_in ?_)
  have q1 := hp.1
  simp only [am_iv, ite_z]
  refine ⟨fun q => ⟨hm.1, ?_⟩, fun q => ⟨hm.1, ?_⟩⟩
  · have h3 := h3 q
    have h4 := h4 q
    simp only [q1, hg, hv]
    have e0 : ¬ g = 0 → x = (if a = 3 then 44 else 59) → ¬ (a = 3 ∧ v = 0) → Q (am_i 1) K N (am_u2 (am_u2 I 284 9 (if a = 3 then 4 else 0)) 284 11 0) P z := by
      intro r1 r2 r3
      exact h3 r1 r2 r3 _ ((FE.rf.p4 (by omega)).p4 (by omega)) ((hp.aw).fe4 (by omega)) am_u2_s
    refine ⟨fun r => h4 (fun s => s.1 r), fun r => ⟨fun ca => ⟨fun cx => ?_, fun cx => ⟨fun _ => ⟨fun _ => ?_, fun s => (ca s).elim⟩, fun s => (ca s).elim⟩⟩, fun ca => ⟨fun cx => ?_, fun cx => ⟨fun s => (s ca).elim, fun _ => ⟨fun cv => ⟨fun s => (s ca).elim, fun _ => ?_⟩, fun cv => ?_⟩⟩⟩⟩⟩
    · exact h4 (fun s => cx (by have := s.2.1; rw [if_neg ca] at this; exact this))
    · rintro I8 rfl I9 rfl
      have := e0 r (by rw [if_neg ca]; exact cx) (fun s => ca s.1)
      rw [if_neg ca] at this
      exact this
    · exact h4 (fun s => cx (by have := s.2.1; rw [if_pos ca] at this; exact this))
    · rintro I8 rfl I9 rfl
      have := e0 r (by rw [if_pos ca]; exact cx) (fun s => cv s.2)
      rw [if_pos ca] at this
      exact this
    · exact h4 (fun s => s.2.2 ⟨ca, cv⟩)
  · simp only [Decidable.not_not] at q
    have h1 := h1 q
    have h2 := h2 q
    simp only [hg, hv]
    refine ⟨fun r => ?_, fun r => ?_⟩
    · have b := hv0 r
      rintro I2 rfl I3 rfl
      simp (disch := omega) only [am_u2_o, am_u2_s, hg, am_wE]
      refine ⟨fun s => h2 (by omega) _ ((FE.rf.p4 (by omega)).p4 (by omega)), fun s => h1 (by omega) _ ((FE.rf.p4 (by omega)).p4 (by omega)) ((hp.fe4 (by omega)).fe4 (by omega)) am_u2_s ?_⟩
      rw [am_u2_o (by omega), am_u2_s, if_neg r]
    · rintro I2 rfl I3 rfl
      simp (disch := omega) only [am_u2_o, am_u2_s, hg, am_wE]
      refine ⟨fun s => h2 (by omega) _ ((FE.rf.p4 (by omega)).p4 (by omega)), fun s => h1 (by omega) _ ((FE.rf.p4 (by omega)).p4 (by omega)) ((hp.fe4 (by omega)).fe4 (by omega)) am_u2_s ?_⟩
      rw [am_u2_o (by omega), am_u2_s, if_pos r]; omega
theorem sp_takes0 (hd : 3 ≤ d) (hm : MS K N P) {o : Nat} (ho : o ≤ 6) {m x : Int} {H : Int → Int} (hp : PM I 0 o m H) (hH : ∀ k : Int, 0 ≤ k → k < o → 0 ≤ H k ∧ H k ≤ 1) (hm0 : 0 ≤ m ∧ m ≤ 1000)
    (h1 : x = 120 ∨ (48 ≤ x ∧ x ≤ 53) → ∀ I', FE I I' → PM I' (v_er o H).1 (v_er o H).2.1 m (v_er o H).2.2 → Q (am_i 1) K N I' P z)
    (h2 : x = 63 → o < 6 → ∀ I', FE I I' → PM I' 1 ((o + 1 : Nat) : Int) (m + 1) (v_u H o 0) → Q (am_i 1) K N I' P z)
    (h3 : ¬ (x = 120 ∨ (48 ≤ x ∧ x ≤ 53)) → ¬ (x = 63 ∧ o < 6) → Q (am_i 0) K N I P z) : am_C d m_X8_takes [am_r 284, am_i x] K N I P z Q am_nx := by
  refine wf_X8_takes (by omega) ⟨hm.1, fun q => (q hp.1).elim, fun _ => sp_takesRule (by omega) hm ho hp hH hm0 ?_ ?_ ?_⟩
  · intro r I' f1 f2
    simp only [am_iv]
    exact ⟨by decide, h1 r I' f1 f2⟩
  · intro r r2 I' f1 f2
    simp only [am_iv]
    exact ⟨by decide, h2 r r2 I' f1 f2⟩
  · intro r r2
    simp only [am_iv]
    exact ⟨by decide, h3 r r2⟩
theorem sp_takes1 (hd : 3 ≤ d) (hm : MS K N P) {o m x : Int} {H : Int → Int} (hp : PM I 1 o m H)
    (h1 : x = 109 → ∀ I', FE I I' → PM I' 3 o m H → I' 284 11 = 0 → Q (am_i 1) K N I' P z)
    (h2 : x = 99 ∨ x = 108 → ∀ I', FE I I' → PM I' 2 o m H → I' 284 11 = 0 → Q (am_i 1) K N I' P z)
    (h3 : ¬ x = 109 → ¬ (x = 99 ∨ x = 108) → ∀ I', FE I I' → Q (am_i 0) K N I' P z) : am_C d m_X8_takes [am_r 284, am_i x] K N I P z Q am_nx := by
  have f := fun y : Int => ((FE.rf (I := I)).p4 (k := 9) (x := y) (by omega)).p4 (k := 11) (x := 0) (by omega)
  have g := fun y : Int => (hp.aw (x := y)).fe4 (k := 11) (x := 0) (by omega)
  have q1 := hp.1
  refine wf_X8_takes (by omega) ⟨hm.1, fun _ => ⟨fun q => (q q1).elim, fun _ => ⟨fun c1 => ?_, fun c1 => ?_⟩⟩, fun q => absurd (q1.symm.trans q) (by decide)⟩
  · rintro I8 rfl I9 rfl
    exact ⟨fun c2 => h2 (Or.inl c2) _ (f _) (g _) am_u2_s, fun c2 => ⟨fun c3 => h2 (Or.inr c3) _ (f _) (g _) am_u2_s, fun c3 => ⟨fun _ => h3 c1 (fun q => by rcases q with q | q; exact c2 q; exact c3 q) _ (f _), fun q => (c1 q).elim⟩⟩⟩
  · rintro I8 rfl I9 rfl
    exact ⟨fun c2 => absurd (c1.symm.trans c2) (by decide), fun c2 => ⟨fun c3 => absurd (c1.symm.trans c3) (by decide), fun c3 => ⟨fun q => (q c1).elim, fun _ => h1 c1 _ (f _) (g _) am_u2_s⟩⟩⟩
theorem sp_takesN (hd : 3 ≤ d) (hm : MS K N P) {a o m x g v : Int} {H : Int → Int} (ha : 2 ≤ a ∧ a ≤ 4) (hp : PM I a o m H) (hg : I 284 11 = g) (hv : I 284 12 = v) (hg0 : 0 ≤ g ∧ g ≤ 3) (hv0 : ¬ g = 0 → 0 ≤ v ∧ v ≤ 999)
    (h1 : 48 ≤ x ∧ x ≤ 57 → g < 3 → ∀ I', FE I I' → PM I' a o m H → I' 284 11 = g + 1 → I' 284 12 = (if g = 0 then 0 else 10 * v) + x - 48 → Q (am_i 1) K N I' P z)
    (h2 : 48 ≤ x ∧ x ≤ 57 → g = 3 → ∀ I', FE I I' → Q (am_i 0) K N I' P z)
    (h3 : ¬ (48 ≤ x ∧ x ≤ 57) → ¬ g = 0 → x = (if a = 3 then 44 else 59) → ¬ (a = 3 ∧ v = 0) → ∀ I', FE I I' → PM I' (if a = 3 then 4 else 0) o m H → I' 284 11 = 0 → Q (am_i 1) K N I' P z)
    (h4 : ¬ (48 ≤ x ∧ x ≤ 57) → ¬ (¬ g = 0 ∧ x = (if a = 3 then 44 else 59) ∧ ¬ (a = 3 ∧ v = 0)) → Q (am_i 0) K N I P z) : am_C d m_X8_takes [am_r 284, am_i x] K N I P z Q am_nx := by
  have q1 := hp.1
  have y1 : ∀ I', Q (am_i 1) K N I' P z → am_iv (am_i 1) fun x7 => (x7 = 0 → Q (am_i 0) K N I' P z) ∧ (¬ x7 = 0 → Q (am_i 1) K N I' P z) := fun I' h => ⟨fun q => absurd q (by decide), fun _ => h⟩
  have y0 : ∀ I', Q (am_i 0) K N I' P z → am_iv (am_i 0) fun x7 => (x7 = 0 → Q (am_i 0) K N I' P z) ∧ (¬ x7 = 0 → Q (am_i 1) K N I' P z) := fun I' h => ⟨fun _ => h, fun q => absurd rfl q⟩
  refine wf_X8_takes (by omega) ⟨hm.1, fun _ => ⟨fun _ => ⟨fun q => absurd q (by omega), fun _ => ?_⟩, fun q => absurd q (by omega)⟩, fun q => absurd q (by omega)⟩
  exact sp_takesNumber (by omega) hm hp hg hv hg0 hv0 (fun a b I' f1 f2 f3 f4 => y1 I' (h1 a b I' f1 f2 f3 f4)) (fun a b I' f1 => y0 I' (h2 a b I' f1)) (fun a b e f I' f1 f2 f3 => y1 I' (h3 a b e f I' f1 f2 f3)) (fun a b => y0 I (h4 a b))
end
