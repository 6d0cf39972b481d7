/-! TWO SORTERS: the numbers 4 to 283 are the first one's, 284 to 563 the second one's; sw changes them over. What is so of the abstract machine is so of it with the numbers changed over. -/
def sw (a : Nat) : Nat := if 4 ≤ a ∧ a < 284 then a + 280 else if 284 ≤ a ∧ a < 564 then a - 280 else a
theorem sw_sw (a : Nat) : sw (sw a) = a := by
  unfold sw
  repeat' split
  all_goals omega
theorem sw_lt {a z : Nat} (hz : 560 ≤ z) (h : a < z + 4) : sw a < z + 4 := by
  unfold sw
  repeat' split
  all_goals omega
theorem sw_4 {a : Nat} (h : 4 ≤ a) : 4 ≤ sw a := by
  unfold sw
  repeat' split
  all_goals omega
theorem sw_lo {a : Nat} (h : a < 4) : sw a = a := by
  unfold sw
  rw [if_neg (by omega), if_neg (by omega)]
theorem sw_hi {a : Nat} (h : 564 ≤ a) : sw a = a := by
  unfold sw
  rw [if_neg (by omega), if_neg (by omega)]
theorem sw_in {a : Nat} (h : 4 ≤ a) (h1 : a < 284) : sw a = a + 280 := by
  unfold sw
  rw [if_pos ⟨h, h1⟩]
theorem sw_out {a : Nat} (h : 284 ≤ a) (h1 : a < 564) : sw a = a - 280 := by
  unfold sw
  rw [if_neg (by omega), if_pos ⟨h, h1⟩]
def sK (K : Nat → Nat) : Nat → Nat := fun a => K (sw a)
def sI (I : Nat → Nat → Int) : Nat → Nat → Int := fun a => I (sw a)
def sP (P : Nat → Nat → Option Nat) : Nat → Nat → Option Nat := fun a k => (P (sw a) k).map sw
def sV : am_V → am_V
  | .inr (.inr (.ref a)) => .inr (.inr (.ref (sw a)))
  | v => v
theorem sK_sK (K : Nat → Nat) : sK (sK K) = K := by funext a; unfold sK; rw [sw_sw]
theorem sI_sI (I : Nat → Nat → Int) : sI (sI I) = I := by funext a; unfold sI; rw [sw_sw]
theorem sP_sP (P : Nat → Nat → Option Nat) : sP (sP P) = P := by
  funext a k
  unfold sP
  rw [sw_sw]
  cases P a k with
  | none => rfl
  | some b => simp [sw_sw]
theorem sV_cv (ρ : Nat → Nat) (v : am_V) : am_cv (fun a => ρ (sw a)) (sV v) = am_cv ρ v := by
  rcases v with x | x | x
  · rfl
  · rfl
  · cases x <;> first | rfl | (show Value.ref (ρ (sw (sw _))) = _; rw [sw_sw]; rfl)
theorem sV_ok {z : Nat} (hz : 560 ≤ z) {v : am_V} (h : am_ok z v) : am_ok z (sV v) := by
  rcases v with x | x | x
  · exact h
  · exact h
  · cases x <;> first | exact h | exact sw_lt hz h
theorem sV_i (x : Int) : sV (am_i x) = am_i x := rfl
theorem am_ent_sw (cA : Nat → ClassId) (ρ K N : Nat → Nat) (I : Nat → Nat → Int) (P : Nat → Nat → Option Nat) (a : Nat) : am_ent cA (fun a => ρ (sw a)) (sK K) (sK N) (sI I) (sP P) a = am_ent cA ρ K N I P (sw a) := by
  have e : ∀ k, (sP P a k).map (fun a => ρ (sw a)) = (P (sw a) k).map ρ := by
    intro k
    unfold sP
    cases P (sw a) k with
    | none => rfl
    | some b => simp [sw_sw]
  unfold am_ent am_fl am_fv
  simp only [e]
  rfl
theorem am_rep_sw {B : Nat} {D : va_G} {cA : Nat → ClassId} {ρ0 N0 : Nat → Nat} {I0 : Nat → Nat → Int} {ρ K N : Nat → Nat} {I : Nat → Nat → Int} {P : Nat → Nat → Option Nat} {z : Nat} {H : Heap} (hz : 560 ≤ z) (h : am_rep B D cA ρ0 N0 I0 ρ K N I P z H) : am_rep B D cA ρ0 N0 I0 (fun a => ρ (sw a)) (sK K) (sK N) (sI I) (sP P) z H := by
  obtain ⟨h1, ⟨h2, h3⟩, h4, h5, h6, h7, h8⟩ := h
  have g : ∀ (k : Nat) (q : Nat × va_E), (am_ws cA (fun a => ρ (sw a)) (sK K) (sK N) (sI I) (sP P) z)[k]? = some q → k < z ∧ q.1 = ρ (sw (k + 4)) ∧ (am_ws cA ρ K N I P z)[sw (k + 4) - 4]? = some q := by
    intro k q hq
    have hk : k < z := by
      have := (List.getElem?_eq_some_iff.mp hq).1
      rwa [am_ws_len] at this
    have e := am_ws_at (cA := cA) (ρ := fun a => ρ (sw a)) (K := sK K) (N := sK N) (I := sI I) (P := sP P) (z := z) (a := k + 4) (by omega) (by omega)
    rw [show k + 4 - 4 = k by omega, hq] at e
    have e2 := Option.some.inj e
    rw [am_ent_sw] at e2
    refine ⟨hk, by rw [e2], ?_⟩
    rw [am_ws_at (sw_4 (by omega)) (sw_lt hz (by omega)), e2]
  refine ⟨fun k q hq => h1 _ q (g k q hq).2.2, ⟨fun i j p q hp hq e => ?_, fun k q hq => h3 _ q (g k q hq).2.2⟩, fun a a0 a1 => h4 (sw a) (sw_4 a0) (sw_lt hz a1), fun a a0 => ?_, fun a a0 => ?_, fun a k => h7 (sw a) k, fun a k b hb => ?_⟩
  · have gp := g i p hp
    have gq := g j q hq
    have e3 := h2 _ _ p q gp.2.2 gq.2.2 e
    have e4 : sw (i + 4) = sw (j + 4) := by
      have a1 := sw_4 (a := i + 4) (by omega)
      have a2 := sw_4 (a := j + 4) (by omega)
      omega
    have e5 := congrArg sw e4
    rw [sw_sw, sw_sw] at e5
    omega
  · obtain ⟨q1, q2, q3⟩ := h5 a a0
    refine ⟨?_, fun k => ?_, fun k => ?_⟩
    · show K (sw a) = 99
      rw [sw_hi (by omega)]; exact q1
    · show I (sw a) k = 0
      rw [sw_hi (by omega)]; exact q2 k
    · show (P (sw a) k).map sw = none
      rw [sw_hi (by omega), q3 k]; rfl
  · obtain ⟨q1, q2, q3, q4⟩ := h6 a a0
    refine ⟨?_, ?_, ?_, fun k => ?_⟩
    · show K (sw a) = 15
      rw [sw_lo a0]; exact q1
    · show ρ (sw a) = _
      rw [sw_lo a0]; exact q2
    · show N (sw a) = _
      rw [sw_lo a0]; exact q3
    · show I (sw a) k = _
      rw [sw_lo a0]; exact q4 k
  · have hb : (P (sw a) k).map sw = some b := hb
    obtain ⟨c, hc, rfl⟩ := Option.map_eq_some_iff.mp hb
    exact sw_lt hz (h8 _ _ _ hc)
theorem am_rv_sw (ret : Option FieldType) (ρ : Nat → Nat) (v : am_V) : am_rv ret (fun a => ρ (sw a)) (sV v) = am_rv ret ρ v := by
  cases ret with
  | none => rfl
  | some _ => exact congrArg some (sV_cv ρ v)
/-- a call with the numbers changed over -/
theorem am_C_sw {d : Nat} {M : am_M} {vs : List am_V} {K N : Nat → Nat} {I : Nat → Nat → Int} {P : Nat → Nat → Option Nat} {z : Nat} {Q Q' : am_V → am_T} {X X' : Nat → am_T} (hz : 560 ≤ z) (h : am_C d M (vs.map sV) (sK K) (sK N) (sI I) (sP P) z Q' X') (hQ : ∀ v K N I P z, Q' v K N I P z → Q (sV v) (sK K) (sK N) (sI I) (sP P) z) (hX : ∀ e K N I P z, X' e K N I P z → X e (sK K) (sK N) (sI I) (sP P) z) : am_C d M vs K N I P z Q X := by
  intro l B D cA ρ0 N0 I0 ρ hl p e h1 h2 h3 s m args below h4 h5 h6 h7
  obtain ⟨p1, p2, p3, p4⟩ := h6
  have h6' : am_Pc B D cA ρ0 N0 I0 (vs.map sV) (sK K) (sK N) (sI I) (sP P) z (fun a => ρ (sw a)) args s := by
    refine ⟨?_, p2, am_rep_sw hz p3, fun v hv => ?_⟩
    · rw [p1, List.map_map]
      congr 1
      exact List.map_congr_left (fun v _ => (sV_cv ρ v).symm)
    · obtain ⟨w, hw, rfl⟩ := List.mem_map.mp hv
      exact sV_ok hz (p4 w hw)
  have back : ∀ (ρ9 : Nat → Nat), (∀ a, a < z + 4 → ρ9 a = ρ (sw a)) → ∀ a, a < z + 4 → ρ9 (sw a) = ρ a := fun ρ9 h9 a ha => by rw [h9 _ (sw_lt hz ha), sw_sw]
  obtain ⟨k, o, g1, g2, g3, g4⟩ := h l B D cA ρ0 N0 I0 (fun a => ρ (sw a)) hl p e h1 h2 h3 s m args below h4 h5 h6' h7
  refine ⟨k, o, g1, g2, g3, ?_⟩
  rcases g4 with ⟨⟨v, K9, N9, I9, P9, z9, ρ9, a1, a2, a3, a4, a5, a6, a7⟩, b⟩ | ⟨q, hq, E, ce, L, ⟨ee, K9, N9, I9, P9, z9, ρ9, a1, a2, a3, a4, a5, a6⟩, b⟩
  · exact Or.inl ⟨⟨sV v, sK K9, sK N9, sI I9, sP P9, z9, fun a => ρ9 (sw a), by rw [am_rv_sw]; exact a1, hQ _ _ _ _ _ _ a2, am_rep_sw (by omega) a3, back ρ9 a4, a5, sV_ok (by omega) a6, a7⟩, b⟩
  · exact Or.inr ⟨q, hq, E, ce, L, ⟨ee, sK K9, sK N9, sI I9, sP P9, z9, fun a => ρ9 (sw a), a1, hX _ _ _ _ _ _ a2, am_rep_sw (by omega) a3, back ρ9 a4, a5, a6⟩, b⟩
