theorem v_u_comm {W : Int → Int} {i j x y : Int} (h : ¬ i = j) : v_u (v_u W i x) j y = v_u (v_u W j y) i x := by
  funext k
  unfold v_u
  by_cases a : k = j
  · rw [if_pos a, if_neg (by omega), if_pos a]
  · rw [if_neg a]
    by_cases b : k = i
    · rw [if_pos b, if_pos b]
    · rw [if_neg b, if_neg b, if_neg a]
theorem v_u_id {W : Int → Int} {i : Int} : v_u W i (W i) = W := by
  funext k
  unfold v_u
  split
  · rename_i h; rw [h]
  · rfl
section
variable {d : Nat} {K N : Nat → Nat} {I I' : Nat → Nat → Int} {P P' : Nat → Nat → Option Nat} {z : Nat} {Q : am_V → am_T} {W W' W0 L0 : Int → Int} {s : Nat} {m m0 : Int} {L : Int → Int} {π π0 : Int → Nat}
theorem SM.lv (hM : SM K N I P s W m L π m0 W0 L0 π0) (g9 : W 9 ≤ 300) {i f : Int} (i0 : 0 ≤ i) (i1 : i < m) (hf : ¬ f = 0) (hP : ∀ a, ¬ a = s + 6 → P' a = P a) (hI : SI P' s (v_rot π i m)) (hlo : ∀ p, 0 ≤ p → p < W 9 → v_lo (v_u W (800 + L i) f) p = v_lo W p) : SM K N (am_u2 (am_u2 I (π i) 3 f) s 6 (m - 1)) P' s (v_u W (800 + L i) f) (m - 1) (v_rot L i m) (v_rot π i m) m0 W0 L0 π0 := by
  obtain ⟨hS, hA, hD, hO⟩ := hM
  have hm := hS.m2
  have o := hS.b.on i0 i1
  refine ⟨hS.lv g9 i0 i1 hf hP hI, fun j a b => ?_, hD.lv hS g9 i0 i1 hf (hO _ o.1 o.2.1 o.2.2), fun p a b c => ?_⟩
  · have key : ∀ k : Int, 0 ≤ k → k < m → am_u2 (am_u2 I (π i) 3 f) s 6 (m - 1) (π k) 11 = v_lo (v_u W (800 + L i) f) (L k) := by
      intro k k0 k1
      have ok := hS.b.on k0 k1
      rw [hlo _ ok.1 ok.2.1, am_u2_o (by omega), am_u2_o (by omega)]
      exact hA k k0 k1
    rcases (show j < i ∨ i ≤ j by omega) with q | q
    · rw [v_rot_a q (by omega), v_rot_a q (by omega)]; exact key j a (by omega)
    · rw [v_rot_b q (by omega), v_rot_b q (by omega)]; exact key (j + 1) (by omega) (by omega)
  · rw [v_un (by omega)] at b
    by_cases e : p = L i
    · subst e; rw [v_us] at c; exact (hf c).elim
    · rw [v_un (by omega)] at c; exact hO p a b c
theorem SM.pt (hM : SM K N I P s W m L π m0 W0 L0 π0) (g9 : W 9 ≤ 300) {i : Int} (i0 : 0 ≤ i) (i1 : i < m) (hI : ∀ a, ¬ a = π i → I' a = I a) (h11 : I' (π i) 11 = I (π i) 11) (hW : ∀ j : Int, 0 ≤ j → ¬ v_cl (L i) j → W' j = W j) (hp : PC I' (π i) W' (L i)) (hlo : ∀ p, 0 ≤ p → p < W 9 → v_lo W' p = v_lo W p) : SM K N I' P s W' m L π m0 W0 L0 π0 := by
  obtain ⟨hS, hA, hD, hO⟩ := hM
  have o := hS.b.on i0 i1
  refine ⟨hS.pt g9 i0 i1 hI hW hp, fun j a b => ?_, hD.pt hS g9 i0 i1 hI hW, fun p a b c => ?_⟩
  · have oj := hS.b.on a b
    rw [hlo _ oj.1 oj.2.1, ← hA j a b]
    by_cases e : j = i
    · subst e; exact h11
    · rw [hI _ (hS.ne i0 (by have := hS.m2; omega) a (by have := hS.m2; omega) e)]
  · rw [hW 9 (by omega) (by simp only [v_cl]; omega)] at b
    rw [hW _ (by omega) (by simp only [v_cl]; omega)] at c
    exact hO p a b c
theorem SM.ln (hM : SM K N I P s W m L π m0 W0 L0 π0) (g9 : W 9 ≤ 300) (hI : ∀ a k, (s + 13 ≤ a ∧ a < s + 33) ∨ (a = s ∧ k = 6) → I' a k = I a k) (hc : SC I' s W') (hW : ∀ j : Int, j = 9 ∨ 200 ≤ j → W' j = W j) (hlo : ∀ p, 0 ≤ p → p < W 9 → v_lo W' p = v_lo W p) : SM K N I' P s W' m L π m0 W0 L0 π0 := by
  obtain ⟨hS, hA, hD, hO⟩ := hM
  refine ⟨hS.ln g9 hI hc hW, fun j a b => ?_, hD.ln hS hI hW, fun p a b c => ?_⟩
  · have oj := hS.b.on a b
    have bj := hS.i.bd a (show j < 20 by have := hS.m2; omega)
    rw [hlo _ oj.1 oj.2.1, ← hA j a b]
    exact hI _ _ (Or.inl bj)
  · rw [hW 9 (Or.inl rfl)] at b
    rw [hW _ (by omega)] at c
    exact hO p a b c
/-- one part is tried -/
theorem cs_step (hd : 4 ≤ d) (hM : SM K N I P s W m L π m0 W0 L0 π0) (hG : v_G W) {i t : Int} (i0 : 0 ≤ i) (i1 : i < m) (t0 : 0 < t) (t1 : t ≤ 20)
    (h1 : (v_try W (L i)) (800 + L i) = 0 → ∀ I', SF s I I' → SM K N I' P s (v_try W (L i)) m L π m0 W0 L0 π0 → L_X6_divertParts_7 d s (i + 1) (t - 1) K N I' P z Q)
    (h2 : ¬ (v_try W (L i)) (800 + L i) = 0 → ∀ I' P', SF s I I' → (∀ a, ¬ a = s + 6 → P' a = P a) → SM K N I' P' s (v_try W (L i)) (m - 1) (v_rot L i m) (v_rot π i m) m0 W0 L0 π0 → L_X6_divertParts_7 d s i (t - 1) K N I' P' z Q) : L_X6_divertParts_7 d s i t K N I P z Q := by
  have hS := hM.1
  have hm := hS.m2
  have o := hS.b.on i0 i1
  have g9 := hG.n9
  have g7 := hG.l7
  have bi := hS.i.bd i0 (show i < 20 by omega)
  have bl := hG.lo (p := L i)
  have sm := v_try_same hG o.1 (show L i < 300 by omega)
  have lo : ∀ p, 0 ≤ p → p < W 9 → v_lo (v_try W (L i)) p = v_lo W p := fun p a b => hG.lo_cg sm a (by omega)
  have e3 := hS.p.2.2.2.1
  refine wf_X6_divertParts_7 (by omega) ⟨fun q => absurd q (by omega), fun _ => ⟨hS.k.1, ?_⟩⟩
  rw [am_wE (x := i + 1) (by omega) (by omega), am_wE (x := t + -1) (by omega) (by omega), show t + -1 = t - 1 by omega]
  refine cs_diverts (by omega) hS hM.2.1 hG i0 i1 rfl ?_ ?_ ?_
  · intro hc
    have e : v_try W (L i) = W := by unfold v_try; rw [if_neg (fun q => by rcases hc with r | r; exact q.2.1 r; exact r q.2.2)]
    rw [e] at h1
    exact ⟨fun _ => h1 o.2.2 I SF.rf hM, fun q => absurd rfl q⟩
  · intro c1 c2 c3
    have e : v_try W (L i) = v_u W (2600 + L i) (if v_clr W (L i) then 6 else 5) := by
      unfold v_try
      rw [if_pos ⟨o.2.2, c1, c2⟩]
      unfold v_att
      rw [if_neg c3]
    rw [e] at h1 lo
    refine ⟨fun _ => h1 (by rw [v_un (by omega)]; exact o.2.2) _ (SF.rf.put (by omega)) ?_, fun q => absurd rfl q⟩
    generalize (if v_clr W (L i) then (6 : Int) else 5) = x at *
    refine hM.pt (by omega) i0 i1 (fun a ha => am_u2_ne ha) (am_u2_o (by omega)) (fun j j0 hj => v_un (by simp only [v_cl] at hj; omega)) ?_ lo
    obtain ⟨e0, e1, e2, e3, e4, e5, e6, e7, e8, e9, e10⟩ := hS.t i i0 i1
    have f : ∀ k, ¬ k = 9 → am_u2 I (π i) 9 x (π i) k = I (π i) k := fun k hk => am_u2_o (by omega)
    have g : ∀ c : Int, ¬ c = 2600 → v_u W (2600 + L i) x (c + L i) = W (c + L i) := fun c hc => v_un (by omega)
    unfold PC
    rw [f 0 (by omega), f 1 (by omega), f 2 (by omega), f 3 (by omega), f 4 (by omega), f 5 (by omega), f 6 (by omega), f 7 (by omega), f 8 (by omega), f 10 (by omega), am_u2_s, g 200 (by omega), g 500 (by omega), g 800 (by omega), g 1100 (by omega), g 1400 (by omega), g 1700 (by omega), g 2000 (by omega), g 2300 (by omega), g 2900 (by omega), v_us]
    exact ⟨e0, e1, e2, e3, e4, e5, e6, e7, e8, rfl, e10⟩
  · intro c1 c2 c3
    have ha : I (π i) 11 = v_lo W (L i) := hM.2.1 i i0 i1
    generalize hl : v_lo W (L i) = l at *
    have l0 : 0 ≤ l := by omega
    have l1 : l < W 7 := by omega
    have e : v_try W (L i) = v_u (v_u (v_u W (34 + l) (W (34 + l) + 1)) (40 + l) (am_wr (W (40 + l) + 1))) (800 + L i) (10 + l) := by
      unfold v_try
      rw [hl, if_pos ⟨o.2.2, c1, c2⟩]
      unfold v_att
      rw [if_pos c3, v_u_comm (i := 800 + L i) (j := 34 + l) (by omega), v_u_comm (i := 800 + L i) (j := 40 + l) (by omega)]
    rw [e] at h2 lo
    have h2 := h2 (by rw [v_us]; omega)
    have ce := hS.c.ln (i := l) l0 (by omega)
    generalize am_wr (W (40 + l) + 1) = x at *
    have hM2 : SM K N (am_u2 (am_u2 I (s + 7 + l.toNat) 3 (W (34 + l) + 1)) (s + 7 + l.toNat) 4 x) P s (v_u (v_u W (34 + l) (W (34 + l) + 1)) (40 + l) x) m L π m0 W0 L0 π0 := by
      refine hM.ln (by omega) (fun a k hk => by rw [am_u2_o (by omega), am_u2_o (by omega)]) ?_ (fun j hj => by rw [v_un (by omega), v_un (by omega)]) ?_
      · refine hS.c.lane (l := l) l0 (by omega) (fun a k x y e1 e2 => by rw [am_u2_o (by omega), am_u2_o (by omega)]) ?_ (fun j a b c => by rw [v_un (by omega), v_un (by omega)])
        intro k k0 k1
        rcases (show k = 3 ∨ k = 4 ∨ (¬ k = 3 ∧ ¬ k = 4) by omega) with q | q | q
        · subst q
          rw [am_u2_o (by omega), v_un (by omega), show (16 : Int) + 6 * 3 + l = 34 + l by omega, v_us]
          exact am_u2_s
        · subst q
          rw [show (16 : Int) + 6 * 4 + l = 40 + l by omega, v_us]
          exact am_u2_s
        · rw [am_u2_o (by omega), am_u2_o (by omega), v_un (by omega), v_un (by omega)]
          exact hS.c.2.2.1 l k l0 (by omega) k0 k1
      · intro p a b
        refine hG.lo_cg (fun j a b c e => ?_) a (by omega)
        rw [v_un (by omega), v_un (by omega)]
    refine ⟨fun q => absurd q (by decide), fun _ => ⟨hS.k.1, s + 6, e3, hS.k.2.2.2.2.2.2.2.2.2.2.1, by rw [hS.k.2.2.2.2.2.2.2.2.2.2.2.1]; omega, π i, hS.i.pl i0 (by omega), hS.kp i0 (by omega), ?_⟩⟩
    rw [am_u2_o (by omega), am_u2_o (by omega), ha, am_wE (x := 10 + l) (by omega) (by omega)]
    refine cs_leave hS.k e3 hS.i hM2.1.ob i0 i1 hm.2 ?_
    intro P' hP hI
    have e9 : (v_u (v_u W (34 + l) (W (34 + l) + 1)) (40 + l) x) 9 = W 9 := by rw [v_un (by omega), v_un (by omega)]
    refine h2 _ P' ((((SF.rf.put (by omega)).put (by omega)).put (by omega)).put (by omega)) hP (hM2.lv (by omega) i0 i1 (by omega) hP hI (fun p a b => ?_))
    rw [e9] at b
    rw [lo p a b]
    exact (hG.lo_cg (fun j a b c e => by rw [v_un (by omega), v_un (by omega)]) a (by omega)).symm
theorem v_s2_skip {W : Int → Int} {a : Nat} : ∀ k : Nat, (∀ q : Int, (a : Int) ≤ q → q < a + k → ¬ (v_s2 W a) (800 + q) = 0) → v_s2 W (a + k) = v_s2 W a
  | 0, _ => rfl
  | k + 1, h => by
    have ih := v_s2_skip (W := W) (a := a) k (fun q x y => h q x (by omega))
    show v_try (v_s2 W (a + k)) ((a + k : Nat) : Int) = _
    rw [ih]
    unfold v_try
    rw [if_neg (fun q => h ((a + k : Nat) : Int) (by omega) (by omega) q.1)]
theorem cs_divert (hd : 5 ≤ d) (hM : SM K N I P s W m L π m0 W0 L0 π0) (hG : v_G W) (h : ∀ I' P' m' L' π', SF s I I' → (∀ a, ¬ a = s + 6 → P' a = P a) → SM K N I' P' s (v_s2 W (W 9).toNat) m' L' π' m0 W0 L0 π0 → Q am_nl K N I' P' z) : am_C d m_X6_divertParts [am_r s] K N I P z Q am_nx := by
  have g9 := hG.n9
  have key : ∀ (t : Nat) (i : Int) (n : Nat) (I' : Nat → Nat → Int) (P' : Nat → Nat → Option Nat) (m' : Int) (L' : Int → Int) (π' : Int → Nat), 0 ≤ i → i + t = m' → (n : Int) ≤ W 9 → SF s I I' → (∀ a, ¬ a = s + 6 → P' a = P a) → SM K N I' P' s (v_s2 W n) m' L' π' m0 W0 L0 π0 → (∀ k, 0 ≤ k → k < i → L' k < n) → (∀ k, i ≤ k → k < m' → (n : Int) ≤ L' k) → L_X6_divertParts_7 d s i t K N I' P' z Q := by
    intro t
    induction t with
    | zero =>
      intro i n I' P' m' L' π' i0 i1 hn hF hP hM ha hb
      refine wf_X6_divertParts_7 (by omega) ⟨fun _ => ?_, fun q => absurd q (by omega)⟩
      have e := v_s2_skip (W := W) (a := n) ((W 9).toNat - n) ?_
      · rw [show n + ((W 9).toNat - n) = (W 9).toNat by omega] at e
        rw [← e] at hM
        exact h I' P' m' L' π' hF hP hM
      · intro q a b c
        have e9 := (v_s2_G hG n hn).2.n9
        obtain ⟨k, k0, k1, k2⟩ := hM.1.b.ex (p := q) (by omega) (by rw [e9]; omega) c
        have := ha k k0 (by omega)
        omega
    | succ t ih =>
      intro i n I' P' m' L' π' i0 i1 hn hF hP hM ha hb
      obtain ⟨hV, sV⟩ := v_s2_G hG n hn
      have e9 := sV.n9
      have o := hM.1.b.on i0 (show i < m' by omega)
      have hm := hM.1.m2
      have bn := hb i (by omega) (by omega)
      have e := v_s2_skip (W := W) (a := n) ((L' i).toNat - n) ?_
      · rw [show n + ((L' i).toNat - n) = (L' i).toNat by omega] at e
        have e2 : v_try (v_s2 W n) (L' i) = v_s2 W ((L' i).toNat + 1) := by
          show _ = v_try (v_s2 W (L' i).toNat) (((L' i).toNat : Nat) : Int)
          rw [e, show (((L' i).toNat : Nat) : Int) = L' i by omega]
        have ht : (((t + 1 : Nat) : Int)) - 1 = t := by omega
        refine cs_step (by omega) hM hV i0 (by omega) (by omega) (by omega) ?_ ?_
        · intro c I2 f2 hM2
          rw [e2] at hM2
          rw [ht]
          refine ih (i + 1) ((L' i).toNat + 1) I2 P' m' L' π' (by omega) (by omega) (by omega) (hF.tr f2) hP hM2 (fun k a b => ?_) (fun k a b => ?_)
          · rcases (show k < i ∨ k = i by omega) with r | r
            · have := hM.1.b.lt a r (by omega); omega
            · subst r; omega
          · have := hM.1.b.lt i0 (show i < k by omega) b; omega
        · intro c I2 P2 f2 p2 hM2
          rw [e2] at hM2
          rw [ht]
          refine ih i ((L' i).toNat + 1) I2 P2 _ _ _ i0 (by omega) (by omega) (hF.tr f2) (fun a ha => (p2 a ha).trans (hP a ha)) hM2 (fun k a b => ?_) (fun k a b => ?_)
          · rw [v_rot_a b (by omega)]
            have := hM.1.b.lt a b (by omega); omega
          · rw [v_rot_b a b]
            have := hM.1.b.lt i0 (show i < k + 1 by omega) (by omega); omega
      · intro q a b c
        obtain ⟨k, k0, k1, k2⟩ := hM.1.b.ex (p := q) (by omega) (by omega) c
        rcases (show k < i ∨ i ≤ k by omega) with r | r
        · have := ha k k0 r; omega
        · rcases (show k = i ∨ i < k by omega) with r2 | r2
          · subst r2; omega
          · have := hM.1.b.lt i0 r2 k1; omega
  have hm := hM.1.m2
  have tm := hM.1.ob
  refine wf_X6_divertParts ⟨hM.1.k.1, ?_⟩
  rw [tm, show m = ((m.toNat : Nat) : Int) by omega]
  exact key m.toNat 0 0 I P m L π (by omega) (by omega) (by omega) SF.rf (fun _ _ => rfl) hM (fun k a b => absurd b (by omega)) (fun k a b => by have := (hM.1.b.on a b).1; omega)
end
