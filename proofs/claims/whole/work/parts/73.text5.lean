theorem am_u1_o {f : Nat → Nat} {a x b : Nat} (h : ¬ b = a) : am_u1 f a x b = f b := if_neg h
theorem am_u1_s {f : Nat → Nat} {a x : Nat} : am_u1 f a x a = x := if_pos rfl
section
variable {d : Nat} {K N K' N' : Nat → Nat} {I I' : Nat → Nat → Int} {P P' : Nat → Nat → Option Nat} {z : Nat} {Q : am_V → am_T} {X : Nat → am_T} {W W' V W0 L0 : Int → Int} {S : Int → Int → Int} {c : Int} {T T' : Int → Int} {n n' : Int} {s s2 dr : Nat} {m : Int} {L : Int → Int} {π : Int → Nat}
theorem cu_init {r : Nat} (hd : 1 ≤ d) (kr : K r = 4) (hr : r + 1 = z + 4) (h : ∀ K' N' P', KF z K K' → KF z N N' → (∀ a, ¬ a = r → P' a = P a) → RO K' N' P' r → Q am_nl K' N' I P' (z + 4)) : am_C d m_X4_init [am_r r] K N I P z Q am_nx := by
  refine wf_X4_init hd ⟨by omega, ?_⟩
  rintro K1 N2 b3 z4 rfl rfl rfl rfl
  refine ⟨by rw [am_u1_o (by omega)]; exact kr, ?_⟩
  rintro P7 rfl
  refine ⟨by omega, ?_⟩
  rintro K8 N9 b10 z11 rfl rfl rfl rfl
  refine ⟨by rw [am_u1_o (by omega), am_u1_o (by omega)]; exact kr, ?_⟩
  rintro P14 rfl
  refine ⟨by omega, ?_⟩
  rintro K15 N16 b17 z18 rfl rfl rfl rfl
  refine ⟨by rw [am_u1_o (by omega), am_u1_o (by omega), am_u1_o (by omega)]; exact kr, ?_⟩
  rintro P21 rfl
  refine ⟨by omega, ?_⟩
  rintro K22 N23 b24 z25 rfl rfl rfl rfl
  refine ⟨by rw [am_u1_o (by omega), am_u1_o (by omega), am_u1_o (by omega), am_u1_o (by omega)]; exact kr, ?_⟩
  rintro P28 rfl
  refine ⟨by omega, ?_⟩
  have z80 : Int.toNat 80 = 80 := rfl
  rw [z80]
  have hz : r = z + 3 := by omega
  subst hz
  refine h _ _ _ (fun a ha => ?_) (fun a ha => ?_) (fun a ha => ?_) ⟨?_, ?_, ?_, ?_, ?_, ?_, ?_, ?_, ?_, ?_, ?_, ?_, ?_⟩
  · rw [am_u1_o (by omega), am_u1_o (by omega), am_u1_o (by omega), am_u1_o (by omega)]
  · rw [am_u1_o (by omega), am_u1_o (by omega), am_u1_o (by omega), am_u1_o (by omega)]
  · rw [am_p2_ne ha, am_p2_ne ha, am_p2_ne ha, am_p2_ne ha]
  · rw [am_u1_o (by omega), am_u1_o (by omega), am_u1_o (by omega), am_u1_o (by omega)]; exact kr
  · unfold am_p2; rw [if_neg (by omega), if_neg (by omega), if_neg (by omega), if_pos ⟨rfl, rfl⟩]
  · unfold am_p2; rw [if_neg (by omega), if_neg (by omega), if_pos ⟨rfl, rfl⟩]
  · unfold am_p2; rw [if_neg (by omega), if_pos ⟨rfl, rfl⟩]
  · unfold am_p2; rw [if_pos ⟨rfl, rfl⟩]
  · rw [am_u1_o (by omega), am_u1_o (by omega), am_u1_o (by omega)]; exact am_u1_s
  · rw [am_u1_o (by omega), am_u1_o (by omega), am_u1_o (by omega)]; exact am_u1_s
  · rw [am_u1_o (by omega), am_u1_o (by omega)]; exact am_u1_s
  · rw [am_u1_o (by omega), am_u1_o (by omega)]; exact am_u1_s
  · rw [am_u1_o (by omega)]; exact am_u1_s
  · rw [am_u1_o (by omega)]; exact am_u1_s
  · exact am_u1_s
  · exact am_u1_s
theorem SC.c11 (h : SC I s W) (hW : ∀ i : Int, 0 ≤ i → i < 106 → ¬ i = 11 → W' i = W i) : SC I s W' := by
  obtain ⟨c0, c1, c2, c3, c4, c5, c6, c7⟩ := h
  refine ⟨fun k a b => ?_, ?_, fun i k a b e f => ?_, ?_, fun k a b => ⟨?_, ?_⟩, ?_, ?_, ?_⟩
  · rw [hW _ (by omega) (by omega) (by omega)]; exact c0 k a b
  · rw [hW _ (by omega) (by omega) (by omega)]; exact c1
  · rw [hW _ (by omega) (by omega) (by omega)]; exact c2 i k a b e f
  · rw [hW _ (by omega) (by omega) (by omega)]; exact c3
  · rw [hW _ (by omega) (by omega) (by omega)]; exact (c4 k a b).1
  · rw [hW _ (by omega) (by omega) (by omega)]; exact (c4 k a b).2
  · rw [hW _ (by omega) (by omega) (by omega)]; exact c5
  · rw [hW _ (by omega) (by omega) (by omega)]; exact c6
  · rw [hW _ (by omega) (by omega) (by omega)]; exact c7
theorem cx_load (hd : 20 ≤ d) (h : GI K N I P z W S c T n) (h1 : ¬ v_err (v_sg T n) n = -1 → ∀ I' P', GF I I' → GP P P' → GI K N I' P' z W S c T n → X 2 K N I' P' z)
    (h2 : v_err (v_sg T n) n = -1 → ∀ K' N' I' P' z', KF z K K' → KF z N N' → z' = z + 5 → GF I I' → GP P P' → GI K' N' I' P' z' (v_ld W T n) (v_svS S c W) (v_svc c) T 0 → Q (am_i (v_tr (v_sg T n) 6 0).2.2) K' N' I' P' z') : am_C d m_X7_load [am_r 4] K N I P z Q X := by
  obtain ⟨σ, dr, hA, hB, hC, hD⟩ := h
  obtain ⟨⟨a0, a1, a2, a3, a4, a5, a6⟩, ⟨b0, b1, b2, b3, b4, b5, b6, b7, b8, b9⟩, h3, h4, ⟨h5, h6, h7⟩, h8⟩ := id hA
  refine wf_X7_load (by omega) ⟨a0, 8, a5, dr, a6, b6, ct_parse (by omega) h5 h6 (GI.tx hA hC) (fun e I1 cnt f1 f2 f3 f4 f5 => ?_) (fun e I1 f1 => ?_)⟩
  · simp only [am_iv]
    have h2 := h2 e
    obtain ⟨g1, g2, g3⟩ := GI.df hA hB hC hD f1
    refine ⟨fun _ => ⟨a0, ?_⟩, fun q => absurd q (by decide)⟩
    refine cx_save2 (by omega) ⟨σ, dr, hA, g1, g2, g3⟩ ?_
    intro I2 P2 e1 e2 h' ex
    clear hB hC hD g1 g2 g3
    obtain ⟨σ2, dr2, hA2, hB2, hC2, hD2⟩ := h'
    have p46 : P2 4 6 = some dr := by rw [ex.2]; exact a6
    have edr : dr2 = dr := by
      have := hA2.1.2.2.2.2.2.2
      rw [p46] at this
      cases this; rfl
    subst edr
    clear hA a1 a2 a3 a4 a5 a6 b3 b7 h3 h4 h5
    obtain ⟨⟨-, a1, a2, a3, a4, a5, a6⟩, ⟨-, -, -, b3, -, -, -, b7, -, -⟩, h3, h4, ⟨h5, -, -⟩, -⟩ := id hA2
    have k20 : K 20 = 6 := (hB2 20 sN.now).1.1
    refine ⟨a0, 20, a1, dr2, a6, k20, ?_⟩
    rintro P21 rfl K22 N23 b24 z25 rfl rfl rfl rfl
    refine cu_init (r := z + 4) (by omega) am_u1_s (by omega) ?_
    intro K' N' P3 w1 w2 w3 w4
    have hz := h8.1
    have kf : KF z K K' := fun a ha => (w1 a (by omega)).trans (am_u1_o (by omega))
    have nf : KF z N N' := fun a ha => (w2 a (by omega)).trans (am_u1_o (by omega))
    have pe : ∀ a, ¬ a = z + 4 → ¬ a = 20 → ¬ a = 4 → am_p2 P3 4 6 (some (z + 4)) a = P2 a := fun a x1 x2 x3 => by rw [am_p2_ne x3, w3 a x1, am_p2_ne x2]
    have p4k : ∀ k, ¬ k = 6 → am_p2 P3 4 6 (some (z + 4)) 4 k = P2 4 k := fun k hk => by
      have := w3 4 (by omega)
      unfold am_p2
      rw [if_neg (by omega), this]
      unfold am_p2
      rw [if_neg (by omega)]
    have p20k : ∀ k, ¬ k = 4 → am_p2 P3 4 6 (some (z + 4)) 20 k = P2 20 k := fun k hk => by
      rw [am_p2_ne (by omega), w3 20 (by omega)]
      unfold am_p2
      rw [if_neg (by omega)]
    have p204 : am_p2 P3 4 6 (some (z + 4)) 20 4 = some dr2 := by
      rw [am_p2_ne (by omega), w3 20 (by omega)]
      unfold am_p2
      rw [if_pos ⟨rfl, rfl⟩]
    have pdr : am_p2 P3 4 6 (some (z + 4)) dr2 = P2 dr2 := pe dr2 (by omega) (by unfold rN at h6; omega) (by unfold rN at h6; omega)
    have ro := h5.kf kf nf pdr h7
    refine ⟨by rw [kf 4 (by omega)]; exact a0, ?_⟩
    rintro P33 rfl
    refine ⟨8, by rw [p4k 5 (by omega)]; exact a5, by rw [kf 8 (by omega)]; exact b6, ?_⟩
    rintro I36 rfl
    refine ⟨20, by rw [p4k 0 (by omega)]; exact a1, by rw [kf 20 (by omega)]; exact k20, dr2, p204, ro.1, ?_⟩
    have dne : ∀ a, dr2 ≤ a → a < dr2 + 5 → I2 a = I1 a := fun a x y => (ex.1 a (by unfold rN at h6; omega)).1
    have e5 : am_u2 I2 8 1 0 dr2 5 = (v_tr (v_sg T n) 6 0).2.2 := by rw [am_u2_ne (by unfold rN at h6; omega), dne _ (by omega) (by omega)]; exact f4
    rw [e5]
    obtain ⟨⟨⟨m, L, π, hS, hR⟩, hV, hRC⟩, d4, d5⟩ := hD2
    have hn := hC2.2.2.2.1
    -- the text and the rule
    obtain ⟨T0, hT0⟩ : ∃ T0 : Int → Int, T0 = fun i => if i < n then T i else W (106 + i) := ⟨_, rfl⟩
    have t0w : ∀ i : Int, 0 ≤ i → i < 80 → T0 i = v_ld W T n (106 + i) := by
      intro i i0 i1
      rw [hT0]
      unfold v_ld
      rw [if_neg (show ¬ 106 + i = 11 by omega)]
      simp only
      by_cases q : i < n
      · rw [if_pos q, if_pos (by omega), show 106 + i - 106 = i by omega]
      · rw [if_neg q, if_neg (by omega)]
    have hRN : RN (am_u2 I2 8 1 0) dr2 T0 50 0 0 cnt n := by
      have h7 := RN.ups 43 (f5 T0 (fun i i0 i1 => by rw [hT0]; simp only; rw [if_pos i1]))
      exact h7.cg (fun a x y => by rw [am_u2_ne (by unfold rN at h6; omega)]; exact dne a x y)
    have vlo : ∀ i : Int, ¬ i = 11 → ¬ (106 ≤ i ∧ i < 106 + n) → v_ld W T n i = W i := fun i a b => v_ld_o a b
    have hV' : VG (v_ld W T n) := hV.ld hn hn.2 t0w (RN.rend _ _ _ _ _ hRN)
    have far : ∀ a, ¬ a = 8 → am_u2 I2 8 1 0 a = I2 a := fun a ha => am_u2_ne ha
    -- all other States
    have sdt : ∀ t V', sN t → ¬ t = 20 → SD K N I2 P2 t V' → SD K' N' (am_u2 I2 8 1 0) (am_p2 P3 4 6 (some (z + 4))) t V' := by
      intro t V' ht hne hv
      have b := ht.b
      have ne := ht.ne sN.now hne
      obtain ⟨_, _, _, _, r, u1, u2, u3, u4⟩ := hB2 t ht
      obtain ⟨m2, L2, π2, q1, q2⟩ := hv
      have q3 := q2.kf u1 kf nf u4
      have q4 : RR K' N' (am_u2 I2 8 1 0) P2 t V' := q3.blk u1 (fun a x y => far a (by unfold rN at u2; omega))
      refine ⟨m2, L2, π2, (q1.kf kf nf (by omega) hz).tr (fun a x y => far a (by omega)) (fun a k x y _ => by rw [pe a (by omega) (by omega) (by omega)]), ?_⟩
      obtain ⟨r', T9, nd, e9, y1, y2, y3, y4⟩ := q4
      rw [u1] at y1
      cases y1
      refine ⟨r, T9, nd, e9, by rw [pe t (by omega) (by omega) (by omega)]; exact u1, ?_, y3, y4⟩
      unfold RO at y2 ⊢
      rw [pe r (by omega) (by unfold rN at u2; omega) (by unfold rN at u2; omega)]
      exact y2
    have stn : ST K' N' (am_u2 I2 8 1 0) (am_p2 P3 4 6 (some (z + 4))) 20 (v_ld W T n) m L π := by
      have h1 : ST K' N' (am_u2 I2 8 1 0) (am_p2 P3 4 6 (some (z + 4))) 20 W m L π := (hS.kf kf nf (by omega) hz).tr (fun a x y => far a (by omega)) (fun a k x y hk => by
        by_cases q : a = 20
        · subst q; exact p20k k (by omega)
        · rw [pe a (by omega) q (by omega)])
      exact h1.ln (by have := hV.1.n9; omega) (fun _ _ _ => rfl) (h1.c.c11 (fun i i0 i1 q => vlo i q (by omega))) (fun j hj => vlo j (by omega) (by omega))
    have rrn : RR K' N' (am_u2 I2 8 1 0) (am_p2 P3 4 6 (some (z + 4))) 20 (v_ld W T n) := ⟨dr2, T0, cnt, n, p204, ro, by unfold rN at h6; omega, by rw [am_u2_ne (by unfold rN at h6; omega), dne _ (by omega) (by omega), f2]; exact f3, t0w, hn.2, hRN⟩
    have rc : ∀ V, RC I2 V → RC (am_u2 I2 8 1 0) V := fun V hv p k x1 x2 x3 x4 x5 => by rw [far 7 (by omega)]; exact hv p k x1 x2 x3 x4 x5
    have sub : Sub W (v_ld W T n) := Sub.low (vlo 9 (by omega) (by omega)) (fun i hi => vlo i (by omega) (by omega))
    have rn' : rN (z + 4) := by unfold rN; omega
    refine h2 K' N' _ _ _ kf nf (by omega) ((f1.gf h6).tr (e1.tr (fun a ha => far a (by omega)))) (e2.tr (fun a x y => pe a (by omega) (by omega) (by omega))) ⟨σ2, z + 4, ?_, fun t ht => ?_, ⟨by rw [far 4 (by omega)]; exact hC2.1, hC2.2.1, am_u2_s, by omega, fun k k0 k1 => absurd k1 (by omega)⟩, ⟨⟨m, L, π, stn, rrn⟩, hV', ?_⟩, fun j j0 j1 => ?_, d5⟩
    · refine ⟨⟨by rw [kf 4 (by omega)]; exact a0, by rw [p4k 0 (by omega)]; exact a1, by rw [p4k 1 (by omega)]; exact a2, by rw [p4k 2 (by omega)]; exact a3, by rw [p4k 4 (by omega)]; exact a4, by rw [p4k 5 (by omega)]; exact a5, ?_⟩, ⟨by rw [kf 5 (by omega)]; exact b0, by rw [nf 5 (by omega)]; exact b1, by rw [kf 6 (by omega)]; exact b2, by rw [pe 6 (by omega) (by omega) (by omega)]; exact b3, by rw [kf 7 (by omega)]; exact b4, by rw [nf 7 (by omega)]; exact b5, by rw [kf 8 (by omega)]; exact b6, by rw [pe 8 (by omega) (by omega) (by omega)]; exact b7, by rw [kf 9 (by omega)]; exact b8, by rw [nf 9 (by omega)]; exact b9⟩, fun j x y => by rw [pe 5 (by omega) (by omega) (by omega)]; exact h3 j x y, h4, ⟨?_, rn', by omega⟩, by omega⟩
      · unfold am_p2; rw [if_pos ⟨rfl, rfl⟩]
      · unfold RO at w4 ⊢
        rw [am_p2_ne (by omega)]
        exact w4
    · have b := ht.b
      obtain ⟨x1, x2, x3, ⟨π3, x4⟩, r, x5, x6, x7, x8⟩ := hB2 t ht
      have sb : SBo (am_u2 I2 8 1 0) t := fun a x y => by rw [far a (by omega)]; exact x3 a x y
      by_cases q : t = 20
      · subst q
        exact ⟨stn.k, stn.p, sb, ⟨π, stn.i⟩, dr2, p204, h6, by omega, by omega⟩
      · refine ⟨x1.kf kf nf (by omega) hz, x2.tr (fun a k y1 y2 y3 => by rw [pe a (by omega) (by have := ht.ne sN.now q; omega) (by omega)]), sb, ⟨π3, x4.tr (pe _ (by omega) (by have := ht.ne sN.now q; omega) (by omega))⟩, r, by rw [pe t (by omega) q (by omega)]; exact x5, x6, by omega, by omega⟩
    · exact rc _ hRC |>.low rfl (vlo 9 (by omega) (by omega)) (fun i hi => vlo i (by omega) (by omega))
    · obtain ⟨q1, q2, q3, q4⟩ := d4 j j0 j1
      have gj := h3 j j0 (by have := hC2.2.1; omega)
      exact ⟨sdt _ _ gj.2.1 (by omega) q1, q2, rc _ q3, q4.tr sub⟩
  · simp only [am_iv]
    obtain ⟨g1, g2, g3⟩ := GI.df hA hB hC hD f1
    exact ⟨fun q => (e q).elim, fun _ => h1 e I1 P (f1.gf h6) GP.rf ⟨σ, dr, hA, g1, g2, g3⟩⟩
end
