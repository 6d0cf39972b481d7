theorem RN.ups {I : Nat → Nat → Int} {U : Int → Int} {r : Nat} {nd p nd' p' : Int} {f : Nat} : ∀ g : Nat, RN I r U f nd p nd' p' → RN I r U (f + g) nd p nd' p'
  | 0, h => h
  | g + 1, h => RN.up (f + g) _ _ _ _ (RN.ups g h)
section
variable {d : Nat} {K N K' N' : Nat → Nat} {I I' : Nat → Nat → Int} {P P' : Nat → Nat → Option Nat} {z : Nat} {Q : am_V → am_T} {X : Nat → am_T} {W W' V W0 L0 : Int → Int} {S : Int → Int → Int} {c : Int} {T T' : Int → Int} {n n' : Int} {s s2 dr : Nat} {m : Int} {L : Int → Int} {π : Int → Nat}
theorem rN.ne {a b : Nat} (h : rN a) (h2 : rN b) (e : ¬ a = b) : a + 5 ≤ b ∨ b + 5 ≤ a := by unfold rN at h h2; omega
theorem RR.blk (h : RR K N I P s V) {r : Nat} (hr : P s 4 = some r) (hI : ∀ a, r ≤ a → a < r + 5 → I' a = I a) : RR K N I' P s V := by
  obtain ⟨r', T0, nd, e, q1, q2, q3, q4, q5, q6, q7⟩ := h
  rw [hr] at q1
  cases q1
  exact ⟨r, T0, nd, e, hr, q2, q3, by rw [hI r (by omega) (by omega)]; exact q4, q5, q6, q7.cg hI⟩
/-- the draft and the reader's place have changed -/
theorem GI.df {σ : Int → Nat} (hA : GA K N P z σ dr) (hB : GB K N I P z dr) (hC : GC I c T n) (hD : GD K N I P σ W S c) (hf : DF dr I I') : GB K N I' P z dr ∧ GC I' c T n ∧ GD K N I' P σ W S c := by
  obtain ⟨⟨d1, d2, d3⟩, d4, d5⟩ := hD
  have hdr := hA.2.2.2.2.1.2.1
  have near : ∀ a, 20 ≤ a → a < 284 → I' a = I a := fun a x y => hf.1 a (by unfold rN at hdr; omega) (by omega)
  have e7 : I' 7 = I 7 := hf.1 7 (by unfold rN at hdr; omega) (by omega)
  have rc : ∀ V, RC I V → RC I' V := fun V hv p k x1 x2 x3 x4 x5 => by rw [e7]; exact hv p k x1 x2 x3 x4 x5
  have sd : ∀ t V, sN t → SD K N I P t V → SD K N I' P t V := by
    intro t V ht hv
    have b := ht.b
    obtain ⟨_, _, _, _, r, u1, u2, u3, u4⟩ := hB t ht
    obtain ⟨m, L, π, h1, h2⟩ := hv
    have ne := u2.ne hdr u3
    exact ⟨m, L, π, h1.tr (fun a x y => near a (by omega) (by omega)) (fun _ _ _ _ _ => rfl), h2.blk u1 (fun a x y => hf.1 a (by omega) (by unfold rN at u2; omega))⟩
  refine ⟨fun t ht => ?_, ⟨?_, hC.2.1, ?_, hC.2.2.2.1, ?_⟩, ⟨sd _ _ sN.now d1, d2, rc _ d3⟩, fun j j0 j1 => ?_, d5⟩
  · have b := ht.b
    exact (hB t ht).tr (fun a x y => near a (by omega) (by omega)) (fun a x y => rfl)
  · rw [hf.1 4 (by unfold rN at hdr; omega) (by omega)]; exact hC.1
  · rw [hf.2 1 (by omega)]; exact hC.2.2.1
  · rw [hf.1 9 (by unfold rN at hdr; omega) (by omega)]; exact hC.2.2.2.2
  · obtain ⟨e1, e2, e3, e4⟩ := d4 j j0 j1
    exact ⟨sd _ _ (hA.2.2.1 j j0 (by have := hC.2.1; omega)).2.1 e1, e2, rc _ e3, e4⟩
theorem GI.tx {σ : Int → Nat} (hA : GA K N P z σ dr) (hC : GC I c T n) : TX K N I P T n := ⟨hA.2.1.2.2.2.2.2.2.1, hA.2.1.2.2.2.2.2.2.2.1, hA.2.1.2.2.2.2.2.2.2.2.1, hA.2.1.2.2.2.2.2.2.2.2.2, hC.2.2.1, hC.2.2.2.1, hC.2.2.2.2⟩
theorem DF.gf (h : DF dr I I') (hn : rN dr) : GF I I' := fun a ha => h.1 a (by unfold rN at hn; omega) (by omega)
theorem cx_errorPosition (hd : 20 ≤ d) (h : GI K N I P z W S c T n) (hq : ∀ I' P', GF I I' → GP P P' → GI K N I' P' z W S c T n → Q (am_i (v_err (v_sg T n) n)) K N I' P' z) : am_C d m_X7_errorPosition [am_r 4] K N I P z Q am_nx := by
  obtain ⟨σ, dr, hA, hB, hC, hD⟩ := h
  obtain ⟨⟨a0, a1, a2, a3, a4, a5, a6⟩, ⟨b0, b1, b2, b3, b4, b5, b6, b7, b8, b9⟩, h3, h4, ⟨h5, h6, h7⟩, h8⟩ := id hA
  refine wf_X7_errorPosition (by omega) ⟨a0, 8, a5, dr, a6, b6, ct_parse (by omega) h5 h6 (GI.tx hA hC) (fun e I' cnt' f1 _ _ _ _ => ?_) (fun e I' f1 => ?_)⟩
  · simp only [am_iv]
    obtain ⟨g1, g2, g3⟩ := GI.df hA hB hC hD f1
    have := hq I' P (f1.gf h6) GP.rf ⟨σ, dr, hA, g1, g2, g3⟩
    rw [e] at this
    exact this
  · simp only [am_iv]
    obtain ⟨g1, g2, g3⟩ := GI.df hA hB hC hD f1
    exact hq I' P (f1.gf h6) GP.rf ⟨σ, dr, hA, g1, g2, g3⟩
theorem v_ld_o {i : Int} (h1 : ¬ i = 11) (h2 : ¬ (106 ≤ i ∧ i < 106 + n)) : v_ld W T n i = W i := by unfold v_ld; rw [if_neg h1, if_neg h2]
theorem VG.ld (hV : VG W) (hn : 0 ≤ n ∧ n ≤ 80) {e : Int} {T0 : Int → Int} (he : e ≤ 80) (h0 : ∀ i : Int, 0 ≤ i → i < 80 → T0 i = v_ld W T n (106 + i)) (hr : v_rend T0 50 0 = some e) : VG (v_ld W T n) := by
  have hG := hV.1
  have g7 := hG.l7
  have g8 := hG.r8
  have g9 := hG.n9
  have o : ∀ i : Int, ¬ i = 11 → ¬ (106 ≤ i ∧ i < 106 + n) → v_ld W T n i = W i := fun i a b => v_ld_o a b
  refine ⟨v_G.mk ?_ ?_ ?_ ?_ ?_ ?_ ?_ ?_ ?_ ?_ (fun l a b => ?_) (fun l a b => ?_) (fun k a b => ?_) ⟨e, he, (v_r_cg (T := T0) (T' := v_T (v_ld W T n)) (fun i a b => (h0 i a b).symm) 50 0 e (by omega) he hr).1⟩ (fun p a b => ?_) (fun p q a b f x y => ?_), fun p a b f => ?_, ?_⟩
  · rw [o 0 (by omega) (by omega)]; exact hG.d0
  · rw [o 1 (by omega) (by omega)]; exact hG.s1
  · rw [o 2 (by omega) (by omega)]; exact hG.s2
  · rw [o 3 (by omega) (by omega)]; exact hG.s3
  · rw [o 4 (by omega) (by omega)]; exact hG.s4
  · rw [o 5 (by omega) (by omega)]; exact hG.s5
  · rw [o 6 (by omega) (by omega)]; exact hG.s6
  · rw [o 7 (by omega) (by omega)]; exact g7
  · rw [o 8 (by omega) (by omega)]; exact g8
  · rw [o 9 (by omega) (by omega)]; exact g9
  · rw [o 7 (by omega) (by omega)] at b
    rw [o _ (by omega) (by omega), o _ (by omega) (by omega), o _ (by omega) (by omega), o _ (by omega) (by omega)]
    exact hG.ln l a b
  · rw [o 7 (by omega) (by omega)] at a
    rw [o _ (by omega) (by omega), o _ (by omega) (by omega)]
    exact hG.l0 l a b
  · rw [o 8 (by omega) (by omega)] at b
    rw [o _ (by omega) (by omega), o _ (by omega) (by omega), o 7 (by omega) (by omega)]
    exact hG.rt k a b
  · rw [o 9 (by omega) (by omega)] at b
    rw [o _ (by omega) (by omega), o _ (by omega) (by omega), o _ (by omega) (by omega), o _ (by omega) (by omega), o _ (by omega) (by omega), o _ (by omega) (by omega), o _ (by omega) (by omega)]
    exact hG.pt p a b
  · rw [o 9 (by omega) (by omega)] at f
    rw [o _ (by omega) (by omega)] at x y
    rw [o _ (by omega) (by omega), o _ (by omega) (by omega), o _ (by omega) (by omega)]
    exact hG.od p q a b f x y
  · rw [o 9 (by omega) (by omega)] at b
    rw [o _ (by omega) (by omega)] at f
    rw [o _ (by omega) (by omega), o 5 (by omega) (by omega)]
    exact hV.2.1 p a b f
  · rw [o 0 (by omega) (by omega)]; exact hV.2.2
/-- the world behind the last object has grown -/
def KF (z : Nat) (K K' : Nat → Nat) : Prop := ∀ a, a < z + 4 → K' a = K a
theorem SK.kf (h : SK K N s) (hk : KF z K K') (hn : KF z N N') (hs : s + 33 ≤ 284) (hz : 560 ≤ z) : SK K' N' s := by
  obtain ⟨q0, q1, q2, q3, q4, q5, q6, q7, q8, q9, q10, q11, q12, q13⟩ := h
  refine ⟨?_, ?_, ?_, ?_, ?_, ?_, ?_, ?_, ?_, ?_, ?_, ?_, fun i a b => ?_, fun i a b => ?_⟩
  · rw [hk _ (by omega)]; exact q0
  · rw [hk _ (by omega)]; exact q1
  · rw [hn _ (by omega)]; exact q2
  · rw [hk _ (by omega)]; exact q3
  · rw [hn _ (by omega)]; exact q4
  · rw [hk _ (by omega)]; exact q5
  · rw [hk _ (by omega)]; exact q6
  · rw [hn _ (by omega)]; exact q7
  · rw [hk _ (by omega)]; exact q8
  · rw [hn _ (by omega)]; exact q9
  · rw [hk _ (by omega)]; exact q10
  · rw [hn _ (by omega)]; exact q11
  · rw [hk _ (by omega)]; exact q12 i a b
  · rw [hk _ (by omega)]; exact q13 i a b
theorem RO.kf {r : Nat} (h : RO K N P r) (hk : KF z K K') (hn : KF z N N') (hp : P' r = P r) (hz : r + 4 < z + 4) : RO K' N' P' r := by
  unfold RO at h ⊢
  rw [hp, hk r (by omega), hk (r + 1) (by omega), hk (r + 2) (by omega), hk (r + 3) (by omega), hk (r + 4) (by omega), hn (r + 1) (by omega), hn (r + 2) (by omega), hn (r + 3) (by omega), hn (r + 4) (by omega)]
  exact h
theorem ST.kf (hS : ST K N I P s W m L π) (hk : KF z K K') (hn : KF z N N') (hs : s + 33 ≤ 284) (hz : 560 ≤ z) : ST K' N' I P s W m L π := ⟨hS.k.kf hk hn hs hz, hS.2⟩
theorem RR.kf (h : RR K N I P s V) {r : Nat} (hr : P s 4 = some r) (hk : KF z K K') (hn : KF z N N') (hz : r + 4 < z + 4) : RR K' N' I P s V := by
  obtain ⟨r', T0, nd, e, q1, q2, q3, q4⟩ := h
  rw [hr] at q1
  cases q1
  exact ⟨r, T0, nd, e, hr, q2.kf hk hn rfl hz, q3, q4⟩
end
