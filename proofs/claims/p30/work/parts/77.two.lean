/-! TWO SORTERS SIDE BY SIDE -/
theorem GI.cg2 {K N : Nat → Nat} {I I' : Nat → Nat → Int} {P P' : Nat → Nat → Option Nat} {z : Nat} {W : Int → Int} {S : Int → Int → Int} {c : Int} {T : Int → Int} {n : Int} (h : GI K N I P z W S c T n) (hI : ∀ a, 4 ≤ a → ¬ (284 ≤ a ∧ a < 564) → I' a = I a ∧ P' a = P a) : GI K N I' P' z W S c T n := by
  obtain ⟨σ, dr, hA, hB, hC, ⟨⟨d1, d2, d3⟩, d4, d5⟩⟩ := h
  have far : ∀ a, (10 ≤ a ∧ a < 20) ∨ 564 ≤ a → I' a = I a ∧ P' a = P a := fun a ha => hI a (by omega) (by omega)
  have rc : ∀ V, RC I V → RC I' V := fun V hv p k x1 x2 x3 x4 x5 => by rw [(hI 7 (by omega) (by omega)).1]; exact hv p k x1 x2 x3 x4 x5
  have sd : ∀ t V, sN t → SD K N I P t V → SD K N I' P' t V := fun t V ht hv => by
    have b := ht.b
    exact hv.tr b (fun a x y => (hI a (by omega) (by omega)).1) (fun a x y => (hI a (by omega) (by omega)).2) far
  refine ⟨σ, dr, hA.p (fun a ha => (hI a (by omega) (by omega)).2), fun t ht => ?_, hC.i (hI 4 (by omega) (by omega)).1 (hI 8 (by omega) (by omega)).1 (hI 9 (by omega) (by omega)).1, ⟨sd _ _ sN.now d1, d2, rc _ d3⟩, fun j j0 j1 => ?_, d5⟩
  · have b := ht.b
    exact (hB t ht).tr (fun a x y => (hI a (by omega) (by omega)).1) (fun a x y => (hI a (by omega) (by omega)).2)
  · obtain ⟨e1, e2, e3, e4⟩ := d4 j j0 j1
    exact ⟨sd _ _ (hA.2.2.1 j j0 (by have := hC.2.1; omega)).2.1 e1, e2, rc _ e3, e4⟩
theorem GT.cg {N N' : Nat → Nat} {I I' : Nat → Nat → Int} (h : GT N I) (hn : ∀ a, a < 4 → N' a = N a) (hi : ∀ a, a < 4 → I' a = I a) : GT N' I' := by
  obtain ⟨t0, t1, t2, t3, t4⟩ := h
  refine ⟨by rw [hn 0 (by omega)]; exact t0, by rw [hn 1 (by omega)]; exact t1, by rw [hn 2 (by omega)]; exact t2, by rw [hi 0 (by omega)]; exact t3, ?_⟩
  rw [hi 1 (by omega), hi 2 (by omega)]; exact t4
/-- the first sorter stands for W S c, the second one for W2 S2 c2 -/
def G2 (K N : Nat → Nat) (I : Nat → Nat → Int) (P : Nat → Nat → Option Nat) (z : Nat) (W : Int → Int) (S : Int → Int → Int) (c : Int) (W2 : Int → Int) (S2 : Int → Int → Int) (c2 : Int) : Prop := GI K N I P z W S c T0 0 ∧ GI (sK K) (sK N) (sI I) (sP P) z W2 S2 c2 T0 0 ∧ GT N I
section
variable {d : Nat} {M : am_M} {vs : List am_V} {v : am_V} {K N : Nat → Nat} {I : Nat → Nat → Int} {P : Nat → Nat → Option Nat} {z : Nat} {Q : am_V → am_T} {W W' W2 : Int → Int} {S S' S2 : Int → Int → Int} {c c' c2 : Int}
theorem st_o (h : ST1 d M vs W S c v W' S' c') (g : G2 K N I P z W S c W2 S2 c2) (hq : ∀ I' P', G2 K N I' P' z W' S' c' W2 S2 c2 → Q v K N I' P' z) : am_C d M (am_r 4 :: vs) K N I P z Q am_nx := by
  obtain ⟨g1, g2, g3⟩ := g
  refine h K N I P z Q g1 g3 (fun I' P' f1 f2 h' => hq I' P' ⟨h', g2.cg2 (fun a a0 a1 => ?_), g3.cg (fun _ _ => rfl) (fun a ha => f1 a (Or.inl ha))⟩)
  have hs : 284 ≤ sw a := by
    unfold sw
    repeat' split
    all_goals omega
  refine ⟨f1 (sw a) (Or.inr hs), ?_⟩
  funext k
  show (P' (sw a) k).map sw = (P (sw a) k).map sw
  rw [f2 (sw a) hs (by omega)]
theorem st_q (h : ST1 d M vs W2 S2 c2 v W' S' c') (hvs : vs.map sV = vs) (hv : sV v = v) (g : G2 K N I P z W S c W2 S2 c2) (hq : ∀ I' P', G2 K N I' P' z W S c W' S' c' → Q v K N I' P' z) : am_C d M (am_r 284 :: vs) K N I P z Q am_nx := by
  obtain ⟨g1, g2, g3⟩ := g
  have e : (am_r 284 :: vs).map sV = am_r 4 :: vs := by
    rw [List.map_cons, hvs]
    rfl
  refine am_C_sw (Q' := fun v K N I P z => Q (sV v) (sK K) (sK N) (sI I) (sP P) z) (X' := am_nx) g1.zz ?_ (fun _ _ _ _ _ _ h => h) (fun _ _ _ _ _ _ h => h)
  rw [e]
  refine h _ _ _ _ z _ g2 (g3.cg (fun a ha => by unfold sK; rw [sw_lo ha]) (fun a ha => by unfold sI; rw [sw_lo ha])) (fun I' P' f1 f2 h' => ?_)
  show Q (sV v) (sK (sK K)) (sK (sK N)) (sI I') (sP P') z
  rw [sK_sK, sK_sK, hv]
  refine hq _ _ ⟨g1.cg2 (fun a a0 a1 => ?_), ?_, g3.cg (fun _ _ => rfl) (fun a ha => ?_)⟩
  · have hs : 284 ≤ sw a := by
      unfold sw
      repeat' split
      all_goals omega
    constructor
    · show I' (sw a) = I a
      rw [f1 (sw a) (Or.inr hs)]
      show I (sw (sw a)) = I a
      rw [sw_sw]
    · funext k
      show (P' (sw a) k).map sw = P a k
      rw [f2 (sw a) hs (by omega)]
      exact congrFun (congrFun (sP_sP P) a) k
  · rw [sI_sI, sP_sP]; exact h'
  · show I' (sw a) = I a
    rw [sw_lo ha, f1 a (Or.inl ha)]
    show I (sw a) = I a
    rw [sw_lo ha]
end
