theorem am_c2_o {lv : List (Option am_V)} {i : Nat} {o : Option Nat} (h : lv[i]? = some (some (am_o o))) : am_c2 lv (i + 1) = false := by
  simp only [am_c2]
  rw [h]
  cases o <;> rfl
theorem am_lookup_mem {l : List (Nat × Int)} {ee : Nat} {r : Int} (h : l.lookup ee = some r) : (ee, r) ∈ l := by
  induction l with
  | nil => cases h
  | cons q l ih =>
    obtain ⟨a, b⟩ := q
    rw [List.lookup_cons] at h
    by_cases he : ee = a
    · subst he
      simp at h
      subst h
      exact List.mem_cons_self
    · have h9 : (ee == a) = false := by simpa using he
      rw [h9] at h
      exact List.mem_cons_of_mem _ (ih h)
/-! what is caught: the row x of the method's table takes the exception ee thrown at pc and answers r -/
def am_han (M : am_M) (pc ee : Nat) (r : Int) : Prop := ∃ (pre : List ExceptionTableEntry) (x : ExceptionTableEntry) (suf : List ExceptionTableEntry) (hp ln slot : Nat),
  tableOf M.2.2.2.2.2.2 = pre ++ x :: suf ∧ (∀ z ∈ pre, covers z pc = false ∨ (z.catchType ≠ 0 ∧ ∃ nm : String, Cond.classLink M.1 z.catchType nm ∈ am_good ∧ (am_exn ee, nm) ∈ am_ncs)) ∧ covers x pc = true ∧ x.catchType ≠ 0 ∧ Cond.classLink M.1 x.catchType (am_exn ee) ∈ am_good ∧ ee < 3 ∧
  x.handlerPc = hp ∧ slot < M.2.2.2.1 ∧ (decode M.2.2.1 hp = .ok (.astore slot, 2) ∧ ln = 2 ∨ ∃ j : Fin 4, (j : Nat) = slot ∧ decode M.2.2.1 hp = .ok (.astore_n j, 1) ∧ ln = 1) ∧ (∃ ix, decode M.2.2.1 (hp + ln) = .ok (.ldc ix, 2) ∧ Cond.constant M.1 ix (Int32.ofInt r) ∈ am_good) ∧ decode M.2.2.1 (hp + ln + 2) = .ok (.ireturn, 1) ∧ M.2.2.2.2.1 = some .int ∧ am_in r
def am_hq (ee : Nat) (l : List (Nat × Int)) (f : Int → Prop) : Prop := match l.lookup ee with
  | some r => f r
  | none => False
theorem am_xh_hq {d : Nat} {M : am_M} {pc k n : Nat} {ls : List (Option am_V)} {st : List am_V} {z : Nat} {Q : am_V → am_T} {X : Nat → am_T} {l9 : List (Nat × Int)} (hh : ∀ q ∈ l9, am_han M pc q.1 q.2) (hk : k ≤ M.2.2.2.2.2.1.1) (hn : n ≤ M.2.2.2.2.2.1.2) : am_xh d M pc k n ls st z Q X (fun ee K N I P z => am_hq ee l9 (fun r => Q (.inl r) K N I P z)) := by
  intro l p e R s m args below meth c B D cA ρ0 N0 I0 ρ1 z1 ρ lsR hc hf hL hρ hz ee K N I P z' ρ' ce q9 H1 locs1 h hR hρ' hz' hS hq9 hv hcl
  unfold am_hq at h
  cases hl : l9.lookup ee with
  | none => rw [hl] at h; exact h.elim
  | some r =>
    rw [hl] at h
    have hm : (ee, r) ∈ l9 := am_lookup_mem hl
    obtain ⟨pre, x, suf, hp, ln, slot, h1, h2, h3, h4, h5, h6, rfl, h8, h9, ⟨ix, h10, h10w⟩, h11, h12, h13⟩ := hh _ hm
    obtain ⟨hlt, hx, hb, hr, hml, hown, hlocks, hts, htb, hnm, r1, r2, r3, r4⟩ := id hc
    refine vx_catch hown pre x suf (htb.trans h1) (fun y hy => ?_) h3 h4 (hts _ h5) (va_Nw.use rfl (hf.2.2.2.2.2.2.2.2.2.2.2.2.2.2.2.1 ee h6)) hq9 hv hcl ?_
    · rcases h2 y hy with h | ⟨ha, nm, hb1, hb2⟩
      · exact Or.inl h
      · exact Or.inr ⟨ha, nm, hts _ hb1, hf.2.2.2.2.2.2.2.2.2.2.1 _ hb2⟩
    · have key : ∀ (ls2 : Array Slot), W p l e R s m args below meth c H1 locs1 k n (vx_MQ below (am_Qc B D cA ρ0 N0 I0 M.2.2.2.2.1 ρ1 z1 Q) (am_XC B D cA ρ0 N0 I0 ρ1 z1 X) args s M.2.2.2.2.2.1.1 M.2.2.2.2.2.1.2 (fun q => B ≤ q)) (F0 m (x.handlerPc + ln) ls2 []) := by
        intro ls2
        refine lv_ldc hx hb hown (hts _ h10w) h10 ?_
        refine vx_ret (W.widen hk hn ?_)
        exact W.iret (v := Int32.ofInt r) hx hb (hr.trans h12) (fun t ht hW => ⟨.inl r, K, N, I, P, z', ρ', by rw [h12]; rfl, h, by rw [ht]; exact hR, fun a ha => (hρ' a (by omega)).trans (hρ a ha), by omega, h13, hS.F ht⟩) hS.2.2 h11 hlocks
      rcases h9 with ⟨h9, rfl⟩ | ⟨j, rfl, h9, rfl⟩
      · exact lv_astore hx hb h9 hL.1 h8 rfl (fun ls2 _ => key ls2)
      · exact lv_astore_n hx hb h9 rfl hL.1 h8 rfl (fun ls2 _ => key ls2)
section
variable {d : Nat} {M : am_M} {pc k n : Nat} {ls ls' : List (Option am_V)} {st : List am_V} {K N : Nat → Nat} {I : Nat → Nat → Int} {P : Nat → Nat → Option Nat} {z : Nat} {Q Q' : am_V → am_T} {X X' : Nat → am_T}
/-- locals that aren't needed any more -/
def am_sub : List (Option am_V) → List (Option am_V) → Prop
  | [], [] => True
  | a :: l, b :: r => (b = none ∨ b = a) ∧ am_sub l r
  | _, _ => False
theorem am_sub_nil : am_sub [] [] := trivial
theorem am_sub_k {a : Option am_V} {l r : List (Option am_V)} (h : am_sub l r) : am_sub (a :: l) (a :: r) := ⟨Or.inr rfl, h⟩
theorem am_sub_d {a : Option am_V} {l r : List (Option am_V)} (h : am_sub l r) : am_sub (a :: l) (none :: r) := ⟨Or.inl rfl, h⟩
theorem am_sub_at : ∀ {l r : List (Option am_V)}, am_sub l r → l.length = r.length ∧ ∀ (i : Nat) (v : am_V), r[i]? = some (some v) → l[i]? = some (some v)
  | [], [], _ => ⟨rfl, fun i v h => h⟩
  | a :: l, b :: r, h => by
    obtain ⟨h1, h2⟩ := am_sub_at h.2
    refine ⟨by simp [h1], fun i v hi => ?_⟩
    cases i with
    | zero =>
      rcases h.1 with q | q
      · rw [q] at hi; cases hi
      · rw [q] at hi; exact hi
    | succ i => exact h2 i v (by simpa using hi)
  | [], _ :: _, h => h.elim
  | _ :: _, [], h => h.elim
theorem e_forget (hs : am_sub ls ls') (h : am_E d M pc k n ls' st K N I P z Q X) : am_E d M pc k n ls st K N I P z Q X := by
  intro l p e R s m args below meth c B D cA ρ0 N0 I0 hc hf ρ1 z1 ρ H locs lsR ha
  obtain ⟨hR, hS, hL, hst, hρ, hz⟩ := id ha
  obtain ⟨h1, h2⟩ := am_sub_at hs
  refine h l p e R s m args below meth c B D cA ρ0 N0 I0 hc hf ρ1 z1 ρ H locs lsR ⟨hR, hS, ⟨⟨hL.1.1, hL.1.2.1, fun q hq => ?_⟩, by rw [← h1]; exact hL.2.1, fun i v hi => hL.2.2 i v (h2 i v hi)⟩, hst, hρ, hz⟩
  unfold am_ll at hq
  obtain ⟨j, -, hm⟩ := List.mem_filterMap.mp hq
  cases hl2 : ls'[j]? with
  | none => simp [hl2] at hm
  | some w =>
    cases w with
    | none => simp [hl2] at hm
    | some w =>
      simp only [hl2] at hm
      cases hm
      exact am_loc_get hL (h2 j w hl2)
/-- whole numbers in the world are in range; references are to what there is -/
theorem e_rng (h : (∀ a j, am_in (I a j)) → (∀ a j b, P a j = some b → b < z + 4) → am_E d M pc k n ls st K N I P z Q X) : am_E d M pc k n ls st K N I P z Q X := by
  intro l p e R s m args below meth c B D cA ρ0 N0 I0 hc hf ρ1 z1 ρ H locs lsR ha
  exact h ha.1.2.2.2.2.2.1 ha.1.2.2.2.2.2.2 l p e R s m args below meth c B D cA ρ0 N0 I0 hc hf ρ1 z1 ρ H locs lsR ha
/-- a method's answers may be weakened -/
theorem am_C_mono {Mc : am_M} {vs : List am_V} (h : am_C d Mc vs K N I P z Q X) (hQ : ∀ v K N I P z, Q v K N I P z → Q' v K N I P z) (hX : ∀ v K N I P z, X v K N I P z → X' v K N I P z) : am_C d Mc vs K N I P z Q' X' := by
  intro l B D cA ρ0 N0 I0 ρ hl p e h1 h2 h3 s m args below h4 h5 h6 h7
  obtain ⟨k, o, g1, g2, g3, g4⟩ := h l B D cA ρ0 N0 I0 ρ hl p e h1 h2 h3 s m args below h4 h5 h6 h7
  refine ⟨k, o, g1, g2, g3, ?_⟩
  rcases g4 with ⟨⟨v, K9, N9, I9, P9, z9, ρ9, a1, a2, a3⟩, b⟩ | ⟨q, hq, E, ce, L, ⟨ee, K9, N9, I9, P9, z9, ρ9, a1, a2, a3⟩, b⟩
  · exact Or.inl ⟨⟨v, K9, N9, I9, P9, z9, ρ9, a1, hQ _ _ _ _ _ _ a2, a3⟩, b⟩
  · exact Or.inr ⟨q, hq, E, ce, L, ⟨ee, K9, N9, I9, P9, z9, ρ9, a1, hX _ _ _ _ _ _ a2, a3⟩, b⟩
end
/-! the copy of the row of initial settings -/
section
variable {d : Nat} {M : am_M} {pc k n : Nat} {ls : List (Option am_V)} {st : List am_V} {K N : Nat → Nat} {I : Nat → Nat → Int} {P : Nat → Nat → Option Nat} {z : Nat} {Q : am_V → am_T} {X : Nat → am_T}
theorem e_clone {idx : Nat} (hd : decode M.2.2.1 pc = .ok (.invokevirtual idx, 3)) (hw1 : Cond.methodLink M.1 idx am_cln ∈ am_good) (hw2 : Cond.sameMethod "[I" "java/lang/Object" "clone" "()Ljava/lang/Object;" ∈ am_good) (hw3 : Cond.native am_clo ∈ am_good) (hw4 : Cond.instanceMethod am_clo ∈ am_good) (hw5 : Cond.selects "[I" am_cln am_clo ∈ am_good) (hd1 : 1 ≤ d) (hsm : (st.map am_catn).sum ≤ 8) (hk : k + 1 ≤ M.2.2.2.2.2.1.1) (hn : n + N 0 ≤ M.2.2.2.2.2.1.2)
    (h : am_E d M (pc + 3) (k + 1) (n + N 0) ls (am_r (z + 4) :: st) (am_u1 K (z + 4) 10) (am_u1 N (z + 4) (N 0)) (am_z2 I (z + 4) 0) P (z + 1) Q X) : am_E d M pc k n ls (am_r 0 :: st) K N I P z Q X := by
  intro l p e R s m args below meth c B D cA ρ0 N0 I0 hc hf ρ1 z1 ρ H locs lsR ha
  obtain ⟨hR, hS, hL, hst, hρ, hz⟩ := id ha
  obtain ⟨hlt, hx, hb, hr, hml, hown, hlocks, hts, htb, hnm, r1, r2, r3, r4⟩ := id hc
  have hst2 := (List.forall_mem_cons.mp hst).2
  obtain ⟨c0, t0', f1, f2, f3⟩ := Cond.castable_spec (va_Nw.use (A := args) rfl hf.2.2.2.2.2.2.2.2.2.1)
  obtain ⟨⟨scr, s1, s2, s3, s4, s5⟩, hlt0⟩ := hf.2.2.1 0 (by decide)
  obtain ⟨scr', s6, s7⟩ := hf.2.2.2.2.2.2.2.2.2.2.2.1
  cases s1.symm.trans s6
  cases s7.symm.trans f1
  obtain ⟨-, e1, e2, e3⟩ := hR.2.2.2.2.1 0 (by decide)
  have hcA : scr.cls = cA 10 := by
    have q : s.vm.findClass ("[" ++ (FieldType.int).toString) = some (cA 10) := (hf.2.1.2 1 _ rfl).2
    exact Option.some.inj (s7.symm.trans q)
  intro T hT X9
  have hcellT : T.heap[ρ0 0]? = some scr := by
    rw [hT, hS.2.1 _ (Nat.lt_of_lt_of_le hlt0 hf.1) (by omega)]
    exact s1
  obtain ⟨-, kA, hkA, comp, hkind⟩ := State.isArrayOf_alike X9.warmed.alike s2
  obtain ⟨hns, kS, hkS, compS, hkindS⟩ := s2
  have hcs := am_catsum (ρ := ρ) hst2
  obtain ⟨vm', X', st9⟩ := X9.cloneArray hx hown (hts _ hw1) (hts _ hw2) (hts _ hw3) (hts _ hw4) (hts _ hw5) (a := ρ0 0) (cell := scr) hcellT hns s3 s7 f2 f3
    (fun i v hv => by
      have hi : i < N0 0 := by rw [← s4]; exact (Array.getElem?_eq_some_iff.mp hv).1
      have hv2 := s5 i hi
      rw [hv] at hv2
      cases hv2
      have hk' : T.vm.classes[scr.cls]? = some kA := hkA
      simp [State.fitsSlot, State.slotType?, hk', hkind, fits])
    (g := F0 m pc lsR (.ref (ρ0 0) :: st.map (am_cv ρ))) rfl (hL.1.1.trans hml.symm) rfl (by rw [hb]; exact hd) (by omega) (by show 2 * 0 + _ + 14 ≤ _; omega) (by omega) (by rw [s4, ← e2]; omega) (hloader := Vm.clonesLoader_of_array hkS hkindS)
  have hcell : ({ cls := scr.cls, slots := scr.slots } : Cell) = vp_cell (cA 10) (N0 0, .inl (fun j => Int32.ofInt (I0 0 j))) := by
    rw [hcA]
    show _ = arrV (cA 10) (N0 0) (fun j => .int (Int32.ofInt (I0 0 j)))
    unfold arrV
    congr 1
    apply Array.ext_getElem?
    intro i
    by_cases hi : i < N0 0
    · rw [s5 i hi]
      simp [hi]
    · rw [Array.getElem?_eq_none (by rw [s4]; omega), Array.getElem?_eq_none (by simp; omega)]
  rw [hcell, s4] at X'
  generalize hH1 : H.push (vp_cell (cA 10) (N0 0, .inl (fun j => Int32.ofInt (I0 0 j)))) = H1
  have z1' : H1.size = H.size + 1 := by rw [← hH1, Array.size_push]
  have g1 : H1[H.size]? = some (vp_cell (cA 10) (N0 0, .inl (fun j => Int32.ofInt (I0 0 j)))) := by rw [← hH1, Array.getElem?_push_size]
  have o1 : ∀ q : Nat, q < H.size → H1[q]? = H[q]? := fun q hq => by rw [← hH1, Array.getElem?_push, if_neg (Nat.ne_of_lt hq)]
  have hkk : ∀ (k : Nat) (y : Nat × va_E), (am_ws cA ρ K N I P z)[k]? = some y → H1[y.1]? = H[y.1]? := fun k y hy => o1 y.1 ((hR.1 k y hy).lt)
  have efl : am_ent cA (am_u1 ρ (z + 4) H.size) (am_u1 K (z + 4) 10) (am_u1 N (z + 4) (N 0)) (am_z2 I (z + 4) 0) P (z + 4) = .inl (cA 10, N0 0, .inl (fun j => Int32.ofInt (I0 0 j))) := by
    rw [am_ent_ia (c := 10) (show am_u1 K (z + 4) 10 (z + 4) = 10 by simp [am_u1]) (by decide) (by decide)]
    simp only [am_u1, am_z2, if_pos, e2, e3]
  have hp1 : va_P D vwCl (am_ws cA ρ K N I P z ++ [(H.size, .inl (cA 10, N0 0, .inl (fun j => Int32.ofInt (I0 0 j))))]) H1 := (hR.1.kept hkk).app (fun k y hy => by
    have hz9 : k < 1 := (List.getElem?_eq_some_iff.mp hy).1
    rw [show k = 0 by omega] at hy
    cases hy
    exact g1)
  have hd1' : va_D (fun q => B ≤ q) (am_ws cA ρ K N I P z ++ [(H.size, .inl (cA 10, N0 0, .inl (fun j => Int32.ofInt (I0 0 j))))]) := hR.2.1.push hR.1 rfl (Nat.le_trans hf.1 hS.1)
  have hS1 : va_S (fun q => B ≤ q) s.heap H1 locs := ⟨Nat.le_trans hS.1 (by omega), fun y h1 h2 => (o1 y (Nat.lt_of_lt_of_le h1 hS.1)).trans (hS.2.1 y h1 h2), hS.2.2⟩
  obtain ⟨h1, h2⟩ := am_at_push ha hst2 (am_rep_push hR (I' := am_z2 I (z + 4) 0) (n := N 0) (by omega) (fun b hb => by funext j; simp [am_z2, hb]) (fun j => by simp only [am_z2, if_pos]; exact hR.2.2.2.2.2.1 0 j) efl hp1 hd1') hS1
  have hh := h l p e R s m args below meth c B D cA ρ0 N0 I0 hc hf ρ1 z1 (am_u1 ρ (z + 4) H.size) H1 locs lsR h1
  rw [h2, e2] at hh
  obtain ⟨t, b1, b2⟩ := hh ((T.setVm vm').pushCell (vp_cell (cA 10) (N0 0, .inl (fun j => Int32.ofInt (I0 0 j))))) (by rw [← hH1, ← hT]; rfl) X'
  refine ⟨t, ?_, b2⟩
  show Steps p.tables e below (T.setTop (F0 m pc lsR (.ref (ρ 0) :: st.map (am_cv ρ)))) t
  rw [e1]
  refine st9 t ?_
  rw [hcell, hT]
  exact b1
theorem e_castA {idx a : Nat} (hd : decode M.2.2.1 pc = .ok (.checkcast idx, 3)) (hw : Cond.classLink M.1 idx "[I" ∈ am_good) (hK : K a = 10) (h : am_E d M (pc + 3) k n ls (am_r a :: st) K N I P z Q X) : am_E d M pc k n ls (am_r a :: st) K N I P z Q X := by
  intro l p e R s m args below meth c B D cA ρ0 N0 I0 hc hf ρ1 z1 ρ H locs lsR ha
  obtain ⟨hR, hS, hL, hst, hρ, hz⟩ := id ha
  obtain ⟨i1, i2⟩ := am_rep_id hR (a := a) (by omega)
  have q : s.vm.findClass ("[" ++ (FieldType.int).toString) = some (cA 10) := (hf.2.1.2 1 _ rfl).2
  exact va_castA (cA := cA 10) hc.2.1 hc.2.2.1 hc.2.2.2.2.2.1 (hc.2.2.2.2.2.2.2.1 _ hw) hR.1 (a - 4) ((am_ws_at i1 i2).trans (by rw [am_ent_ia hK (by decide) (by decide)])) q hd (h l p e R s m args below meth c B D cA ρ0 N0 I0 hc hf ρ1 z1 ρ H locs lsR ha)
end
section
variable {d : Nat} {M : am_M} {pc k n : Nat} {ls : List (Option am_V)} {st : List am_V} {K N : Nat → Nat} {I : Nat → Nat → Int} {P : Nat → Nat → Option Nat} {z : Nat} {Q : am_V → am_T} {X : Nat → am_T}
theorem e_ldcw {idx : Nat} {v : Int} (hd : decode M.2.2.1 pc = .ok (.ldc_w idx, 3)) (hw : Cond.constant M.1 idx (Int32.ofInt v) ∈ am_good) (h : am_E d M (pc + 3) k n ls (.inl v :: st) K N I P z Q X) (hv : -2147483648 ≤ v ∧ v ≤ 2147483647 := by decide) : am_E d M pc k n ls st K N I P z Q X := by
  intro l p e R s m args below meth c B D cA ρ0 N0 I0 hc hf ρ1 z1 ρ H locs lsR ha
  obtain ⟨hR, hS, hL, hst, hρ, hz⟩ := id ha
  exact lv_ldcw hc.2.1 hc.2.2.1 hc.2.2.2.2.2.1 (hc.2.2.2.2.2.2.2.1 _ hw) hd (h l p e R s m args below meth c B D cA ρ0 N0 I0 hc hf ρ1 z1 ρ H locs lsR ⟨hR, hS, hL, List.forall_mem_cons.mpr ⟨hv, hst⟩, hρ, hz⟩)
theorem e_throwW {ik is ic ee : Nat} {tx : String} (hd0 : decode M.2.2.1 pc = .ok (.new ik, 3)) (hd3 : decode M.2.2.1 (pc + 3) = .ok (.dup, 1)) (hd4 : decode M.2.2.1 (pc + 4) = .ok (.ldc_w is, 3)) (hd6 : decode M.2.2.1 (pc + 7) = .ok (.invokespecial ic, 3)) (hd9 : decode M.2.2.1 (pc + 10) = .ok (.athrow, 1)) (hee : ee < 3)
    (hw1 : Cond.classLink M.1 ik (am_exn ee) ∈ am_good) (hw2 : Cond.initialized (am_exn ee) ∈ am_good) (hw3 : ∀ w ∈ vx_atS M.1 ic (am_exn ee) ["java/lang/RuntimeException", "java/lang/Exception"], w ∈ am_good ∨ w ∈ am_xtra ee) (hs : (M.1, is, tx) ∈ am_str) (hh : M.2.2.2.2.2.2 = []) (hd9 : 6 ≤ d) (hsm : (st.map am_catn).sum ≤ 8) (hk : k + 1 ≤ M.2.2.2.2.2.1.1) (hn : n + 6 ≤ M.2.2.2.2.2.1.2)
    (h : X ee K N I P z) : am_E d M pc k n ls st K N I P z Q X := by
  intro l p e R s m args below meth c B D cA ρ0 N0 I0 hc hf ρ1 z1 ρ H locs lsR ha
  obtain ⟨hR, hS, hL, hst, hρ, hz⟩ := id ha
  obtain ⟨hlt, hx, hb, hr, hml, hown, hlocks, hts, htb, hnm, r1, r2, r3, r4⟩ := hc
  obtain ⟨sa, hsa⟩ := hf.2.2.2.2.2.2.1 _ hs
  have hcs := am_catsum (ρ := ρ) hst
  have hte : c.exceptionTable.toList = [] := by rw [htb, hh]; rfl
  refine vx_throwSW (A := fun q => B ≤ q) (names := ["java/lang/RuntimeException", "java/lang/Exception"]) (cls := am_exn ee) (text := tx) hx hb hlt hown (am_fit hee) (by decide) (hts _ hw1) (hts _ hw2) hsa (fun w hw => (hw3 w hw).elim (fun q => hts _ q) (fun q => am_xtra_at hf hee q)) (fun w hw => ?_) hf.2.2.2.2.1 hf.2.2.2.2.2.1 hS (hL.1.1.trans hml.symm) hd0 hd3 hd4 hd6 (by assumption) (fun x hx9 => by rw [hte] at hx9; cases hx9) (by show 2 + 3 < _; omega) (by show _ + (13 * (2 + 1) + 43) ≤ _; omega) (by omega) (by omega) hlocks (fun t hW hz9 hk9 => ?_) hS.2.2 (by omega) (by omega)
  · have hg : w ∈ am_good ∨ w ∈ am_xtra ee := by
      rcases List.mem_cons.mp hw with rfl | hw
      · exact Or.inl hw1
      rcases List.mem_cons.mp hw with rfl | hw
      · exact Or.inl hw2
      · exact hw3 w hw
    unfold vx_ot
    rcases hg with hg | hg
    · rw [(List.mem_filter.mp hg).2, Bool.or_true]
    · rcases List.mem_cons.mp hg with rfl | hg
      · rfl
      · obtain ⟨q, -, rfl⟩ := List.mem_map.mp hg
        rfl
  · exact ⟨ee, K, N, I, P, z, ρ, rfl, h, am_rep_kept hR hk9, hρ, hz, Nat.le_trans hS.1 hz9, fun q h1 h2 => (hk9 q (Nat.lt_of_lt_of_le h1 hS.1)).trans (hS.2.1 q h1 h2)⟩
theorem e_getr1 {idx a b cc f : Nat} (hd : decode M.2.2.1 pc = .ok (.getfield idx, 3)) (hw : am_flk M.1 idx cc f) (ht : am_isr (am_ty cc f) = true) (hK : K a = cc) (ho : P a f = some b) (h : am_E d M (pc + 3) k n ls (am_r b :: st) K N I P z Q X) : am_E d M pc k n ls (am_r a :: st) K N I P z Q X := by
  refine e_getr hd hw ht hK ?_
  rw [ho]
  exact h
theorem e_aald1 {a kk b : Nat} {x : Int} (hd : decode M.2.2.1 pc = .ok (.aaload, 1)) (hK : K a = kk) (hk9 : 11 ≤ kk ∧ kk < 14) (h0 : 0 ≤ x) (hn : x < N a) (ho : P a x.toNat = some b) (h : am_E d M (pc + 1) k n ls (am_r b :: st) K N I P z Q X) : am_E d M pc k n ls (.inl x :: am_r a :: st) K N I P z Q X := by
  refine e_aald hd hK hk9 h0 hn ?_
  rw [ho]
  exact h
theorem e_putr1 {idx a b cc f : Nat} (hd : decode M.2.2.1 pc = .ok (.putfield idx, 3)) (hw : am_flk M.1 idx cc f) (hfin : (am_TT cc f).2.2.2 = false) (ht : am_isr (am_ty cc f) = true) (hK : K a = cc) (h : am_E d M (pc + 3) k n ls st K N I (am_p2 P a f (some b)) z Q X) : am_E d M pc k n ls (am_r b :: am_r a :: st) K N I P z Q X := e_putr (o := some b) hd hw hfin ht hK h
theorem e_putrF1 {idx a b cc f : Nat} (hd : decode M.2.2.1 pc = .ok (.putfield idx, 3)) (hw : am_flk M.1 idx cc f) (hfin : (am_TT cc f).2.2.2 = true) (hci : M.2.1.name = "<init>") (hoc : M.1 = am_R cc) (ht : am_isr (am_ty cc f) = true) (hK : K a = cc) (h : am_E d M (pc + 3) k n ls st K N I (am_p2 P a f (some b)) z Q X) : am_E d M pc k n ls (am_r b :: am_r a :: st) K N I P z Q X := e_putrF (o := some b) hd hw hfin hci hoc ht hK h
/-- an integer answer; an answer that is a reference or none -/
theorem am_iv_or {v : am_V} {f : Int → Prop} (h : am_iv v f) : ∃ x, v = .inl x ∧ f x := by
  rcases v with x | x | x
  · exact ⟨x, rfl, h⟩
  · exact h.elim
  · exact h.elim
def am_ov (v : am_V) (f : Option Nat → Prop) : Prop := match v with
  | .inr (.inr (.ref a)) => f (some a)
  | .inr (.inr .null) => f none
  | _ => False
theorem am_ov_or {v : am_V} {f : Option Nat → Prop} (h : am_ov v f) : ∃ o, v = am_o o ∧ f o := by
  rcases v with x | x | x
  · exact h.elim
  · exact h.elim
  · cases x <;> first | exact h.elim | exact ⟨none, rfl, h⟩ | exact ⟨some _, rfl, h⟩
def am_dv (v : am_V) (f : UInt64 → Prop) : Prop := match v with
  | .inr (.inr (.double x)) => f x
  | _ => False
theorem am_dv_or {v : am_V} {f : UInt64 → Prop} (h : am_dv v f) : ∃ x, v = am_d x ∧ f x := by
  rcases v with x | x | x
  · exact h.elim
  · exact h.elim
  · cases x <;> first | exact h.elim | exact ⟨_, rfl, h⟩
theorem e_ifnull1 {o : Option Nat} {off : Int} {tgt : Nat} (hd : decode M.2.2.1 pc = .ok (.ifnull off, 3)) (hg : (pc : Int) + off = (tgt : Int)) (h0 : o = none → am_E d M tgt k n ls st K N I P z Q X) (h1 : ∀ a, o = some a → am_E d M (pc + 3) k n ls st K N I P z Q X) : am_E d M pc k n ls (am_o o :: st) K N I P z Q X := by
  refine e_ifnull hd hg ?_
  cases o with
  | none => exact h0 rfl
  | some a => exact h1 a rfl
theorem e_ifnonnull1 {o : Option Nat} {off : Int} {tgt : Nat} (hd : decode M.2.2.1 pc = .ok (.ifnonnull off, 3)) (hg : (pc : Int) + off = (tgt : Int)) (h0 : o = none → am_E d M (pc + 3) k n ls st K N I P z Q X) (h1 : ∀ a, o = some a → am_E d M tgt k n ls st K N I P z Q X) : am_E d M pc k n ls (am_o o :: st) K N I P z Q X := by
  refine e_ifnonnull hd hg ?_
  cases o with
  | none => exact h0 rfl
  | some a => exact h1 a rfl
end
