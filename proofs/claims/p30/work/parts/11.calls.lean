theorem am_good_mem {ws : List Cond} (h : ∀ w ∈ ws, w ∈ am_good) : GoodIn am_good ws := fun w hw => ⟨h w hw, good_of_word (List.mem_filter.mp (h w hw)).2⟩
theorem am_wds_mem {M : am_M} {q : Nat} (h : am_okM M q) : ∀ w ∈ am_wds M, w ∈ am_good := fun w hw => by
  rcases List.mem_cons.mp hw with rfl | hw
  · exact h.2.2.1
  · exact hw
theorem am_word0 {M : am_M} (h : M.2.2.2.2.2.2 = []) : am_word M = Cond.code M.2.1 M.2.2.1 M.2.2.2.1 M.2.2.2.2.1 := by unfold am_word; rw [h]
theorem am_word1 {M : am_M} {x : Nat × Nat × Nat × Nat} {t : List (Nat × Nat × Nat × Nat)} (h : M.2.2.2.2.2.2 = x :: t) : am_word M = Cond.codeWith M.2.1 M.2.2.1 M.2.2.2.1 M.2.2.2.2.1 M.2.2.2.2.2.2 := by unfold am_word; rw [h]
theorem am_fact_at {B : Nat} {D : va_G} {cA : Nat → ClassId} {ρ0 N0 : Nat → Nat} {I0 : Nat → Nat → Int} {s U : State} {H : Heap} {locs : List Loc} (h : am_fact B D cA ρ0 N0 I0 s) (hS : va_S (fun q => B ≤ q) s.heap H locs) (hU : U.heap = H) (hW : s.WarmedH U.vm) : am_fact B D cA ρ0 N0 I0 U := by
  refine am_fact_to h hW ?_ fun q hq => ?_
  · rw [hU]; exact Nat.le_trans h.1 hS.1
  · rw [hU]; exact hS.2.1 q (Nat.lt_of_lt_of_le hq h.1) (by omega)
theorem am_Pc_blind {B : Nat} {D : va_G} {cA : Nat → ClassId} {ρ0 N0 : Nat → Nat} {I0 : Nat → Nat → Int} {vs : List am_V} {K N : Nat → Nat} {I : Nat → Nat → Int} {P : Nat → Nat → Option Nat} {z : Nat} {ρ : Nat → Nat} : FrameBlind (am_Pc B D cA ρ0 N0 I0 vs K N I P z ρ) := fun a U g mk h => by
  obtain ⟨h1, h2, h3, h4⟩ := h
  exact ⟨h1, am_fact_to (U := U.calling g mk a) h2 (State.WarmedH.refl U) h2.1 (fun _ _ => rfl), h3, h4⟩
theorem am_rep_kept {B : Nat} {D : va_G} {cA : Nat → ClassId} {ρ0 N0 : Nat → Nat} {I0 : Nat → Nat → Int} {ρ K N : Nat → Nat} {I : Nat → Nat → Int} {P : Nat → Nat → Option Nat} {z : Nat} {H H1 : Heap} (h : am_rep B D cA ρ0 N0 I0 ρ K N I P z H) (hk : ∀ q : Nat, q < H.size → H1[q]? = H[q]?) : am_rep B D cA ρ0 N0 I0 ρ K N I P z H1 :=
  ⟨h.1.kept fun k q hq => hk q.1 ((h.1 k q hq).lt), h.2⟩
/-! arguments -/
theorem am_args_mem {ρ : Nat → Nat} : ∀ (vs : List am_V) (i : Nat), (∀ v ∈ vs, am_v1 v = true) → ∀ (j : Nat) (v : am_V), vs[j]? = some v → (i + j, am_cv ρ v) ∈ lv_args i (vs.map (am_cv ρ))
  | [], _, _, j, v, h => by simp at h
  | w :: vs, i, h1, 0, v, h => by
    cases h
    exact List.mem_cons_self
  | w :: vs, i, h1, j + 1, v, h => by
    have hc : (am_cv ρ w).category = 1 := am_v1_cat (h1 w List.mem_cons_self)
    have := am_args_mem (ρ := ρ) vs (i + 1) (fun v hv => h1 v (List.mem_cons_of_mem _ hv)) j v (by simpa using h)
    rw [List.map_cons]
    show _ ∈ (i, am_cv ρ w) :: lv_args (if (am_cv ρ w).category = 2 then i + 2 else i + 1) _
    rw [hc, if_neg (by decide)]
    refine List.mem_cons_of_mem _ ?_
    rw [show i + (j + 1) = i + 1 + j by omega]
    exact this
theorem am_sl_len {ρ : Nat → Nat} : ∀ vs : List am_V, (∀ v ∈ vs, am_v1 v = true) → (lg_sl (vs.map (am_cv ρ))).length = vs.length
  | [], _ => rfl
  | w :: vs, h1 => by
    have hc : (am_cv ρ w).category = 1 := am_v1_cat (h1 w List.mem_cons_self)
    have := am_sl_len (ρ := ρ) vs (fun v hv => h1 v (List.mem_cons_of_mem _ hv))
    unfold lg_sl at this ⊢
    rw [List.map_cons, List.flatMap_cons, hc, if_neg (by decide), List.length_append, this]
    simp [Nat.add_comm]
def am_args (vs : List am_V) (nL : Nat) : List (Option am_V) := vs.map some ++ List.replicate (nL - vs.length) none
theorem am_args_loc {ρ : Nat → Nat} {z nL : Nat} {vs : List am_V} (h1 : ∀ v ∈ vs, am_v1 v = true) (hok : ∀ v ∈ vs, am_ok z v) (hl : vs.length ≤ nL) : am_loc ρ z nL (am_args vs nL) ((lg_sl (vs.map (am_cv ρ)) ++ List.replicate (nL - (lg_sl (vs.map (am_cv ρ))).length) Slot.unset).toArray) := by
  have he := lv_entry (vs.map (am_cv ρ)) (n := nL) (by rw [am_sl_len vs h1]; exact hl)
  have hget : ∀ (i : Nat) (v : am_V), (am_args vs nL)[i]? = some (some v) → vs[i]? = some v := by
    intro i v hi
    unfold am_args at hi
    by_cases hlt : i < vs.length
    · rw [List.getElem?_append_left (by rw [List.length_map]; exact hlt), List.getElem?_map] at hi
      cases hv : vs[i]? with
      | none => rw [hv] at hi; cases hi
      | some w => rw [hv] at hi; cases hi; rfl
    · rw [List.getElem?_append_right (by rw [List.length_map]; omega), List.getElem?_replicate] at hi
      split at hi <;> cases hi
  refine ⟨⟨he.1, he.2.1, fun q hq => ?_⟩, ?_, fun i v hi => hok v (List.mem_of_getElem? (hget i v hi))⟩
  · unfold am_ll at hq
    obtain ⟨j, -, hm⟩ := List.mem_filterMap.mp hq
    cases hl2 : (am_args vs nL)[j]? with
    | none => simp [hl2] at hm
    | some w =>
      cases w with
      | none => simp [hl2] at hm
      | some w =>
        simp only [hl2] at hm
        cases hm
        have := am_args_mem (ρ := ρ) vs 0 h1 j w (hget j w hl2)
        rw [Nat.zero_add] at this
        exact he.2.2 _ this
  · unfold am_args
    rw [List.length_append, List.length_map, List.length_replicate]
    omega
/-- A METHOD'S STATEMENT OUT OF THE STATEMENT OF ITS FIRST PLACE -/
theorem am_C_of {d q : Nat} {M : am_M} {vs : List am_V} {K N : Nat → Nat} {I : Nat → Nat → Int} {P : Nat → Nat → Option Nat} {z : Nat} {Q : am_V → am_T} {X : Nat → am_T} (hM : am_okM M q) (hv1 : ∀ v ∈ vs, am_v1 v = true) (hl : vs.length ≤ M.2.2.2.1) (h : am_E d M 0 0 0 (am_args vs M.2.2.2.1) [] K N I P z Q X) : am_C d M vs K N I P z Q X := by
  intro l B D cA ρ0 N0 I0 ρ hst
  have body : ∀ (p : Program) (e : Env) (s : State) (m : MethodId) (args : Array Value) (below : List Frame) (meth : Method) (c : Code) (s₁ : State), BodyLoose p l M.2.1 (headSpec (am_wds M) (am_rm d M)) M.2.2.1 M.2.2.2.1 M.2.2.2.2.1 e s m args below meth c s₁ → c.maxLocals = M.2.2.2.1 → c.exceptionTable.toList = tableOf M.2.2.2.2.2.2 → am_Pc B D cA ρ0 N0 I0 vs K N I P z ρ args s →
      W p l e (headSpec (am_wds M) (am_rm d M)).room s m args below meth c s.heap [] 0 0 (vx_MQ below (am_Qc B D cA ρ0 N0 I0 M.2.2.2.2.1 ρ z Q) (am_XC B D cA ρ0 N0 I0 ρ z X) args s M.2.2.2.2.2.1.1 M.2.2.2.2.2.1.2 (fun q => B ≤ q)) (entryFrame m args M.2.2.2.1) := by
    intro p e s m args below meth c s₁ B' hml ht hP
    obtain ⟨rfl, hf, hR, hok⟩ := hP
    have hts : ∀ w ∈ am_good, w.before (vs.map (am_cv ρ)).toArray s = true := fun w hw => atoms_spec (ws := am_wds M) B'.pre w (List.mem_cons_of_mem _ hw)
    have hown : s.vm.findClass M.1 = some m.cls := by rw [hM.1]; exact findClass_of_methodNamed B'.named
    rw [lg_entry_eq]
    exact h l p e _ s m _ below meth c B D cA ρ0 N0 I0 ⟨hst, B'.exec, B'.bytes, B'.returns, hml, hown, B'.notSynchronized, hts, ht, (name_of_methodNamed B'.named B'.method).1, Nat.le_refl _, Nat.le_refl _, Nat.le_refl _, Nat.le_refl _⟩ hf ρ z ρ s.heap [] _ ⟨hR, va_S.rf, am_args_loc hv1 hok hl, (fun v hv => by cases hv), fun _ _ => rfl, Nat.le_refl _⟩
  cases hh : M.2.2.2.2.2.2 with
  | nil =>
    refine vx_ofW (cc := M.2.2.1) (maxL := M.2.2.2.1) (ret := M.2.2.2.2.1) (ws' := am_good) hM.2.1 (by unfold am_wds; rw [am_word0 hh]) ?_
    intro p e s m args below meth c s₁ B' hml ht hP
    refine body p e s m args below meth c s₁ B' hml ?_ hP
    rw [hh]
    exact List.eq_nil_iff_forall_not_mem.mpr fun x hx => ht x hx
  | cons x t =>
    refine vx_ofWH (cc := M.2.2.1) (maxL := M.2.2.2.1) (ret := M.2.2.2.2.1) (ws' := am_good) (hh := M.2.2.2.2.2.2) hM.2.1 (by unfold am_wds; rw [am_word1 hh]) ?_
    intro p e s m args below meth c s₁ B' hml hP
    refine body p e s m args below meth c s₁ B' hml ?_ hP
    exact vx_table (x := M.2.1) B' (atoms_spec (ws := am_wds M) B'.pre _ (by unfold am_wds; rw [am_word1 hh]; exact List.mem_cons_self))
/-! ends -/
theorem am_xtra_at {B : Nat} {D : va_G} {cA : Nat → ClassId} {ρ0 N0 : Nat → Nat} {I0 : Nat → Nat → Int} {s : State} {args : Array Value} {ee : Nat} {w : Cond} (hf : am_fact B D cA ρ0 N0 I0 s) (hee : ee < 3) (hw : w ∈ am_xtra ee) : w.before args s = true := by
  rcases List.mem_cons.mp hw with rfl | hw
  · exact va_Nw.use rfl (hf.2.2.2.2.2.2.2.2.2.2.2.2.2.2.2.1 ee hee)
  · obtain ⟨q, hq, rfl⟩ := List.mem_map.mp hw
    exact va_Nw.use rfl (hf.2.2.2.2.2.2.2.2.2.2.2.2.2.2.2.2 q hq)
theorem am_fit {ee : Nat} (h : ee < 3) : Bundle.fit (am_exn ee) = true := by
  rcases (show ee = 0 ∨ ee = 1 ∨ ee = 2 by omega) with rfl | rfl | rfl <;> decide +kernel
section
variable {d : Nat} {M : am_M} {pc k n : Nat} {ls : List (Option am_V)} {st : List am_V} {K N : Nat → Nat} {I : Nat → Nat → Int} {P : Nat → Nat → Option Nat} {z : Nat} {Q : am_V → am_T} {X : Nat → am_T}
theorem e_ret_i {x : Int} (hd : decode M.2.2.1 pc = .ok (.ireturn, 1)) (hr : M.2.2.2.2.1 = some .int) (hk : k ≤ M.2.2.2.2.2.1.1) (hn : n ≤ M.2.2.2.2.2.1.2) (h : Q (.inl x) K N I P z) : am_E d M pc k n ls [.inl x] K N I P z Q X := by
  intro l p e R s m args below meth c B D cA ρ0 N0 I0 hc hf ρ1 z1 ρ H locs lsR ha
  obtain ⟨hR, hS, hL, hst, hρ, hz⟩ := id ha
  refine vx_ret (W.widen hk hn ?_)
  exact W.iret (v := Int32.ofInt x) hc.2.1 hc.2.2.1 (hc.2.2.2.1.trans hr) (fun t ht hW => ⟨.inl x, K, N, I, P, z, ρ, by rw [hr]; rfl, h, by rw [ht]; exact hR, hρ, hz, hst _ List.mem_cons_self, hS.F ht⟩) hS.2.2 hd hc.2.2.2.2.2.2.1
theorem e_ret_z {x : Int} (hd : decode M.2.2.1 pc = .ok (.ireturn, 1)) (hr : M.2.2.2.2.1 = some .boolean) (hx : x = 0 ∨ x = 1) (hk : k ≤ M.2.2.2.2.2.1.1) (hn : n ≤ M.2.2.2.2.2.1.2) (h : Q (.inl x) K N I P z) : am_E d M pc k n ls [.inl x] K N I P z Q X := by
  intro l p e R s m args below meth c B D cA ρ0 N0 I0 hc hf ρ1 z1 ρ H locs lsR ha
  obtain ⟨hR, hS, hL, hst, hρ, hz⟩ := id ha
  refine vx_ret (W.widen hk hn ?_)
  exact W.zret (v := Int32.ofInt x) (ty := .boolean) hc.2.1 hc.2.2.1 (hc.2.2.2.1.trans hr) (am_nar (Or.inr ⟨rfl, hx⟩)).1 (fun t ht hW => ⟨.inl x, K, N, I, P, z, ρ, by rw [hr]; rfl, h, by rw [ht]; exact hR, hρ, hz, hst _ List.mem_cons_self, hS.F ht⟩) hS.2.2 hd hc.2.2.2.2.2.2.1
theorem e_ret_v (hd : decode M.2.2.1 pc = .ok (.return_, 1)) (hr : M.2.2.2.2.1 = none) (hk : k ≤ M.2.2.2.2.2.1.1) (hn : n ≤ M.2.2.2.2.2.1.2) (h : Q am_nl K N I P z) : am_E d M pc k n ls [] K N I P z Q X := by
  intro l p e R s m args below meth c B D cA ρ0 N0 I0 hc hf ρ1 z1 ρ H locs lsR ha
  obtain ⟨hR, hS, hL, hst, hρ, hz⟩ := id ha
  refine vx_ret (W.widen hk hn ?_)
  exact W.vret hc.2.1 hc.2.2.1 (hc.2.2.2.1.trans hr) (fun t ht hW => ⟨am_nl, K, N, I, P, z, ρ, by rw [hr]; rfl, h, by rw [ht]; exact hR, hρ, hz, trivial, hS.F ht⟩) hS.2.2 hd hc.2.2.2.2.2.2.1
theorem e_ret_a {v : am_V} {C : String} (hd : decode M.2.2.1 pc = .ok (.areturn, 1)) (hr : M.2.2.2.2.1 = some (.object C)) (hv : am_isref v) (hk : k ≤ M.2.2.2.2.2.1.1) (hn : n ≤ M.2.2.2.2.2.1.2) (h : Q v K N I P z) : am_E d M pc k n ls [v] K N I P z Q X := by
  intro l p e R s m args below meth c B D cA ρ0 N0 I0 hc hf ρ1 z1 ρ H locs lsR ha
  obtain ⟨hR, hS, hL, hst, hρ, hz⟩ := id ha
  refine vx_ret (W.widen hk hn ?_)
  exact W.aret (v := am_cv ρ v) hc.2.1 hc.2.2.1 (hc.2.2.2.1.trans hr) (Or.inl ⟨C, rfl⟩) (by obtain ⟨a, rfl⟩ | rfl := am_isref_or hv; exact Or.inr ⟨_, rfl⟩; exact Or.inl rfl) (fun t ht hW => ⟨v, K, N, I, P, z, ρ, by rw [hr]; rfl, h, by rw [ht]; exact hR, hρ, hz, hst _ List.mem_cons_self, hS.F ht⟩) hS.2.2 hd hc.2.2.2.2.2.2.1
theorem e_ret_d {x : UInt64} (hd : decode M.2.2.1 pc = .ok (.dreturn, 1)) (hr : M.2.2.2.2.1 = some .double) (hk : k ≤ M.2.2.2.2.2.1.1) (hn : n ≤ M.2.2.2.2.2.1.2) (h : Q (am_d x) K N I P z) : am_E d M pc k n ls [am_d x] K N I P z Q X := by
  intro l p e R s m args below meth c B D cA ρ0 N0 I0 hc hf ρ1 z1 ρ H locs lsR ha
  obtain ⟨hR, hS, hL, hst, hρ, hz⟩ := id ha
  refine vx_ret (W.widen hk hn ?_)
  exact W.dret (v := x) hc.2.1 hc.2.2.1 (hc.2.2.2.1.trans hr) (fun t ht hW => ⟨am_d x, K, N, I, P, z, ρ, by rw [hr]; rfl, h, by rw [ht]; exact hR, hρ, hz, trivial, hS.F ht⟩) hS.2.2 hd hc.2.2.2.2.2.2.1
/-- new X(text) and its throw, out of the method -/
theorem e_throw {ik is ic ee : Nat} {tx : String} (hd0 : decode M.2.2.1 pc = .ok (.new ik, 3)) (hd3 : decode M.2.2.1 (pc + 3) = .ok (.dup, 1)) (hd4 : decode M.2.2.1 (pc + 4) = .ok (.ldc is, 2)) (hd6 : decode M.2.2.1 (pc + 6) = .ok (.invokespecial ic, 3)) (hd9 : decode M.2.2.1 (pc + 9) = .ok (.athrow, 1)) (hee : ee < 3)
    (hw1 : Cond.classLink M.1 ik (am_exn ee) ∈ am_good) (hw2 : Cond.initialized (am_exn ee) ∈ am_good) (hw3 : ∀ w ∈ vx_atS M.1 ic (am_exn ee) ["java/lang/RuntimeException", "java/lang/Exception"], w ∈ am_good ∨ w ∈ am_xtra ee) (hs : (M.1, is, tx) ∈ am_str) (hh : M.2.2.2.2.2.2 = []) (hd9 : 6 ≤ d) (hsm : (st.map am_catn).sum ≤ 8) (hk : k + 1 ≤ M.2.2.2.2.2.1.1) (hn : n + 6 ≤ M.2.2.2.2.2.1.2)
    (h : X ee K N I P z) : am_E d M pc k n ls st K N I P z Q X := by
  intro l p e R s m args below meth c B D cA ρ0 N0 I0 hc hf ρ1 z1 ρ H locs lsR ha
  obtain ⟨hR, hS, hL, hst, hρ, hz⟩ := id ha
  obtain ⟨hlt, hx, hb, hr, hml, hown, hlocks, hts, htb, hnm, r1, r2, r3, r4⟩ := hc
  obtain ⟨sa, hsa⟩ := hf.2.2.2.2.2.2.1 _ hs
  have hcs := am_catsum (ρ := ρ) hst
  have hte : c.exceptionTable.toList = [] := by rw [htb, hh]; rfl
  refine vx_throwS (A := fun q => B ≤ q) (names := ["java/lang/RuntimeException", "java/lang/Exception"]) (cls := am_exn ee) (text := tx) hx hb hlt hown (am_fit hee) (by decide) (hts _ hw1) (hts _ hw2) hsa (fun w hw => (hw3 w hw).elim (fun q => hts _ q) (fun q => am_xtra_at hf hee q)) (fun w hw => ?_) hf.2.2.2.2.1 hf.2.2.2.2.2.1 hS (hL.1.1.trans hml.symm) hd0 hd3 hd4 hd6 (by assumption) (fun x hx9 => by rw [hte] at hx9; cases hx9) (by show 2 + 3 < _; omega) (by show _ + (13 * (2 + 1) + 43) ≤ _; omega) (by omega) (by omega) hlocks (fun t hW hz9 hk9 => ?_) hS.2.2 (by omega) (by omega)
  · have hg : w ∈ am_good ∨ w ∈ am_xtra ee := by
      rcases List.mem_cons.mp hw with rfl | hw
      · exact Or.inl hw1
      rcases List.mem_cons.mp hw with rfl | hw
      · exact Or.inl hw2
      · exact hw3 w hw
    unfold vx_ot
    rcases hg with hg | hg
    · rw [(List.mem_filter.mp hg).2, Bool.or_true]
    · rcases List.mem_cons.mp hg with rfl | hg
      · rfl
      · obtain ⟨q, -, rfl⟩ := List.mem_map.mp hg
        rfl
  · exact ⟨ee, K, N, I, P, z, ρ, rfl, h, am_rep_kept hR hk9, hρ, hz, Nat.le_trans hS.1 hz9, fun q h1 h2 => (hk9 q (Nat.lt_of_lt_of_le h1 hS.1)).trans (hS.2.1 q h1 h2)⟩
end
/-! calls -/
section
variable {p : Program} {l : Launch} {e : Env} {R : Room} {s : State} {m : MethodId} {args : Array Value} {below : List Frame} {meth : Method} {c : Code} {H : Heap} {locs : List Loc} {k n mc ms : Nat} {Z : State → Prop} {pc : Nat} {lsR : Array Slot} {st0 rest : List Value} {a : Array Value}
variable {B : Nat} {D : va_G} {cA : Nat → ClassId} {ρ0 N0 : Nat → Nat} {I0 : Nat → Nat → Int} {ret : Option FieldType} {ρ : Nat → Nat} {z : Nat} {Q : am_V → am_T} {X : Nat → am_T}
theorem am_F_S {A : Nat → Prop} {st₀ t T' : State} {H0 : Heap} {L : List Loc} (hS : va_S A H0 H locs) (h0 : st₀.heap = H) (e1 : T'.heap = t.heap) (hF : va_F A st₀ t) (hL : ∀ q ∈ L, A q.base) : va_S A H0 T'.heap (locs ++ L) :=
  (vx_keep h0 e1 hS (fun _ _ h => h) (fun _ h => h) hL hF).2.2
theorem am_run (hr : vx_Run p l e R s m args below meth c H locs k n mc ms (F0 m pc lsR st0) rest (am_Qc B D cA ρ0 N0 I0 ret ρ z Q a) (am_XC B D cA ρ0 N0 I0 ρ z X) (fun q => B ≤ q)) (hS : va_S (fun q => B ≤ q) s.heap H locs)
    (kx : ∀ (ee : Nat) (K N : Nat → Nat) (I : Nat → Nat → Int) (P : Nat → Nat → Option Nat) (z' : Nat) (ρ' : Nat → Nat) (ce : Cell) (q9 : Addr) (H1 : Heap) (locs1 : List Loc), X ee K N I P z' → am_rep B D cA ρ0 N0 I0 ρ' K N I P z' H1 → (∀ a, a < z + 4 → ρ' a = ρ a) → z ≤ z' → va_S (fun q => B ≤ q) s.heap H1 locs1 → H1[q9]? = some ce → ce.vm = .none → s.vm.findClass (am_exn ee) = some ce.cls → vx_W p l e R s m args below meth c H1 locs1 (k + mc) (n + ms) Z (F0 m pc lsR rest) q9)
    (kk : ∀ (v : am_V) (K N : Nat → Nat) (I : Nat → Nat → Int) (P : Nat → Nat → Option Nat) (z' : Nat) (ρ' : Nat → Nat) (H1 : Heap) (locs1 : List Loc), Q v K N I P z' → am_rep B D cA ρ0 N0 I0 ρ' K N I P z' H1 → (∀ a, a < z + 4 → ρ' a = ρ a) → z ≤ z' → am_ok z' v → va_S (fun q => B ≤ q) s.heap H1 locs1 → W p l e R s m args below meth c H1 locs1 (k + mc) (n + ms) Z (F0 m (pc + 3) lsR ((am_rv ret ρ' v).toList ++ rest))) :
    W p l e R s m args below meth c H locs k n Z (F0 m pc lsR st0) := by
  intro T hT X9
  rcases hr T hT X9 with ⟨v, st₀, t, T', L, h0, X', hL, e1, e2, ⟨v', K, N, I, P, z', ρ', hv, hq, hrep, hρ, hz, hok, hF⟩, st⟩ | ⟨q, st₀, t, T', L, E, ce, h0, X', hL, e1, e2, ⟨ee, K, N, I, P, z', ρ', rfl, hq, hrep, hρ, hz, hF⟩, hce, hcv, hcl, st⟩
  · cases hv
    obtain ⟨t2, a1, b1⟩ := kk v' K N I P z' ρ' T'.heap (locs ++ L) hq (by rw [e1]; exact hrep) hρ hz hok (am_F_S hS h0 e1 hF hL) T' rfl X'
    exact ⟨t2, st t2 a1, b1⟩
  · obtain ⟨t2, a1, b1⟩ := kx ee K N I P z' ρ' ce q T'.heap (locs ++ L) hq (by rw [e1]; exact hrep) hρ hz (am_F_S hS h0 e1 hF hL) (by rw [e1]; exact hce) hcv hcl T' rfl X'
    exact ⟨t2, st.trans a1, b1⟩
end
/-- where the tables select a method of a class' object -/
def am_recv (Mc : am_M) (cc : Nat) : Prop := cc < 9 ∧ Mc.2.1.cls = am_R cc
def am_pv (ret : Option FieldType) (v : am_V) (st : List am_V) : List am_V := match ret with
  | none => st
  | some _ => v :: st
section
variable {d : Nat} {M Mc : am_M} {pc k n idx q : Nat} {ls : List (Option am_V)} {st stk vs : List am_V} {K N : Nat → Nat} {I : Nat → Nat → Int} {P : Nat → Nat → Option Nat} {z : Nat} {Q : am_V → am_T} {X : Nat → am_T}
/-- what goes on behind a call that returns -/
abbrev am_next (d : Nat) (M Mc : am_M) (pc k n : Nat) (ls : List (Option am_V)) (st : List am_V) (Q : am_V → am_T) (X : Nat → am_T) : am_V → am_T := fun v K N I P z => am_E d M (pc + 3) (k + Mc.2.2.2.2.2.1.1) (n + Mc.2.2.2.2.2.1.2) ls (am_pv Mc.2.2.2.2.1 v st) K N I P z Q X
theorem am_pv_map {ret : Option FieldType} {v : am_V} {st : List am_V} {ρ' : Nat → Nat} : (am_pv ret v st).map (am_cv ρ') = (am_rv ret ρ' v).toList ++ st.map (am_cv ρ') := by cases ret <;> rfl
theorem am_pv_ok {ret : Option FieldType} {v : am_V} {st : List am_V} {z : Nat} (hv : am_ok z v) (hs : ∀ w ∈ st, am_ok z w) : ∀ w ∈ am_pv ret v st, am_ok z w := by
  cases ret
  · exact hs
  · exact List.forall_mem_cons.mpr ⟨hv, hs⟩
/-- behind the call: the caller's own statement at the next place -/
theorem am_go {l : Launch} {p : Program} {e : Env} {R : Room} {s : State} {m : MethodId} {args : Array Value} {below : List Frame} {meth : Method} {c : Code} {B : Nat} {D : va_G} {cA : Nat → ClassId} {ρ0 N0 : Nat → Nat} {I0 : Nat → Nat → Int} {ρ1 : Nat → Nat} {z1 : Nat} {ρ : Nat → Nat} {H : Heap} {locs : List Loc} {lsR : Array Slot} {st0 : List Value} {a : Array Value} {XE : Nat → am_T}
    (hc : am_cx d M l p R s m args meth c) (hf : am_fact B D cA ρ0 N0 I0 s) (hS : va_S (fun q => B ≤ q) s.heap H locs) (hL : am_loc ρ z M.2.2.2.1 ls lsR) (hst : ∀ v ∈ st, am_ok z v) (hρ : ∀ a, a < z1 + 4 → ρ a = ρ1 a) (hz : z1 ≤ z)
    (hr : vx_Run p l e R s m args below meth c H locs k n Mc.2.2.2.2.2.1.1 Mc.2.2.2.2.2.1.2 (F0 m pc lsR st0) (st.map (am_cv ρ)) (am_Qc B D cA ρ0 N0 I0 Mc.2.2.2.2.1 ρ z (am_next d M Mc pc k n ls st Q X) a) (am_XC B D cA ρ0 N0 I0 ρ z XE) (fun q => B ≤ q))
    (kx : ∀ (ee : Nat) (K N : Nat → Nat) (I : Nat → Nat → Int) (P : Nat → Nat → Option Nat) (z' : Nat) (ρ' : Nat → Nat) (ce : Cell) (q9 : Addr) (H1 : Heap) (locs1 : List Loc), XE ee K N I P z' → am_rep B D cA ρ0 N0 I0 ρ' K N I P z' H1 → (∀ a, a < z + 4 → ρ' a = ρ a) → z ≤ z' → va_S (fun q => B ≤ q) s.heap H1 locs1 → H1[q9]? = some ce → ce.vm = .none → s.vm.findClass (am_exn ee) = some ce.cls → vx_W p l e R s m args below meth c H1 locs1 (k + Mc.2.2.2.2.2.1.1) (n + Mc.2.2.2.2.2.1.2) (vx_MQ below (am_Qc B D cA ρ0 N0 I0 M.2.2.2.2.1 ρ1 z1 Q) (am_XC B D cA ρ0 N0 I0 ρ1 z1 X) args s M.2.2.2.2.2.1.1 M.2.2.2.2.2.1.2 (fun q => B ≤ q)) (F0 m pc lsR (st.map (am_cv ρ))) q9) :
    W p l e R s m args below meth c H locs k n (vx_MQ below (am_Qc B D cA ρ0 N0 I0 M.2.2.2.2.1 ρ1 z1 Q) (am_XC B D cA ρ0 N0 I0 ρ1 z1 X) args s M.2.2.2.2.2.1.1 M.2.2.2.2.2.1.2 (fun q => B ≤ q)) (F0 m pc lsR st0) := by
  refine am_run hr hS kx fun v K N I P z' ρ' H1 locs1 hq hR' hρ' hz' hok hS' => ?_
  rw [← am_map_ext hst hρ', ← am_pv_map]
  exact hq l p e R s m args below meth c B D cA ρ0 N0 I0 hc hf ρ1 z1 ρ' H1 locs1 lsR ⟨hR', hS', am_loc_ext hL hz' hρ', am_pv_ok hok (fun w hw => am_ok_mono hz' (hst w hw)), fun a ha => (hρ' a (by omega)).trans (hρ a ha), Nat.le_trans hz hz'⟩
theorem am_room {R : Room} {l : Launch} {p : Program} {s : State} {m : MethodId} {args : Array Value} {meth : Method} {c : Code} (hM : am_okM Mc q) (hd1 : 1 ≤ d) (hc : am_cx d M l p R s m args meth c) : (am_rm (d - 1) Mc).frames + 1 ≤ R.frames ∧ 8 + (Mc.2.2.2.1 + 11) + (am_rm (d - 1) Mc).locals ≤ R.locals := by
  have h1 := hc.2.2.2.2.2.2.2.2.2.2.1
  have h2 := hc.2.2.2.2.2.2.2.2.2.2.2.1
  have h3 := hM.2.2.2.2.2.2
  refine ⟨?_, ?_⟩
  · show d - 1 + 1 ≤ _; omega
  · show _ + 41 * (d - 1) ≤ _; omega
theorem am_blk {m : MethodId} {pc : Nat} {lsR : Array Slot} {st0 : List Value} {ρ : Nat → Nat} {z : Nat} {st : List am_V} (hst : ∀ v ∈ st, am_ok z v) (hsm : (st.map am_catn).sum ≤ 8) : 2 * (F0 m pc lsR st0).monitorRoom + ((st.map (am_cv ρ)).map fun v => v.category).sum ≤ 8 := by
  rw [am_catsum hst]
  show 2 * 0 + _ ≤ 8
  omega
/-- what a throw out of the callee comes to (nothing, where none can come) -/
def am_xh (d : Nat) (M : am_M) (pc k n : Nat) (ls : List (Option am_V)) (st : List am_V) (z : Nat) (Q : am_V → am_T) (X XE : Nat → am_T) : Prop :=
  ∀ (l : Launch) (p : Program) (e : Env) (R : Room) (s : State) (m : MethodId) (args : Array Value) (below : List Frame) (meth : Method) (c : Code) (B : Nat) (D : va_G) (cA : Nat → ClassId) (ρ0 N0 : Nat → Nat) (I0 : Nat → Nat → Int) (ρ1 : Nat → Nat) (z1 : Nat) (ρ : Nat → Nat) (lsR : Array Slot), am_cx d M l p R s m args meth c → am_fact B D cA ρ0 N0 I0 s → am_loc ρ z M.2.2.2.1 ls lsR → (∀ a, a < z1 + 4 → ρ a = ρ1 a) → z1 ≤ z →
    ∀ (ee : Nat) (K N : Nat → Nat) (I : Nat → Nat → Int) (P : Nat → Nat → Option Nat) (z' : Nat) (ρ' : Nat → Nat) (ce : Cell) (q9 : Addr) (H1 : Heap) (locs1 : List Loc), XE ee K N I P z' → am_rep B D cA ρ0 N0 I0 ρ' K N I P z' H1 → (∀ a, a < z + 4 → ρ' a = ρ a) → z ≤ z' → va_S (fun q => B ≤ q) s.heap H1 locs1 → H1[q9]? = some ce → ce.vm = .none → s.vm.findClass (am_exn ee) = some ce.cls →
      vx_W p l e R s m args below meth c H1 locs1 k n (vx_MQ below (am_Qc B D cA ρ0 N0 I0 M.2.2.2.2.1 ρ1 z1 Q) (am_XC B D cA ρ0 N0 I0 ρ1 z1 X) args s M.2.2.2.2.2.1.1 M.2.2.2.2.2.1.2 (fun q => B ≤ q)) (F0 m pc lsR (st.map (am_cv ρ))) q9
theorem am_xh_nx {d : Nat} {M : am_M} {pc k n : Nat} {ls : List (Option am_V)} {st : List am_V} {z : Nat} {Q : am_V → am_T} {X : Nat → am_T} : am_xh d M pc k n ls st z Q X am_nx := by
  intro l p e R s m args below meth c B D cA ρ0 N0 I0 ρ1 z1 ρ lsR hc hf hL hρ hz ee K N I P z' ρ' ce q9 H1 locs1 h
  exact h.elim
theorem am_wdV {M Mc : am_M} {idx q : Nat} (hM : am_okM Mc q) (hw1 : Cond.methodLink M.1 idx Mc.2.1 ∈ am_good) (hw2 : Cond.instanceMethod Mc.2.1 ∈ am_good) (hw3 : Cond.selects Mc.2.1.cls Mc.2.1 Mc.2.1 ∈ am_good) : GoodIn am_good (wsV M.1 idx Mc.2.1.cls Mc.2.1 (am_wds Mc)) := am_good_mem (fun w hw => by
  rcases List.mem_append.mp hw with hw | hw
  · rcases List.mem_cons.mp hw with rfl | hw
    · exact hw1
    rcases List.mem_cons.mp hw with rfl | hw
    · exact hw2
    rcases List.mem_cons.mp hw with rfl | hw
    · exact hw3
    rcases List.mem_cons.mp hw with rfl | hw
    · exact hM.2.2.2.1
    · cases hw
  · exact am_wds_mem hM w hw)
theorem am_wdS {M Mc : am_M} {idx q : Nat} (hM : am_okM Mc q) (hw1 : Cond.methodLink M.1 idx Mc.2.1 ∈ am_good) (hw2 : Cond.static Mc.2.1 ∈ am_good) : GoodIn am_good (va_wsS M.1 idx Mc.2.1 (am_wds Mc)) := am_good_mem (fun w hw => by
  rcases List.mem_append.mp hw with hw | hw
  · rcases List.mem_cons.mp hw with rfl | hw
    · exact hw1
    rcases List.mem_cons.mp hw with rfl | hw
    · exact hw2
    rcases List.mem_cons.mp hw with rfl | hw
    · exact hM.2.2.2.1
    · cases hw
  · exact am_wds_mem hM w hw)
theorem e_callV {b cc : Nat} (hd : decode M.2.2.1 pc = .ok (.invokevirtual idx, 3)) (hM : am_okM Mc q) (hh : Mc.2.2.2.2.2.2 = []) (hcc : am_recv Mc cc) (hw1 : Cond.methodLink M.1 idx Mc.2.1 ∈ am_good) (hw2 : Cond.instanceMethod Mc.2.1 ∈ am_good) (hw3 : Cond.selects Mc.2.1.cls Mc.2.1 Mc.2.1 ∈ am_good) (hstk : stk = vs.reverse ++ am_r b :: st) (hq : vs.length = q) (hK : K b = cc) (hd1 : 1 ≤ d) (hsm : (st.map am_catn).sum ≤ 8) (hk : k + Mc.2.2.2.2.2.1.1 ≤ M.2.2.2.2.2.1.1) (hn : n + Mc.2.2.2.2.2.1.2 ≤ M.2.2.2.2.2.1.2)
    {XE : Nat → am_T} (hX : am_xh d M pc (k + Mc.2.2.2.2.2.1.1) (n + Mc.2.2.2.2.2.1.2) ls st z Q X XE) (h : am_C (d - 1) Mc (am_r b :: vs) K N I P z (am_next d M Mc pc k n ls st Q X) XE) : am_E d M pc k n ls stk K N I P z Q X := by
  subst hstk
  intro l p e R s m args below meth c B D cA ρ0 N0 I0 hc hf ρ1 z1 ρ H locs lsR ha
  obtain ⟨hR, hS, hL, hst, hρ, hz⟩ := id ha
  obtain ⟨hlt, hx, hb, hr, hml, hown, hlocks, hts, htb, hnm, r1, r2, r3, r4⟩ := id hc
  have hvs : ∀ v ∈ vs, am_ok z v := fun v hv => hst v (List.mem_append_left _ (List.mem_reverse.mpr hv))
  have hs3 := List.forall_mem_cons.mp (show ∀ v ∈ am_r b :: st, am_ok z v from fun v hv => hst v (List.mem_append_right _ hv))
  have hs2 := hs3.2
  have hc9 := hcc.1
  obtain ⟨i1, i2⟩ := am_rep_id hR (a := b) (by omega)
  have hrec := va_recv hf.2.1 hR.1 (am_cl hc9) ((am_ws_at i1 i2).trans (by rw [am_ent_ob hK hc9]))
  have hrun := vx_runV (b := ρ b) (e := e) (locs := locs) (meth := meth) (below := below) (cells := k) (slots := n) (As := vs.map (am_cv ρ)) (rest := st.map (am_cv ρ)) (g := F0 m pc lsR ((vs.reverse ++ am_r b :: st).map (am_cv ρ))) ⟨hx, hb, hml, hown, hts⟩ (h l B D cA ρ0 N0 I0 ρ hlt)
    (cwV q hts (am_wdV hM hw1 hw2 hw3) (by unfold am_wds; rw [am_word0 hh]) rfl rfl ⟨rfl, hM.2.2.2.2.1.1, hM.2.2.2.2.1.2, hM.2.2.2.2.2.1⟩ (am_room hM hd1 hc))
    ⟨am_Pc_blind, by rw [hcc.2]; exact hrec, fun U hU hW => ⟨rfl, am_fact_at hf hS hU hW, by rw [hU]; exact hR, List.forall_mem_cons.mpr ⟨hs3.1, hvs⟩⟩⟩
    rfl (by rw [List.length_map]; exact hq) hL.1.1 (by rw [List.map_append, List.map_reverse] <;> rfl) (am_blk hs2 hsm) hd ⟨by omega, by omega⟩
  exact am_go hc hf hS hL hs2 hρ hz hrun (hX l p e R s m args below meth c B D cA ρ0 N0 I0 ρ1 z1 ρ lsR hc hf hL hρ hz)
theorem e_callS (hd : decode M.2.2.1 pc = .ok (.invokestatic idx, 3)) (hM : am_okM Mc q) (hh : Mc.2.2.2.2.2.2 = []) (hw1 : Cond.methodLink M.1 idx Mc.2.1 ∈ am_good) (hw2 : Cond.static Mc.2.1 ∈ am_good) (hstk : stk = vs.reverse ++ st) (hq : vs.length = q) (hd1 : 1 ≤ d) (hsm : (st.map am_catn).sum ≤ 8) (hk : k + Mc.2.2.2.2.2.1.1 ≤ M.2.2.2.2.2.1.1) (hn : n + Mc.2.2.2.2.2.1.2 ≤ M.2.2.2.2.2.1.2)
    {XE : Nat → am_T} (hX : am_xh d M pc (k + Mc.2.2.2.2.2.1.1) (n + Mc.2.2.2.2.2.1.2) ls st z Q X XE) (h : am_C (d - 1) Mc vs K N I P z (am_next d M Mc pc k n ls st Q X) XE) : am_E d M pc k n ls stk K N I P z Q X := by
  subst hstk
  intro l p e R s m args below meth c B D cA ρ0 N0 I0 hc hf ρ1 z1 ρ H locs lsR ha
  obtain ⟨hR, hS, hL, hst, hρ, hz⟩ := id ha
  obtain ⟨hlt, hx, hb, hr, hml, hown, hlocks, hts, htb, hnm, r1, r2, r3, r4⟩ := id hc
  have hvs : ∀ v ∈ vs, am_ok z v := fun v hv => hst v (List.mem_append_left _ (List.mem_reverse.mpr hv))
  have hs2 : ∀ v ∈ st, am_ok z v := fun v hv => hst v (List.mem_append_right _ hv)
  have hrun := vx_runS (e := e) (locs := locs) (meth := meth) (below := below) (cells := k) (slots := n) (As := vs.map (am_cv ρ)) (rest := st.map (am_cv ρ)) (g := F0 m pc lsR ((vs.reverse ++ st).map (am_cv ρ))) ⟨hx, hb, hml, hown, hts⟩ (h l B D cA ρ0 N0 I0 ρ hlt)
    (va_cwS q hts (am_wdS hM hw1 hw2) (by unfold am_wds; rw [am_word0 hh]) rfl rfl ⟨hM.2.2.2.2.1.1, hM.2.2.2.2.1.2, hM.2.2.2.2.2.1⟩ (am_room hM hd1 hc))
    ⟨am_Pc_blind, fun U hU hW => ⟨rfl, am_fact_at hf hS hU hW, by rw [hU]; exact hR, hvs⟩⟩
    rfl (by rw [List.length_map]; exact hq) hL.1.1 (by rw [List.map_append, List.map_reverse] <;> rfl) (am_blk hs2 hsm) hd ⟨by omega, by omega⟩
  exact am_go hc hf hS hL hs2 hρ hz hrun (hX l p e R s m args below meth c B D cA ρ0 N0 I0 ρ1 z1 ρ lsR hc hf hL hρ hz)
theorem e_callSX {x9 : Nat × Nat × Nat × Nat} {t9 : List (Nat × Nat × Nat × Nat)} (hd : decode M.2.2.1 pc = .ok (.invokestatic idx, 3)) (hM : am_okM Mc q) (hh : Mc.2.2.2.2.2.2 = x9 :: t9) (hw1 : Cond.methodLink M.1 idx Mc.2.1 ∈ am_good) (hw2 : Cond.static Mc.2.1 ∈ am_good) (hstk : stk = vs.reverse ++ st) (hq : vs.length = q) (hd1 : 1 ≤ d) (hsm : (st.map am_catn).sum ≤ 8) (hk : k + Mc.2.2.2.2.2.1.1 ≤ M.2.2.2.2.2.1.1) (hn : n + Mc.2.2.2.2.2.1.2 ≤ M.2.2.2.2.2.1.2)
    {XE : Nat → am_T} (hX : am_xh d M pc (k + Mc.2.2.2.2.2.1.1) (n + Mc.2.2.2.2.2.1.2) ls st z Q X XE) (h : am_C (d - 1) Mc vs K N I P z (am_next d M Mc pc k n ls st Q X) XE) : am_E d M pc k n ls stk K N I P z Q X := by
  subst hstk
  intro l p e R s m args below meth c B D cA ρ0 N0 I0 hc hf ρ1 z1 ρ H locs lsR ha
  obtain ⟨hR, hS, hL, hst, hρ, hz⟩ := id ha
  obtain ⟨hlt, hx, hb, hr, hml, hown, hlocks, hts, htb, hnm, r1, r2, r3, r4⟩ := id hc
  have hvs : ∀ v ∈ vs, am_ok z v := fun v hv => hst v (List.mem_append_left _ (List.mem_reverse.mpr hv))
  have hs2 : ∀ v ∈ st, am_ok z v := fun v hv => hst v (List.mem_append_right _ hv)
  have hrun := vx_runSX (e := e) (locs := locs) (meth := meth) (below := below) (cells := k) (slots := n) (As := vs.map (am_cv ρ)) (rest := st.map (am_cv ρ)) (g := F0 m pc lsR ((vs.reverse ++ st).map (am_cv ρ))) ⟨hx, hb, hml, hown, hts⟩ (h l B D cA ρ0 N0 I0 ρ hlt)
    (vx_cwSW (hh := Mc.2.2.2.2.2.2) q hts (am_wdS hM hw1 hw2) (by unfold am_wds; rw [am_word1 hh]) rfl rfl ⟨hM.2.2.2.2.1.1, hM.2.2.2.2.1.2, hM.2.2.2.2.2.1⟩ (am_room hM hd1 hc))
    ⟨am_Pc_blind, fun U hU hW => ⟨rfl, am_fact_at hf hS hU hW, by rw [hU]; exact hR, hvs⟩⟩
    rfl (by rw [List.length_map]; exact hq) hL.1.1 (by rw [List.map_append, List.map_reverse] <;> rfl) (am_blk hs2 hsm) hd ⟨by omega, by omega⟩
  exact am_go hc hf hS hL hs2 hρ hz hrun (hX l p e R s m args below meth c B D cA ρ0 N0 I0 ρ1 z1 ρ lsR hc hf hL hρ hz)
theorem e_callI {b : Nat} (hd : decode M.2.2.1 pc = .ok (.invokespecial idx, 3)) (hM : am_okM Mc q) (hh : Mc.2.2.2.2.2.2 = []) (hrt : Mc.2.2.2.2.1 = none) (hw1 : Cond.methodLink M.1 idx Mc.2.1 ∈ am_good) (hw2 : Cond.instanceMethod Mc.2.1 ∈ am_good) (hy : Mc.2.1.name = "<init>") (hstk : stk = vs.reverse ++ am_r b :: st) (hq : vs.length = q) (hd1 : 1 ≤ d) (hsm : (st.map am_catn).sum ≤ 8) (hk : k + Mc.2.2.2.2.2.1.1 ≤ M.2.2.2.2.2.1.1) (hn : n + Mc.2.2.2.2.2.1.2 ≤ M.2.2.2.2.2.1.2)
    {XE : Nat → am_T} (hX : am_xh d M pc (k + Mc.2.2.2.2.2.1.1) (n + Mc.2.2.2.2.2.1.2) ls st z Q X XE) (h : am_C (d - 1) Mc (am_r b :: vs) K N I P z (am_next d M Mc pc k n ls st Q X) XE) : am_E d M pc k n ls stk K N I P z Q X := by
  subst hstk
  intro l p e R s m args below meth c B D cA ρ0 N0 I0 hc hf ρ1 z1 ρ H locs lsR ha
  obtain ⟨hR, hS, hL, hst, hρ, hz⟩ := id ha
  obtain ⟨hlt, hx, hb, hr, hml, hown, hlocks, hts, htb, hnm, r1, r2, r3, r4⟩ := id hc
  have hvs : ∀ v ∈ vs, am_ok z v := fun v hv => hst v (List.mem_append_left _ (List.mem_reverse.mpr hv))
  have hs3 := List.forall_mem_cons.mp (show ∀ v ∈ am_r b :: st, am_ok z v from fun v hv => hst v (List.mem_append_right _ hv))
  have hs2 := hs3.2
  have hrun := vx_runI (b := ρ b) (e := e) (locs := locs) (meth := meth) (below := below) (cells := k) (slots := n) (As := vs.map (am_cv ρ)) (rest := st.map (am_cv ρ)) (g := F0 m pc lsR ((vs.reverse ++ am_r b :: st).map (am_cv ρ))) ⟨hx, hb, hml, hown, hts⟩ (h l B D cA ρ0 N0 I0 ρ hlt)
    (cwI q hts (am_good_mem (am_wds_mem hM)) (by unfold am_wds; rw [am_word0 hh, hrt]) rfl rfl (hts _ hM.2.2.2.1) (hts _ hw1) (hts _ hw2) hy ⟨hM.2.2.2.2.1.1, hM.2.2.2.2.1.2, hM.2.2.2.2.2.1⟩ (am_room hM hd1 hc))
    ⟨am_Pc_blind, fun U hU hW => ⟨rfl, am_fact_at hf hS hU hW, by rw [hU]; exact hR, List.forall_mem_cons.mpr ⟨hs3.1, hvs⟩⟩⟩
    rfl (by rw [List.length_map]; exact hq) hL.1.1 (by rw [List.map_append, List.map_reverse] <;> rfl) (am_blk hs2 hsm) hd ⟨by omega, by omega⟩
  exact am_go hc hf hS hL hs2 hρ hz hrun (hX l p e R s m args below meth c B D cA ρ0 N0 I0 ρ1 z1 ρ lsR hc hf hL hρ hz)
theorem e_callIN {b : Nat} {host : String} (hd : decode M.2.2.1 pc = .ok (.invokespecial idx, 3)) (hM : am_okM Mc q) (hh : Mc.2.2.2.2.2.2 = []) (hrt : Mc.2.2.2.2.1 = none) (hw1 : (M.1, idx, Mc.2.1, host) ∈ am_nws) (hw2 : Cond.instanceMethod Mc.2.1 ∈ am_good) (hy : Mc.2.1.name = "<init>") (hstk : stk = vs.reverse ++ am_r b :: st) (hq : vs.length = q) (hd1 : 1 ≤ d) (hsm : (st.map am_catn).sum ≤ 8) (hk : k + Mc.2.2.2.2.2.1.1 ≤ M.2.2.2.2.2.1.1) (hn : n + Mc.2.2.2.2.2.1.2 ≤ M.2.2.2.2.2.1.2)
    {XE : Nat → am_T} (hX : am_xh d M pc (k + Mc.2.2.2.2.2.1.1) (n + Mc.2.2.2.2.2.1.2) ls st z Q X XE) (h : am_C (d - 1) Mc (am_r b :: vs) K N I P z (am_next d M Mc pc k n ls st Q X) XE) : am_E d M pc k n ls stk K N I P z Q X := by
  subst hstk
  intro l p e R s m args below meth c B D cA ρ0 N0 I0 hc hf ρ1 z1 ρ H locs lsR ha
  obtain ⟨hR, hS, hL, hst, hρ, hz⟩ := id ha
  obtain ⟨hlt, hx, hb, hr, hml, hown, hlocks, hts, htb, hnm, r1, r2, r3, r4⟩ := id hc
  have hvs : ∀ v ∈ vs, am_ok z v := fun v hv => hst v (List.mem_append_left _ (List.mem_reverse.mpr hv))
  have hs3 := List.forall_mem_cons.mp (show ∀ v ∈ am_r b :: st, am_ok z v from fun v hv => hst v (List.mem_append_right _ hv))
  have hs2 := hs3.2
  have hrun := vx_runIN (b := ρ b) (e := e) (locs := locs) (meth := meth) (below := below) (cells := k) (slots := n) (As := vs.map (am_cv ρ)) (rest := st.map (am_cv ρ)) (g := F0 m pc lsR ((vs.reverse ++ am_r b :: st).map (am_cv ρ))) ⟨hx, hb, hml, hown, hts⟩ (h l B D cA ρ0 N0 I0 ρ hlt)
    (⟨va_cnB q hts (am_good_mem (am_wds_mem hM)) (by unfold am_wds; rw [am_word0 hh, hrt]) rfl rfl (hf.2.2.2.2.2.2.2.1 _ hw1) (hts _ hM.2.2.2.1) ⟨hM.2.2.2.2.1.1, hM.2.2.2.2.1.2, hM.2.2.2.2.2.1⟩ (am_room hM hd1 hc), hy, hts _ hw2⟩)
    ⟨am_Pc_blind, fun U hU hW => ⟨rfl, am_fact_at hf hS hU hW, by rw [hU]; exact hR, List.forall_mem_cons.mpr ⟨hs3.1, hvs⟩⟩⟩
    rfl (by rw [List.length_map]; exact hq) hL.1.1 (by rw [List.map_append, List.map_reverse] <;> rfl) (am_blk hs2 hsm) hd ⟨by omega, by omega⟩
  exact am_go hc hf hS hL hs2 hρ hz hrun (hX l p e R s m args below meth c B D cA ρ0 N0 I0 ρ1 z1 ρ lsR hc hf hL hρ hz)
end
