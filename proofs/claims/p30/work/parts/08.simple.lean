def am_isref (v : am_V) : Prop := match v with
  | .inr (.inr (.ref _)) => True
  | .inr (.inr .null) => True
  | _ => False
theorem am_isref_or {v : am_V} (h : am_isref v) : (∃ a, v = am_r a) ∨ v = am_nl := by
  rcases v with x | x | x
  · exact h.elim
  · exact h.elim
  · cases x <;> first | exact h.elim | exact Or.inr rfl | exact Or.inl ⟨_, rfl⟩
theorem am_isref_o (o : Option Nat) : am_isref (am_o o) := by cases o <;> trivial
theorem am_ifn_or {v : am_V} {A B : Prop} (h : am_ifn v A B) : ((∃ a, v = am_r a) ∧ B) ∨ (v = am_nl ∧ A) := by
  rcases v with x | x | x
  · exact h.elim
  · exact h.elim
  · cases x <;> first | exact h.elim | exact Or.inr ⟨rfl, h⟩ | exact Or.inl ⟨⟨_, rfl⟩, h⟩
theorem am_ob_or {v : am_V} {f : Nat → Prop} (h : am_ob v f) : ∃ a, v = am_r a ∧ f a := by
  rcases v with x | x | x
  · exact h.elim
  · exact h.elim
  · cases x <;> first | exact h.elim | exact ⟨_, rfl, h⟩
def am_v1 (v : am_V) : Bool := match v with
  | .inl _ => true
  | .inr (.inr (.ref _)) => true
  | .inr (.inr .null) => true
  | _ => false
theorem am_v1_cat {ρ : Nat → Nat} {v : am_V} (h : am_v1 v = true) : (am_cv ρ v).category = 1 := by
  rcases v with x | x | x
  · rfl
  · cases h
  · cases x <;> first | (cases h; done) | rfl
theorem am_v1all (vs : List am_V) (h : vs.all am_v1 = true) : ∀ v ∈ vs, am_v1 v = true := fun v hv => List.all_eq_true.mp h v hv
theorem am_toInt_in (x : Int32) : am_in x.toInt := ⟨by have := Int32.le_toInt x; omega, by have := Int32.toInt_lt x; omega⟩
theorem am_div {x y : Int} (hx : am_in x) (hy : am_in y) : Int32.ofInt x / Int32.ofInt y = Int32.ofInt (x.tdiv y) := by
  rw [← Int32.toInt_inj, Int32.toInt_div, am_toInt hx, am_toInt hy, Int32.toInt_ofInt]
theorem am_lcmp_eq (x : Int) : lg_cmp (Int64.ofInt x) (Int64.ofInt x) = 0 := by simp [lg_cmp]
theorem am_eq64 {x y : Int} (hx : am_in x) (hy : am_in y) : Int64.ofInt x = Int64.ofInt y ↔ x = y := by rw [← Int64.toInt_inj, am_toInt64 hx, am_toInt64 hy]
theorem am_lcmp_ne {x y : Int} (hx : am_in x) (hy : am_in y) (h : ¬ x = y) : ∃ v : Int, ¬ v = 0 ∧ am_in v ∧ lg_cmp (Int64.ofInt x) (Int64.ofInt y) = Int32.ofInt v := by
  have h2 : ¬ Int64.ofInt x = Int64.ofInt y := fun q => h ((am_eq64 hx hy).mp q)
  unfold lg_cmp
  by_cases h3 : Int64.ofInt y < Int64.ofInt x
  · exact ⟨1, by decide, ⟨by decide, by decide⟩, by simp [h3]⟩
  · exact ⟨-1, by decide, ⟨by decide, by decide⟩, by simp [h3, h2]⟩
/-- a table of jumps: f at the offset of x's row -/
def am_sw (f : Int → Prop) (x lo : Int) : List Int → Prop
  | [] => True
  | o :: r => (x = lo → f o) ∧ am_sw f x (lo + 1) r
def am_swp (pc : Nat) (l : List Int) : Bool := l.all (fun o => decide (0 ≤ (pc : Int) + o))
theorem am_sw_at {f : Int → Prop} {x : Int} {pc : Nat} : ∀ {l : List Int} {lo : Int}, am_sw f x lo l → ∀ i : Nat, i < l.length → x = lo + i → am_swp pc l = true → ∃ o, l[i]? = some o ∧ f o ∧ 0 ≤ (pc : Int) + o
  | [], _, _, i, hi, _, _ => absurd hi (Nat.not_lt_zero i)
  | o :: r, lo, h, 0, _, hx, hp => ⟨o, rfl, h.1 (by omega), by have := (List.all_eq_true.mp hp) o List.mem_cons_self; simpa using this⟩
  | o :: r, lo, h, i + 1, hi, hx, hp => by
    obtain ⟨q, h1, h2, h3⟩ := am_sw_at (pc := pc) h.2 i (by simpa using hi) (by omega) (List.all_eq_true.mpr fun y hy => (List.all_eq_true.mp hp) y (List.mem_cons_of_mem _ hy))
    exact ⟨q, by simpa using h1, h2, h3⟩
def am_lsw (f : Int → Prop) (x dflt : Int) : List (Int × Int) → Prop
  | [] => f dflt
  | q :: r => (x = q.1 → f q.2) ∧ (¬ x = q.1 → am_lsw f x dflt r)
theorem am_lsw_at {f : Int → Prop} {x dflt : Int} {pc : Nat} : ∀ {l : List (Int × Int)}, am_lsw f x dflt l → am_swp pc (dflt :: l.map (·.2)) = true → ∃ o, Op.lookupswitch.offset l dflt x = o ∧ f o ∧ 0 ≤ (pc : Int) + o
  | [], h, hp => ⟨dflt, rfl, h, by have := (List.all_eq_true.mp hp) dflt List.mem_cons_self; simpa using this⟩
  | q :: r, h, hp => by
    by_cases hq : x = q.1
    · refine ⟨q.2, ?_, h.1 hq, ?_⟩
      · simp [Op.lookupswitch.offset, hq]
      · have := (List.all_eq_true.mp hp) q.2 (by simp)
        simpa using this
    · obtain ⟨o, h1, h2, h3⟩ := am_lsw_at (pc := pc) (h.2 hq) (List.all_eq_true.mpr fun y hy => (List.all_eq_true.mp hp) y (by
        rcases List.mem_cons.mp hy with rfl | hy
        · exact List.mem_cons_self
        · exact List.mem_cons_of_mem _ (List.mem_cons_of_mem _ hy)))
      refine ⟨o, ?_, h2, h3⟩
      rw [← h1]
      simp [Op.lookupswitch.offset, Ne.symm hq, hq]
section
variable {d : Nat} {M : am_M} {pc k n : Nat} {ls : List (Option am_V)} {st : List am_V} {K N : Nat → Nat} {I : Nat → Nat → Int} {P : Nat → Nat → Option Nat} {z : Nat} {Q : am_V → am_T} {X : Nat → am_T}
theorem e_iconst {v : Int} (hd : decode M.2.2.1 pc = .ok (.iconst v, 1)) (h : am_E d M (pc + 1) k n ls (.inl v :: st) K N I P z Q X) (hv : -2147483648 ≤ v ∧ v ≤ 2147483647 := by decide) : am_E d M pc k n ls st K N I P z Q X := by
  intro l p e R s m args below meth c B D cA ρ0 N0 I0 hc hf ρ1 z1 ρ H locs lsR ha
  obtain ⟨hR, hS, hL, hst, hρ, hz⟩ := id ha
  have hx := hc.2.1
  have hb := hc.2.2.1
  exact lv_iconst hx hb hd rfl (h l p e R s m args below meth c B D cA ρ0 N0 I0 hc hf ρ1 z1 ρ H locs lsR ⟨hR, hS, hL, List.forall_mem_cons.mpr ⟨hv, hst⟩, hρ, hz⟩)
theorem e_bipush {v : Int} (hd : decode M.2.2.1 pc = .ok (.bipush v, 2)) (h : am_E d M (pc + 2) k n ls (.inl v :: st) K N I P z Q X) (hw : (Int8.ofInt v).toInt32 = Int32.ofInt v := by decide) (hv : -2147483648 ≤ v ∧ v ≤ 2147483647 := by decide) : am_E d M pc k n ls st K N I P z Q X := by
  intro l p e R s m args below meth c B D cA ρ0 N0 I0 hc hf ρ1 z1 ρ H locs lsR ha
  obtain ⟨hR, hS, hL, hst, hρ, hz⟩ := id ha
  have hx := hc.2.1
  have hb := hc.2.2.1
  exact lv_bipush hx hb hd hw (h l p e R s m args below meth c B D cA ρ0 N0 I0 hc hf ρ1 z1 ρ H locs lsR ⟨hR, hS, hL, List.forall_mem_cons.mpr ⟨hv, hst⟩, hρ, hz⟩)
theorem e_sipush {v : Int} (hd : decode M.2.2.1 pc = .ok (.sipush v, 3)) (h : am_E d M (pc + 3) k n ls (.inl v :: st) K N I P z Q X) (hw : (Int16.ofInt v).toInt32 = Int32.ofInt v := by decide) (hv : -2147483648 ≤ v ∧ v ≤ 2147483647 := by decide) : am_E d M pc k n ls st K N I P z Q X := by
  intro l p e R s m args below meth c B D cA ρ0 N0 I0 hc hf ρ1 z1 ρ H locs lsR ha
  obtain ⟨hR, hS, hL, hst, hρ, hz⟩ := id ha
  have hx := hc.2.1
  have hb := hc.2.2.1
  exact lv_sipush hx hb hd hw (h l p e R s m args below meth c B D cA ρ0 N0 I0 hc hf ρ1 z1 ρ H locs lsR ⟨hR, hS, hL, List.forall_mem_cons.mpr ⟨hv, hst⟩, hρ, hz⟩)
theorem e_ldc {idx : Nat} {v : Int} (hd : decode M.2.2.1 pc = .ok (.ldc idx, 2)) (hw : Cond.constant M.1 idx (Int32.ofInt v) ∈ am_good) (h : am_E d M (pc + 2) k n ls (.inl v :: st) K N I P z Q X) (hv : -2147483648 ≤ v ∧ v ≤ 2147483647 := by decide) : am_E d M pc k n ls st K N I P z Q X := by
  intro l p e R s m args below meth c B D cA ρ0 N0 I0 hc hf ρ1 z1 ρ H locs lsR ha
  obtain ⟨hR, hS, hL, hst, hρ, hz⟩ := id ha
  have hx := hc.2.1
  have hb := hc.2.2.1
  exact lv_ldc hx hb hc.2.2.2.2.2.1 (hc.2.2.2.2.2.2.2.1 _ hw) hd (h l p e R s m args below meth c B D cA ρ0 N0 I0 hc hf ρ1 z1 ρ H locs lsR ⟨hR, hS, hL, List.forall_mem_cons.mpr ⟨hv, hst⟩, hρ, hz⟩)
theorem e_null  (hd : decode M.2.2.1 pc = .ok (.aconst_null, 1)) (h : am_E d M (pc + 1) k n ls (am_nl :: st) K N I P z Q X) : am_E d M pc k n ls st K N I P z Q X := by
  intro l p e R s m args below meth c B D cA ρ0 N0 I0 hc hf ρ1 z1 ρ H locs lsR ha
  obtain ⟨hR, hS, hL, hst, hρ, hz⟩ := id ha
  have hx := hc.2.1
  have hb := hc.2.2.1
  exact lv_null hx hb hd (h l p e R s m args below meth c B D cA ρ0 N0 I0 hc hf ρ1 z1 ρ H locs lsR ⟨hR, hS, hL, List.forall_mem_cons.mpr ⟨trivial, hst⟩, hρ, hz⟩)
theorem e_dconst1  (hd : decode M.2.2.1 pc = .ok (.dconst 1, 1)) (h : am_E d M (pc + 1) k n ls (am_d FP.dconst1 :: st) K N I P z Q X) : am_E d M pc k n ls st K N I P z Q X := by
  intro l p e R s m args below meth c B D cA ρ0 N0 I0 hc hf ρ1 z1 ρ H locs lsR ha
  obtain ⟨hR, hS, hL, hst, hρ, hz⟩ := id ha
  have hx := hc.2.1
  have hb := hc.2.2.1
  exact lv_dconst1 hx hb hd (h l p e R s m args below meth c B D cA ρ0 N0 I0 hc hf ρ1 z1 ρ H locs lsR ⟨hR, hS, hL, List.forall_mem_cons.mpr ⟨trivial, hst⟩, hρ, hz⟩)
theorem e_iload_n {j : Fin 4} {x : Int} (hd : decode M.2.2.1 pc = .ok (.iload_n j, 1)) (hl : ls[(j : Nat)]? = some (some (.inl x))) (h : am_E d M (pc + 1) k n ls (.inl x :: st) K N I P z Q X) : am_E d M pc k n ls st K N I P z Q X := by
  intro l p e R s m args below meth c B D cA ρ0 N0 I0 hc hf ρ1 z1 ρ H locs lsR ha
  obtain ⟨hR, hS, hL, hst, hρ, hz⟩ := id ha
  have hx := hc.2.1
  have hb := hc.2.2.1
  exact lv_iload_n hx hb hd rfl (am_loc_get hL hl) (h l p e R s m args below meth c B D cA ρ0 N0 I0 hc hf ρ1 z1 ρ H locs lsR ⟨hR, hS, hL, List.forall_mem_cons.mpr ⟨hL.2.2 _ _ hl, hst⟩, hρ, hz⟩)
theorem e_dload_n {j : Fin 4} {x : UInt64} (hd : decode M.2.2.1 pc = .ok (.dload_n j, 1)) (hl : ls[(j : Nat)]? = some (some (am_d x))) (h : am_E d M (pc + 1) k n ls (am_d x :: st) K N I P z Q X) : am_E d M pc k n ls st K N I P z Q X := by
  intro l p e R s m args below meth c B D cA ρ0 N0 I0 hc hf ρ1 z1 ρ H locs lsR ha
  obtain ⟨hR, hS, hL, hst, hρ, hz⟩ := id ha
  have hx := hc.2.1
  have hb := hc.2.2.1
  exact lv_dload_n hx hb hd rfl (am_loc_get hL hl) (h l p e R s m args below meth c B D cA ρ0 N0 I0 hc hf ρ1 z1 ρ H locs lsR ⟨hR, hS, hL, List.forall_mem_cons.mpr ⟨hL.2.2 _ _ hl, hst⟩, hρ, hz⟩)
theorem e_aload_n {j : Fin 4} {v : am_V} (hd : decode M.2.2.1 pc = .ok (.aload_n j, 1)) (hl : ls[(j : Nat)]? = some (some v)) (hv : am_isref v) (h : am_E d M (pc + 1) k n ls (v :: st) K N I P z Q X) : am_E d M pc k n ls st K N I P z Q X := by
  intro l p e R s m args below meth c B D cA ρ0 N0 I0 hc hf ρ1 z1 ρ H locs lsR ha
  obtain ⟨hR, hS, hL, hst, hρ, hz⟩ := id ha
  have hx := hc.2.1
  have hb := hc.2.2.1
  have hg := am_loc_get hL hl
  have hh := h l p e R s m args below meth c B D cA ρ0 N0 I0 hc hf ρ1 z1 ρ H locs lsR ⟨hR, hS, hL, List.forall_mem_cons.mpr ⟨hL.2.2 _ _ hl, hst⟩, hρ, hz⟩
  obtain ⟨a, rfl⟩ | rfl := am_isref_or hv
  · exact lv_aload_n hx hb hd rfl hg hh
  · exact lv_aload_nN hx hb hd rfl hg hh
theorem e_istore_n {j : Fin 4} {x : Int} (hd : decode M.2.2.1 pc = .ok (.istore_n j, 1)) (h : am_E d M (pc + 1) k n (ls.set (j : Nat) (some (.inl x))) st K N I P z Q X) (hc2 : am_c2 ls (j : Nat) = false := by rfl) (hn : (j : Nat) < M.2.2.2.1 := by decide) : am_E d M pc k n ls (.inl x :: st) K N I P z Q X := by
  intro l p e R s m args below meth c B D cA ρ0 N0 I0 hc hf ρ1 z1 ρ H locs lsR ha
  obtain ⟨hR, hS, hL, hst, hρ, hz⟩ := id ha
  have hx := hc.2.1
  have hb := hc.2.2.1
  have hv := List.forall_mem_cons.mp hst
  exact lv_istore_n hx hb hd rfl hL.1 hn rfl (fun ls' hl' => h l p e R s m args below meth c B D cA ρ0 N0 I0 hc hf ρ1 z1 ρ H locs ls' ⟨hR, hS, am_loc_set hL hv.1 hc2 hl', hv.2, hρ, hz⟩)
theorem e_dstore_n {j : Fin 4} {x : UInt64} (hd : decode M.2.2.1 pc = .ok (.dstore_n j, 1)) (h : am_E d M (pc + 1) k n ((ls.set (j : Nat) (some (am_d x))).set ((j : Nat) + 1) none) st K N I P z Q X) (hc2 : am_c2 ls (j : Nat) = false := by rfl) (hn : (j : Nat) + 1 < M.2.2.2.1 := by decide) : am_E d M pc k n ls (am_d x :: st) K N I P z Q X := by
  intro l p e R s m args below meth c B D cA ρ0 N0 I0 hc hf ρ1 z1 ρ H locs lsR ha
  obtain ⟨hR, hS, hL, hst, hρ, hz⟩ := id ha
  have hx := hc.2.1
  have hb := hc.2.2.1
  have hv := List.forall_mem_cons.mp hst
  exact lv_dstore_n hx hb hd rfl hL.1 hn rfl (fun ls' hl' => h l p e R s m args below meth c B D cA ρ0 N0 I0 hc hf ρ1 z1 ρ H locs ls' ⟨hR, hS, am_loc_set2 hL hv.1 hc2 hl', hv.2, hρ, hz⟩)
theorem e_astore_n {j : Fin 4} {v : am_V} (hd : decode M.2.2.1 pc = .ok (.astore_n j, 1)) (hr : am_isref v) (h : am_E d M (pc + 1) k n (ls.set (j : Nat) (some v)) st K N I P z Q X) (hc2 : am_c2 ls (j : Nat) = false := by rfl) (hn : (j : Nat) < M.2.2.2.1 := by decide) : am_E d M pc k n ls (v :: st) K N I P z Q X := by
  intro l p e R s m args below meth c B D cA ρ0 N0 I0 hc hf ρ1 z1 ρ H locs lsR ha
  obtain ⟨hR, hS, hL, hst, hρ, hz⟩ := id ha
  have hx := hc.2.1
  have hb := hc.2.2.1
  have hv := List.forall_mem_cons.mp hst
  obtain ⟨a, rfl⟩ | rfl := am_isref_or hr
  · exact lv_astore_n hx hb hd rfl hL.1 hn rfl (fun ls' hl' => h l p e R s m args below meth c B D cA ρ0 N0 I0 hc hf ρ1 z1 ρ H locs ls' ⟨hR, hS, am_loc_set hL hv.1 hc2 hl', hv.2, hρ, hz⟩)
  · exact lv_astore_nN hx hb hd rfl hL.1 hn rfl (fun ls' hl' => h l p e R s m args below meth c B D cA ρ0 N0 I0 hc hf ρ1 z1 ρ H locs ls' ⟨hR, hS, am_loc_set hL hv.1 hc2 hl', hv.2, hρ, hz⟩)
theorem e_iload {j : Nat} {x : Int} (hd : decode M.2.2.1 pc = .ok (.iload j, 2)) (hl : ls[j]? = some (some (.inl x))) (h : am_E d M (pc + 2) k n ls (.inl x :: st) K N I P z Q X) : am_E d M pc k n ls st K N I P z Q X := by
  intro l p e R s m args below meth c B D cA ρ0 N0 I0 hc hf ρ1 z1 ρ H locs lsR ha
  obtain ⟨hR, hS, hL, hst, hρ, hz⟩ := id ha
  have hx := hc.2.1
  have hb := hc.2.2.1
  exact lv_iload hx hb hd (am_loc_get hL hl) (h l p e R s m args below meth c B D cA ρ0 N0 I0 hc hf ρ1 z1 ρ H locs lsR ⟨hR, hS, hL, List.forall_mem_cons.mpr ⟨hL.2.2 _ _ hl, hst⟩, hρ, hz⟩)
theorem e_dload {j : Nat} {x : UInt64} (hd : decode M.2.2.1 pc = .ok (.dload j, 2)) (hl : ls[j]? = some (some (am_d x))) (h : am_E d M (pc + 2) k n ls (am_d x :: st) K N I P z Q X) : am_E d M pc k n ls st K N I P z Q X := by
  intro l p e R s m args below meth c B D cA ρ0 N0 I0 hc hf ρ1 z1 ρ H locs lsR ha
  obtain ⟨hR, hS, hL, hst, hρ, hz⟩ := id ha
  have hx := hc.2.1
  have hb := hc.2.2.1
  exact lv_dload hx hb hd (am_loc_get hL hl) (h l p e R s m args below meth c B D cA ρ0 N0 I0 hc hf ρ1 z1 ρ H locs lsR ⟨hR, hS, hL, List.forall_mem_cons.mpr ⟨hL.2.2 _ _ hl, hst⟩, hρ, hz⟩)
theorem e_aload {j : Nat} {v : am_V} (hd : decode M.2.2.1 pc = .ok (.aload j, 2)) (hl : ls[j]? = some (some v)) (hv : am_isref v) (h : am_E d M (pc + 2) k n ls (v :: st) K N I P z Q X) : am_E d M pc k n ls st K N I P z Q X := by
  intro l p e R s m args below meth c B D cA ρ0 N0 I0 hc hf ρ1 z1 ρ H locs lsR ha
  obtain ⟨hR, hS, hL, hst, hρ, hz⟩ := id ha
  have hx := hc.2.1
  have hb := hc.2.2.1
  have hg := am_loc_get hL hl
  have hh := h l p e R s m args below meth c B D cA ρ0 N0 I0 hc hf ρ1 z1 ρ H locs lsR ⟨hR, hS, hL, List.forall_mem_cons.mpr ⟨hL.2.2 _ _ hl, hst⟩, hρ, hz⟩
  obtain ⟨a, rfl⟩ | rfl := am_isref_or hv
  · exact lv_aload hx hb hd hg hh
  · exact lv_aloadN hx hb hd hg hh
theorem e_istore {j : Nat} {x : Int} (hd : decode M.2.2.1 pc = .ok (.istore j, 2)) (h : am_E d M (pc + 2) k n (ls.set j (some (.inl x))) st K N I P z Q X) (hc2 : am_c2 ls j = false := by rfl) (hn : j < M.2.2.2.1 := by decide) : am_E d M pc k n ls (.inl x :: st) K N I P z Q X := by
  intro l p e R s m args below meth c B D cA ρ0 N0 I0 hc hf ρ1 z1 ρ H locs lsR ha
  obtain ⟨hR, hS, hL, hst, hρ, hz⟩ := id ha
  have hx := hc.2.1
  have hb := hc.2.2.1
  have hv := List.forall_mem_cons.mp hst
  exact lv_istore hx hb hd hL.1 hn rfl (fun ls' hl' => h l p e R s m args below meth c B D cA ρ0 N0 I0 hc hf ρ1 z1 ρ H locs ls' ⟨hR, hS, am_loc_set hL hv.1 hc2 hl', hv.2, hρ, hz⟩)
theorem e_dstore {j : Nat} {x : UInt64} (hd : decode M.2.2.1 pc = .ok (.dstore j, 2)) (h : am_E d M (pc + 2) k n ((ls.set j (some (am_d x))).set (j + 1) none) st K N I P z Q X) (hc2 : am_c2 ls j = false := by rfl) (hn : j + 1 < M.2.2.2.1 := by decide) : am_E d M pc k n ls (am_d x :: st) K N I P z Q X := by
  intro l p e R s m args below meth c B D cA ρ0 N0 I0 hc hf ρ1 z1 ρ H locs lsR ha
  obtain ⟨hR, hS, hL, hst, hρ, hz⟩ := id ha
  have hx := hc.2.1
  have hb := hc.2.2.1
  have hv := List.forall_mem_cons.mp hst
  exact lv_dstore hx hb hd hL.1 hn rfl (fun ls' hl' => h l p e R s m args below meth c B D cA ρ0 N0 I0 hc hf ρ1 z1 ρ H locs ls' ⟨hR, hS, am_loc_set2 hL hv.1 hc2 hl', hv.2, hρ, hz⟩)
theorem e_astore {j : Nat} {v : am_V} (hd : decode M.2.2.1 pc = .ok (.astore j, 2)) (hr : am_isref v) (h : am_E d M (pc + 2) k n (ls.set j (some v)) st K N I P z Q X) (hc2 : am_c2 ls j = false := by rfl) (hn : j < M.2.2.2.1 := by decide) : am_E d M pc k n ls (v :: st) K N I P z Q X := by
  intro l p e R s m args below meth c B D cA ρ0 N0 I0 hc hf ρ1 z1 ρ H locs lsR ha
  obtain ⟨hR, hS, hL, hst, hρ, hz⟩ := id ha
  have hx := hc.2.1
  have hb := hc.2.2.1
  have hv := List.forall_mem_cons.mp hst
  obtain ⟨a, rfl⟩ | rfl := am_isref_or hr
  · exact lv_astore hx hb hd hL.1 hn rfl (fun ls' hl' => h l p e R s m args below meth c B D cA ρ0 N0 I0 hc hf ρ1 z1 ρ H locs ls' ⟨hR, hS, am_loc_set hL hv.1 hc2 hl', hv.2, hρ, hz⟩)
  · exact lv_astoreN hx hb hd hL.1 hn rfl (fun ls' hl' => h l p e R s m args below meth c B D cA ρ0 N0 I0 hc hf ρ1 z1 ρ H locs ls' ⟨hR, hS, am_loc_set hL hv.1 hc2 hl', hv.2, hρ, hz⟩)
theorem e_iinc {j : Nat} {x v : Int} (hd : decode M.2.2.1 pc = .ok (.iinc j v, 3)) (hl : ls[j]? = some (some (.inl x))) (h : am_E d M (pc + 3) k n (ls.set j (some (.inl (am_wr (x + v))))) st K N I P z Q X) (hc2 : am_c2 ls j = false := by rfl) (hn : j < M.2.2.2.1 := by decide) : am_E d M pc k n ls st K N I P z Q X := by
  intro l p e R s m args below meth c B D cA ρ0 N0 I0 hc hf ρ1 z1 ρ H locs lsR ha
  obtain ⟨hR, hS, hL, hst, hρ, hz⟩ := id ha
  have hx := hc.2.1
  have hb := hc.2.2.1
  have hm : (j, am_cv ρ (.inl x)) ∈ am_ll ρ ls := List.mem_filterMap.mpr ⟨j, List.mem_range.mpr (List.getElem?_eq_some_iff.mp hl).1, by simp [hl]⟩
  obtain ⟨q, hq⟩ := List.getElem?_of_mem hm
  exact lv_iinc hx hb hd hL.1 hq (show Int32.ofInt x + Int32.ofInt v = Int32.ofInt (am_wr (x + v)) by rw [am_of_wr, Int32.ofInt_add]) hn rfl (fun ls' hl' => h l p e R s m args below meth c B D cA ρ0 N0 I0 hc hf ρ1 z1 ρ H locs ls' ⟨hR, hS, am_loc_set hL (v := .inl (am_wr (x + v))) (am_wr_in _) hc2 hl', hst, hρ, hz⟩)
theorem e_iadd {x y : Int} (hd : decode M.2.2.1 pc = .ok (.iadd, 1)) (h : am_E d M (pc + 1) k n ls (.inl (am_wr (x + y)) :: st) K N I P z Q X) : am_E d M pc k n ls (.inl y :: .inl x :: st) K N I P z Q X := by
  intro l p e R s m args below meth c B D cA ρ0 N0 I0 hc hf ρ1 z1 ρ H locs lsR ha
  obtain ⟨hR, hS, hL, hst, hρ, hz⟩ := id ha
  have hx := hc.2.1
  have hb := hc.2.2.1
  have hv := List.forall_mem_cons.mp hst
  have hv2 := List.forall_mem_cons.mp hv.2
  have hxi : am_in x := hv2.1
  have hyi : am_in y := hv.1
  have hh := h l p e R s m args below meth c B D cA ρ0 N0 I0 hc hf ρ1 z1 ρ H locs lsR ⟨hR, hS, hL, List.forall_mem_cons.mpr ⟨am_wr_in _, hv2.2⟩, hρ, hz⟩
  refine lv_iadd hx hb hd ?_
  rw [show Int32.ofInt x + Int32.ofInt y = Int32.ofInt (am_wr (x + y)) by rw [am_of_wr, Int32.ofInt_add]]
  exact hh
theorem e_isub {x y : Int} (hd : decode M.2.2.1 pc = .ok (.isub, 1)) (h : am_E d M (pc + 1) k n ls (.inl (am_wr (x - y)) :: st) K N I P z Q X) : am_E d M pc k n ls (.inl y :: .inl x :: st) K N I P z Q X := by
  intro l p e R s m args below meth c B D cA ρ0 N0 I0 hc hf ρ1 z1 ρ H locs lsR ha
  obtain ⟨hR, hS, hL, hst, hρ, hz⟩ := id ha
  have hx := hc.2.1
  have hb := hc.2.2.1
  have hv := List.forall_mem_cons.mp hst
  have hv2 := List.forall_mem_cons.mp hv.2
  have hxi : am_in x := hv2.1
  have hyi : am_in y := hv.1
  have hh := h l p e R s m args below meth c B D cA ρ0 N0 I0 hc hf ρ1 z1 ρ H locs lsR ⟨hR, hS, hL, List.forall_mem_cons.mpr ⟨am_wr_in _, hv2.2⟩, hρ, hz⟩
  refine lv_isub hx hb hd ?_
  rw [show Int32.ofInt x - Int32.ofInt y = Int32.ofInt (am_wr (x - y)) by rw [am_of_wr, Int32.ofInt_sub]]
  exact hh
theorem e_imul {x y : Int} (hd : decode M.2.2.1 pc = .ok (.imul, 1)) (h : am_E d M (pc + 1) k n ls (.inl (am_wr (x * y)) :: st) K N I P z Q X) : am_E d M pc k n ls (.inl y :: .inl x :: st) K N I P z Q X := by
  intro l p e R s m args below meth c B D cA ρ0 N0 I0 hc hf ρ1 z1 ρ H locs lsR ha
  obtain ⟨hR, hS, hL, hst, hρ, hz⟩ := id ha
  have hx := hc.2.1
  have hb := hc.2.2.1
  have hv := List.forall_mem_cons.mp hst
  have hv2 := List.forall_mem_cons.mp hv.2
  have hxi : am_in x := hv2.1
  have hyi : am_in y := hv.1
  have hh := h l p e R s m args below meth c B D cA ρ0 N0 I0 hc hf ρ1 z1 ρ H locs lsR ⟨hR, hS, hL, List.forall_mem_cons.mpr ⟨am_wr_in _, hv2.2⟩, hρ, hz⟩
  refine lv_imul hx hb hd ?_
  rw [show Int32.ofInt x * Int32.ofInt y = Int32.ofInt (am_wr (x * y)) by rw [am_of_wr, Int32.ofInt_mul]]
  exact hh
theorem e_idiv {x y : Int} (hd : decode M.2.2.1 pc = .ok (.idiv, 1)) (hy : ¬ y = 0) (h : am_E d M (pc + 1) k n ls (.inl (am_wr (x.tdiv y)) :: st) K N I P z Q X) : am_E d M pc k n ls (.inl y :: .inl x :: st) K N I P z Q X := by
  intro l p e R s m args below meth c B D cA ρ0 N0 I0 hc hf ρ1 z1 ρ H locs lsR ha
  obtain ⟨hR, hS, hL, hst, hρ, hz⟩ := id ha
  have hx := hc.2.1
  have hb := hc.2.2.1
  have hv := List.forall_mem_cons.mp hst
  have hv2 := List.forall_mem_cons.mp hv.2
  have hxi : am_in x := hv2.1
  have hyi : am_in y := hv.1
  have hh := h l p e R s m args below meth c B D cA ρ0 N0 I0 hc hf ρ1 z1 ρ H locs lsR ⟨hR, hS, hL, List.forall_mem_cons.mpr ⟨am_wr_in _, hv2.2⟩, hρ, hz⟩
  refine lv_idiv hx hb hd (fun q => hy ((am_eq hyi am_in0).mp q)) ?_
  rw [show Int32.ofInt x / Int32.ofInt y = Int32.ofInt (am_wr (x.tdiv y)) by rw [am_of_wr, am_div hxi hyi]]
  exact hh
theorem e_irem {x y : Int} (hd : decode M.2.2.1 pc = .ok (.irem, 1)) (hy : ¬ y = 0) (h : am_E d M (pc + 1) k n ls (.inl (am_wr (x - x.tdiv y * y)) :: st) K N I P z Q X) : am_E d M pc k n ls (.inl y :: .inl x :: st) K N I P z Q X := by
  intro l p e R s m args below meth c B D cA ρ0 N0 I0 hc hf ρ1 z1 ρ H locs lsR ha
  obtain ⟨hR, hS, hL, hst, hρ, hz⟩ := id ha
  have hx := hc.2.1
  have hb := hc.2.2.1
  have hv := List.forall_mem_cons.mp hst
  have hv2 := List.forall_mem_cons.mp hv.2
  have hxi : am_in x := hv2.1
  have hyi : am_in y := hv.1
  have hh := h l p e R s m args below meth c B D cA ρ0 N0 I0 hc hf ρ1 z1 ρ H locs lsR ⟨hR, hS, hL, List.forall_mem_cons.mpr ⟨am_wr_in _, hv2.2⟩, hρ, hz⟩
  refine lv_irem hx hb hd (fun q => hy ((am_eq hyi am_in0).mp q)) ?_
  rw [show Int32.ofInt x - Int32.ofInt x / Int32.ofInt y * Int32.ofInt y = Int32.ofInt (am_wr (x - x.tdiv y * y)) by rw [am_of_wr, Int32.ofInt_sub, Int32.ofInt_mul, am_div hxi hyi]]
  exact hh
theorem e_iand {x y : Int} (hd : decode M.2.2.1 pc = .ok (.iand, 1)) (h : am_E d M (pc + 1) k n ls (.inl (am_wr ((Int32.ofInt x &&& Int32.ofInt y).toInt)) :: st) K N I P z Q X) : am_E d M pc k n ls (.inl y :: .inl x :: st) K N I P z Q X := by
  intro l p e R s m args below meth c B D cA ρ0 N0 I0 hc hf ρ1 z1 ρ H locs lsR ha
  obtain ⟨hR, hS, hL, hst, hρ, hz⟩ := id ha
  have hx := hc.2.1
  have hb := hc.2.2.1
  have hv := List.forall_mem_cons.mp hst
  have hv2 := List.forall_mem_cons.mp hv.2
  have hxi : am_in x := hv2.1
  have hyi : am_in y := hv.1
  have hh := h l p e R s m args below meth c B D cA ρ0 N0 I0 hc hf ρ1 z1 ρ H locs lsR ⟨hR, hS, hL, List.forall_mem_cons.mpr ⟨am_wr_in _, hv2.2⟩, hρ, hz⟩
  refine lv_iand hx hb hd ?_
  rw [show Int32.ofInt x &&& Int32.ofInt y = Int32.ofInt (am_wr ((Int32.ofInt x &&& Int32.ofInt y).toInt)) by rw [am_of_wr, Int32.ofInt_toInt]]
  exact hh
theorem e_i2l {x : Int} (hd : decode M.2.2.1 pc = .ok (.i2l, 1)) (h : am_E d M (pc + 1) k n ls (am_j x :: st) K N I P z Q X) : am_E d M pc k n ls (.inl x :: st) K N I P z Q X := by
  intro l p e R s m args below meth c B D cA ρ0 N0 I0 hc hf ρ1 z1 ρ H locs lsR ha
  obtain ⟨hR, hS, hL, hst, hρ, hz⟩ := id ha
  have hx := hc.2.1
  have hb := hc.2.2.1
  have hv := List.forall_mem_cons.mp hst
  have hxi : am_in x := hv.1
  have hh := h l p e R s m args below meth c B D cA ρ0 N0 I0 hc hf ρ1 z1 ρ H locs lsR ⟨hR, hS, hL, List.forall_mem_cons.mpr ⟨hxi, hv.2⟩, hρ, hz⟩
  exact lv_i2l hx hb hd (Int32.toInt64_ofInt hxi.1 hxi.2) hh
theorem e_i2c {x : Int} (hd : decode M.2.2.1 pc = .ok (.i2c, 1)) (h : am_E d M (pc + 1) k n ls (.inl (am_wr ((Int32.ofInt x).toUInt32 % 65536).toInt32.toInt) :: st) K N I P z Q X) : am_E d M pc k n ls (.inl x :: st) K N I P z Q X := by
  intro l p e R s m args below meth c B D cA ρ0 N0 I0 hc hf ρ1 z1 ρ H locs lsR ha
  obtain ⟨hR, hS, hL, hst, hρ, hz⟩ := id ha
  have hx := hc.2.1
  have hb := hc.2.2.1
  have hv := List.forall_mem_cons.mp hst
  have hxi : am_in x := hv.1
  have hh := h l p e R s m args below meth c B D cA ρ0 N0 I0 hc hf ρ1 z1 ρ H locs lsR ⟨hR, hS, hL, List.forall_mem_cons.mpr ⟨am_wr_in _, hv.2⟩, hρ, hz⟩
  exact lv_i2c hx hb hd (show _ = Int32.ofInt _ by rw [am_of_wr, Int32.ofInt_toInt]) hh
theorem e_i2d {x : Int} (hd : decode M.2.2.1 pc = .ok (.i2d, 1)) (h : am_E d M (pc + 1) k n ls (am_d (FP.i2d (Int32.ofInt x)) :: st) K N I P z Q X) : am_E d M pc k n ls (.inl x :: st) K N I P z Q X := by
  intro l p e R s m args below meth c B D cA ρ0 N0 I0 hc hf ρ1 z1 ρ H locs lsR ha
  obtain ⟨hR, hS, hL, hst, hρ, hz⟩ := id ha
  have hx := hc.2.1
  have hb := hc.2.2.1
  have hv := List.forall_mem_cons.mp hst
  have hxi : am_in x := hv.1
  have hh := h l p e R s m args below meth c B D cA ρ0 N0 I0 hc hf ρ1 z1 ρ H locs lsR ⟨hR, hS, hL, List.forall_mem_cons.mpr ⟨trivial, hv.2⟩, hρ, hz⟩
  exact lv_i2d hx hb hd hh
theorem e_ddiv {x y : UInt64} (hd : decode M.2.2.1 pc = .ok (.ddiv, 1)) (hy : vf_n64 (FP.ddiv x y)) (h : am_E d M (pc + 1) k n ls (am_d (FP.ddiv x y) :: st) K N I P z Q X) : am_E d M pc k n ls (am_d y :: am_d x :: st) K N I P z Q X := by
  intro l p e R s m args below meth c B D cA ρ0 N0 I0 hc hf ρ1 z1 ρ H locs lsR ha
  obtain ⟨hR, hS, hL, hst, hρ, hz⟩ := id ha
  have hx := hc.2.1
  have hb := hc.2.2.1
  have hv := List.forall_mem_cons.mp (List.forall_mem_cons.mp hst).2
  exact lv_ddiv hx hb hd hy (h l p e R s m args below meth c B D cA ρ0 N0 I0 hc hf ρ1 z1 ρ H locs lsR ⟨hR, hS, hL, List.forall_mem_cons.mpr ⟨trivial, hv.2⟩, hρ, hz⟩)
theorem e_dcmp {x y : UInt64} {op : CmpOp} (hd : decode M.2.2.1 pc = .ok (.dcmp op, 1)) (h : am_E d M (pc + 1) k n ls (.inl (Op.cmpValue (FP.dcmp x y) op).toInt :: st) K N I P z Q X) : am_E d M pc k n ls (am_d y :: am_d x :: st) K N I P z Q X := by
  intro l p e R s m args below meth c B D cA ρ0 N0 I0 hc hf ρ1 z1 ρ H locs lsR ha
  obtain ⟨hR, hS, hL, hst, hρ, hz⟩ := id ha
  have hx := hc.2.1
  have hb := hc.2.2.1
  have hv := List.forall_mem_cons.mp (List.forall_mem_cons.mp hst).2
  have hh := h l p e R s m args below meth c B D cA ρ0 N0 I0 hc hf ρ1 z1 ρ H locs lsR ⟨hR, hS, hL, List.forall_mem_cons.mpr ⟨am_toInt_in _, hv.2⟩, hρ, hz⟩
  refine lv_dcmp hx hb hd ?_
  rw [show Op.cmpValue (FP.dcmp x y) op = Int32.ofInt (Op.cmpValue (FP.dcmp x y) op).toInt from (Int32.ofInt_toInt _).symm]
  exact hh
theorem e_lcmp {x y : Int} (hd : decode M.2.2.1 pc = .ok (.lcmp, 1)) (h1 : x = y → am_E d M (pc + 1) k n ls (.inl 0 :: st) K N I P z Q X) (h2 : ¬ x = y → ∀ v, ¬ v = 0 → am_E d M (pc + 1) k n ls (.inl v :: st) K N I P z Q X) : am_E d M pc k n ls (am_j y :: am_j x :: st) K N I P z Q X := by
  intro l p e R s m args below meth c B D cA ρ0 N0 I0 hc hf ρ1 z1 ρ H locs lsR ha
  obtain ⟨hR, hS, hL, hst, hρ, hz⟩ := id ha
  have hx := hc.2.1
  have hb := hc.2.2.1
  have hv := List.forall_mem_cons.mp hst
  have hv2 := List.forall_mem_cons.mp hv.2
  have hxi : am_in x := hv2.1
  have hyi : am_in y := hv.1
  refine W.lcmp hx hb hd ?_
  by_cases hxy : x = y
  · subst hxy
    have hh := h1 rfl l p e R s m args below meth c B D cA ρ0 N0 I0 hc hf ρ1 z1 ρ H locs lsR ⟨hR, hS, hL, List.forall_mem_cons.mpr ⟨am_in0, hv2.2⟩, hρ, hz⟩
    rw [am_lcmp_eq]
    exact hh
  · obtain ⟨v, hv0, hvi, hve⟩ := am_lcmp_ne hxi hyi hxy
    have hh := h2 hxy v hv0 l p e R s m args below meth c B D cA ρ0 N0 I0 hc hf ρ1 z1 ρ H locs lsR ⟨hR, hS, hL, List.forall_mem_cons.mpr ⟨hvi, hv2.2⟩, hρ, hz⟩
    rw [hve]
    exact hh
theorem e_dup {v : am_V} (hd : decode M.2.2.1 pc = .ok (.dup, 1)) (hv : am_v1 v = true) (h : am_E d M (pc + 1) k n ls (v :: v :: st) K N I P z Q X) : am_E d M pc k n ls (v :: st) K N I P z Q X := by
  intro l p e R s m args below meth c B D cA ρ0 N0 I0 hc hf ρ1 z1 ρ H locs lsR ha
  obtain ⟨hR, hS, hL, hst, hρ, hz⟩ := id ha
  have hx := hc.2.1
  have hb := hc.2.2.1
  have hv9 := List.forall_mem_cons.mp hst
  exact lv_dup hx hb hd (am_v1_cat hv) (h l p e R s m args below meth c B D cA ρ0 N0 I0 hc hf ρ1 z1 ρ H locs lsR ⟨hR, hS, hL, List.forall_mem_cons.mpr ⟨hv9.1, hst⟩, hρ, hz⟩)
theorem e_pop {v : am_V} (hd : decode M.2.2.1 pc = .ok (.pop, 1)) (hv : am_v1 v = true) (h : am_E d M (pc + 1) k n ls st K N I P z Q X) : am_E d M pc k n ls (v :: st) K N I P z Q X := by
  intro l p e R s m args below meth c B D cA ρ0 N0 I0 hc hf ρ1 z1 ρ H locs lsR ha
  obtain ⟨hR, hS, hL, hst, hρ, hz⟩ := id ha
  have hx := hc.2.1
  have hb := hc.2.2.1
  have hv9 := List.forall_mem_cons.mp hst
  exact lv_pop hx hb hd (am_v1_cat hv) (h l p e R s m args below meth c B D cA ρ0 N0 I0 hc hf ρ1 z1 ρ H locs lsR ⟨hR, hS, hL, hv9.2, hρ, hz⟩)
theorem e_dup2 {v w : am_V} (hd : decode M.2.2.1 pc = .ok (.dup2, 1)) (hv : am_v1 v = true) (hw : am_v1 w = true) (h : am_E d M (pc + 1) k n ls (v :: w :: v :: w :: st) K N I P z Q X) : am_E d M pc k n ls (v :: w :: st) K N I P z Q X := by
  intro l p e R s m args below meth c B D cA ρ0 N0 I0 hc hf ρ1 z1 ρ H locs lsR ha
  obtain ⟨hR, hS, hL, hst, hρ, hz⟩ := id ha
  have hx := hc.2.1
  have hb := hc.2.2.1
  have hv9 := List.forall_mem_cons.mp hst
  have hw9 := List.forall_mem_cons.mp hv9.2
  exact lv_dup2_11 hx hb hd (am_v1_cat hv) (am_v1_cat hw) (h l p e R s m args below meth c B D cA ρ0 N0 I0 hc hf ρ1 z1 ρ H locs lsR ⟨hR, hS, hL, List.forall_mem_cons.mpr ⟨hv9.1, List.forall_mem_cons.mpr ⟨hw9.1, hst⟩⟩, hρ, hz⟩)
theorem e_if_eq {x : Int} {off : Int} {tgt : Nat} (hd : decode M.2.2.1 pc = .ok (.ifCond .eq off, 3)) (hg : (pc : Int) + off = (tgt : Int)) (ht : x = 0 → am_E d M tgt k n ls st K N I P z Q X) (hn : ¬ (x = 0) → am_E d M (pc + 3) k n ls st K N I P z Q X) : am_E d M pc k n ls (.inl x :: st) K N I P z Q X := by
  intro l p e R s m args below meth c B D cA ρ0 N0 I0 hc hf ρ1 z1 ρ H locs lsR ha
  obtain ⟨hR, hS, hL, hst, hρ, hz⟩ := id ha
  have hx := hc.2.1
  have hb := hc.2.2.1
  have hv := List.forall_mem_cons.mp hst
  have hxi : am_in x := hv.1
  have hyi := am_in0
  have hst2 := hv.2
  exact lv_if_eq (tgt := tgt) hx hb hd hg (fun q => ht ((am_eq hxi hyi).mp q) l p e R s m args below meth c B D cA ρ0 N0 I0 hc hf ρ1 z1 ρ H locs lsR ⟨hR, hS, hL, hst2, hρ, hz⟩) (fun q => hn (fun q2 => q ((am_eq hxi hyi).mpr q2)) l p e R s m args below meth c B D cA ρ0 N0 I0 hc hf ρ1 z1 ρ H locs lsR ⟨hR, hS, hL, hst2, hρ, hz⟩)
theorem e_icmp_eq {x y : Int} {off : Int} {tgt : Nat} (hd : decode M.2.2.1 pc = .ok (.if_icmp .eq off, 3)) (hg : (pc : Int) + off = (tgt : Int)) (ht : x = y → am_E d M tgt k n ls st K N I P z Q X) (hn : ¬ (x = y) → am_E d M (pc + 3) k n ls st K N I P z Q X) : am_E d M pc k n ls (.inl y :: .inl x :: st) K N I P z Q X := by
  intro l p e R s m args below meth c B D cA ρ0 N0 I0 hc hf ρ1 z1 ρ H locs lsR ha
  obtain ⟨hR, hS, hL, hst, hρ, hz⟩ := id ha
  have hx := hc.2.1
  have hb := hc.2.2.1
  have hv := List.forall_mem_cons.mp hst
  have hv2 := List.forall_mem_cons.mp hv.2
  have hxi : am_in x := hv2.1
  have hyi : am_in y := hv.1
  have hst2 := hv2.2
  exact lv_icmp_eq (tgt := tgt) hx hb hd hg (fun q => ht ((am_eq hxi hyi).mp q) l p e R s m args below meth c B D cA ρ0 N0 I0 hc hf ρ1 z1 ρ H locs lsR ⟨hR, hS, hL, hst2, hρ, hz⟩) (fun q => hn (fun q2 => q ((am_eq hxi hyi).mpr q2)) l p e R s m args below meth c B D cA ρ0 N0 I0 hc hf ρ1 z1 ρ H locs lsR ⟨hR, hS, hL, hst2, hρ, hz⟩)
theorem e_if_ne {x : Int} {off : Int} {tgt : Nat} (hd : decode M.2.2.1 pc = .ok (.ifCond .ne off, 3)) (hg : (pc : Int) + off = (tgt : Int)) (ht : ¬ x = 0 → am_E d M tgt k n ls st K N I P z Q X) (hn : x = 0 → am_E d M (pc + 3) k n ls st K N I P z Q X) : am_E d M pc k n ls (.inl x :: st) K N I P z Q X := by
  intro l p e R s m args below meth c B D cA ρ0 N0 I0 hc hf ρ1 z1 ρ H locs lsR ha
  obtain ⟨hR, hS, hL, hst, hρ, hz⟩ := id ha
  have hx := hc.2.1
  have hb := hc.2.2.1
  have hv := List.forall_mem_cons.mp hst
  have hxi : am_in x := hv.1
  have hyi := am_in0
  have hst2 := hv.2
  exact lv_if_ne (tgt := tgt) hx hb hd hg (fun q => ht (fun q2 => q ((am_eq hxi hyi).mpr q2)) l p e R s m args below meth c B D cA ρ0 N0 I0 hc hf ρ1 z1 ρ H locs lsR ⟨hR, hS, hL, hst2, hρ, hz⟩) (fun q => hn ((am_eq hxi hyi).mp q) l p e R s m args below meth c B D cA ρ0 N0 I0 hc hf ρ1 z1 ρ H locs lsR ⟨hR, hS, hL, hst2, hρ, hz⟩)
theorem e_icmp_ne {x y : Int} {off : Int} {tgt : Nat} (hd : decode M.2.2.1 pc = .ok (.if_icmp .ne off, 3)) (hg : (pc : Int) + off = (tgt : Int)) (ht : ¬ x = y → am_E d M tgt k n ls st K N I P z Q X) (hn : x = y → am_E d M (pc + 3) k n ls st K N I P z Q X) : am_E d M pc k n ls (.inl y :: .inl x :: st) K N I P z Q X := by
  intro l p e R s m args below meth c B D cA ρ0 N0 I0 hc hf ρ1 z1 ρ H locs lsR ha
  obtain ⟨hR, hS, hL, hst, hρ, hz⟩ := id ha
  have hx := hc.2.1
  have hb := hc.2.2.1
  have hv := List.forall_mem_cons.mp hst
  have hv2 := List.forall_mem_cons.mp hv.2
  have hxi : am_in x := hv2.1
  have hyi : am_in y := hv.1
  have hst2 := hv2.2
  exact lv_icmp_ne (tgt := tgt) hx hb hd hg (fun q => ht (fun q2 => q ((am_eq hxi hyi).mpr q2)) l p e R s m args below meth c B D cA ρ0 N0 I0 hc hf ρ1 z1 ρ H locs lsR ⟨hR, hS, hL, hst2, hρ, hz⟩) (fun q => hn ((am_eq hxi hyi).mp q) l p e R s m args below meth c B D cA ρ0 N0 I0 hc hf ρ1 z1 ρ H locs lsR ⟨hR, hS, hL, hst2, hρ, hz⟩)
theorem e_if_lt {x : Int} {off : Int} {tgt : Nat} (hd : decode M.2.2.1 pc = .ok (.ifCond .lt off, 3)) (hg : (pc : Int) + off = (tgt : Int)) (ht : x < 0 → am_E d M tgt k n ls st K N I P z Q X) (hn : ¬ (x < 0) → am_E d M (pc + 3) k n ls st K N I P z Q X) : am_E d M pc k n ls (.inl x :: st) K N I P z Q X := by
  intro l p e R s m args below meth c B D cA ρ0 N0 I0 hc hf ρ1 z1 ρ H locs lsR ha
  obtain ⟨hR, hS, hL, hst, hρ, hz⟩ := id ha
  have hx := hc.2.1
  have hb := hc.2.2.1
  have hv := List.forall_mem_cons.mp hst
  have hxi : am_in x := hv.1
  have hyi := am_in0
  have hst2 := hv.2
  exact lv_if_lt (tgt := tgt) hx hb hd hg (fun q => ht ((am_lt hxi hyi).mp q) l p e R s m args below meth c B D cA ρ0 N0 I0 hc hf ρ1 z1 ρ H locs lsR ⟨hR, hS, hL, hst2, hρ, hz⟩) (fun q => hn (fun q2 => q ((am_lt hxi hyi).mpr q2)) l p e R s m args below meth c B D cA ρ0 N0 I0 hc hf ρ1 z1 ρ H locs lsR ⟨hR, hS, hL, hst2, hρ, hz⟩)
theorem e_icmp_lt {x y : Int} {off : Int} {tgt : Nat} (hd : decode M.2.2.1 pc = .ok (.if_icmp .lt off, 3)) (hg : (pc : Int) + off = (tgt : Int)) (ht : x < y → am_E d M tgt k n ls st K N I P z Q X) (hn : ¬ (x < y) → am_E d M (pc + 3) k n ls st K N I P z Q X) : am_E d M pc k n ls (.inl y :: .inl x :: st) K N I P z Q X := by
  intro l p e R s m args below meth c B D cA ρ0 N0 I0 hc hf ρ1 z1 ρ H locs lsR ha
  obtain ⟨hR, hS, hL, hst, hρ, hz⟩ := id ha
  have hx := hc.2.1
  have hb := hc.2.2.1
  have hv := List.forall_mem_cons.mp hst
  have hv2 := List.forall_mem_cons.mp hv.2
  have hxi : am_in x := hv2.1
  have hyi : am_in y := hv.1
  have hst2 := hv2.2
  exact lv_icmp_lt (tgt := tgt) hx hb hd hg (fun q => ht ((am_lt hxi hyi).mp q) l p e R s m args below meth c B D cA ρ0 N0 I0 hc hf ρ1 z1 ρ H locs lsR ⟨hR, hS, hL, hst2, hρ, hz⟩) (fun q => hn (fun q2 => q ((am_lt hxi hyi).mpr q2)) l p e R s m args below meth c B D cA ρ0 N0 I0 hc hf ρ1 z1 ρ H locs lsR ⟨hR, hS, hL, hst2, hρ, hz⟩)
theorem e_if_ge {x : Int} {off : Int} {tgt : Nat} (hd : decode M.2.2.1 pc = .ok (.ifCond .ge off, 3)) (hg : (pc : Int) + off = (tgt : Int)) (ht : 0 ≤ x → am_E d M tgt k n ls st K N I P z Q X) (hn : ¬ (0 ≤ x) → am_E d M (pc + 3) k n ls st K N I P z Q X) : am_E d M pc k n ls (.inl x :: st) K N I P z Q X := by
  intro l p e R s m args below meth c B D cA ρ0 N0 I0 hc hf ρ1 z1 ρ H locs lsR ha
  obtain ⟨hR, hS, hL, hst, hρ, hz⟩ := id ha
  have hx := hc.2.1
  have hb := hc.2.2.1
  have hv := List.forall_mem_cons.mp hst
  have hxi : am_in x := hv.1
  have hyi := am_in0
  have hst2 := hv.2
  exact lv_if_ge (tgt := tgt) hx hb hd hg (fun q => ht ((am_le hyi hxi).mp q) l p e R s m args below meth c B D cA ρ0 N0 I0 hc hf ρ1 z1 ρ H locs lsR ⟨hR, hS, hL, hst2, hρ, hz⟩) (fun q => hn (fun q2 => q ((am_le hyi hxi).mpr q2)) l p e R s m args below meth c B D cA ρ0 N0 I0 hc hf ρ1 z1 ρ H locs lsR ⟨hR, hS, hL, hst2, hρ, hz⟩)
theorem e_icmp_ge {x y : Int} {off : Int} {tgt : Nat} (hd : decode M.2.2.1 pc = .ok (.if_icmp .ge off, 3)) (hg : (pc : Int) + off = (tgt : Int)) (ht : y ≤ x → am_E d M tgt k n ls st K N I P z Q X) (hn : ¬ (y ≤ x) → am_E d M (pc + 3) k n ls st K N I P z Q X) : am_E d M pc k n ls (.inl y :: .inl x :: st) K N I P z Q X := by
  intro l p e R s m args below meth c B D cA ρ0 N0 I0 hc hf ρ1 z1 ρ H locs lsR ha
  obtain ⟨hR, hS, hL, hst, hρ, hz⟩ := id ha
  have hx := hc.2.1
  have hb := hc.2.2.1
  have hv := List.forall_mem_cons.mp hst
  have hv2 := List.forall_mem_cons.mp hv.2
  have hxi : am_in x := hv2.1
  have hyi : am_in y := hv.1
  have hst2 := hv2.2
  exact lv_icmp_ge (tgt := tgt) hx hb hd hg (fun q => ht ((am_le hyi hxi).mp q) l p e R s m args below meth c B D cA ρ0 N0 I0 hc hf ρ1 z1 ρ H locs lsR ⟨hR, hS, hL, hst2, hρ, hz⟩) (fun q => hn (fun q2 => q ((am_le hyi hxi).mpr q2)) l p e R s m args below meth c B D cA ρ0 N0 I0 hc hf ρ1 z1 ρ H locs lsR ⟨hR, hS, hL, hst2, hρ, hz⟩)
theorem e_if_gt {x : Int} {off : Int} {tgt : Nat} (hd : decode M.2.2.1 pc = .ok (.ifCond .gt off, 3)) (hg : (pc : Int) + off = (tgt : Int)) (ht : 0 < x → am_E d M tgt k n ls st K N I P z Q X) (hn : ¬ (0 < x) → am_E d M (pc + 3) k n ls st K N I P z Q X) : am_E d M pc k n ls (.inl x :: st) K N I P z Q X := by
  intro l p e R s m args below meth c B D cA ρ0 N0 I0 hc hf ρ1 z1 ρ H locs lsR ha
  obtain ⟨hR, hS, hL, hst, hρ, hz⟩ := id ha
  have hx := hc.2.1
  have hb := hc.2.2.1
  have hv := List.forall_mem_cons.mp hst
  have hxi : am_in x := hv.1
  have hyi := am_in0
  have hst2 := hv.2
  exact lv_if_gt (tgt := tgt) hx hb hd hg (fun q => ht ((am_lt hyi hxi).mp q) l p e R s m args below meth c B D cA ρ0 N0 I0 hc hf ρ1 z1 ρ H locs lsR ⟨hR, hS, hL, hst2, hρ, hz⟩) (fun q => hn (fun q2 => q ((am_lt hyi hxi).mpr q2)) l p e R s m args below meth c B D cA ρ0 N0 I0 hc hf ρ1 z1 ρ H locs lsR ⟨hR, hS, hL, hst2, hρ, hz⟩)
theorem e_icmp_gt {x y : Int} {off : Int} {tgt : Nat} (hd : decode M.2.2.1 pc = .ok (.if_icmp .gt off, 3)) (hg : (pc : Int) + off = (tgt : Int)) (ht : y < x → am_E d M tgt k n ls st K N I P z Q X) (hn : ¬ (y < x) → am_E d M (pc + 3) k n ls st K N I P z Q X) : am_E d M pc k n ls (.inl y :: .inl x :: st) K N I P z Q X := by
  intro l p e R s m args below meth c B D cA ρ0 N0 I0 hc hf ρ1 z1 ρ H locs lsR ha
  obtain ⟨hR, hS, hL, hst, hρ, hz⟩ := id ha
  have hx := hc.2.1
  have hb := hc.2.2.1
  have hv := List.forall_mem_cons.mp hst
  have hv2 := List.forall_mem_cons.mp hv.2
  have hxi : am_in x := hv2.1
  have hyi : am_in y := hv.1
  have hst2 := hv2.2
  exact lv_icmp_gt (tgt := tgt) hx hb hd hg (fun q => ht ((am_lt hyi hxi).mp q) l p e R s m args below meth c B D cA ρ0 N0 I0 hc hf ρ1 z1 ρ H locs lsR ⟨hR, hS, hL, hst2, hρ, hz⟩) (fun q => hn (fun q2 => q ((am_lt hyi hxi).mpr q2)) l p e R s m args below meth c B D cA ρ0 N0 I0 hc hf ρ1 z1 ρ H locs lsR ⟨hR, hS, hL, hst2, hρ, hz⟩)
theorem e_if_le {x : Int} {off : Int} {tgt : Nat} (hd : decode M.2.2.1 pc = .ok (.ifCond .le off, 3)) (hg : (pc : Int) + off = (tgt : Int)) (ht : x ≤ 0 → am_E d M tgt k n ls st K N I P z Q X) (hn : ¬ (x ≤ 0) → am_E d M (pc + 3) k n ls st K N I P z Q X) : am_E d M pc k n ls (.inl x :: st) K N I P z Q X := by
  intro l p e R s m args below meth c B D cA ρ0 N0 I0 hc hf ρ1 z1 ρ H locs lsR ha
  obtain ⟨hR, hS, hL, hst, hρ, hz⟩ := id ha
  have hx := hc.2.1
  have hb := hc.2.2.1
  have hv := List.forall_mem_cons.mp hst
  have hxi : am_in x := hv.1
  have hyi := am_in0
  have hst2 := hv.2
  exact lv_if_le (tgt := tgt) hx hb hd hg (fun q => ht ((am_le hxi hyi).mp q) l p e R s m args below meth c B D cA ρ0 N0 I0 hc hf ρ1 z1 ρ H locs lsR ⟨hR, hS, hL, hst2, hρ, hz⟩) (fun q => hn (fun q2 => q ((am_le hxi hyi).mpr q2)) l p e R s m args below meth c B D cA ρ0 N0 I0 hc hf ρ1 z1 ρ H locs lsR ⟨hR, hS, hL, hst2, hρ, hz⟩)
theorem e_icmp_le {x y : Int} {off : Int} {tgt : Nat} (hd : decode M.2.2.1 pc = .ok (.if_icmp .le off, 3)) (hg : (pc : Int) + off = (tgt : Int)) (ht : x ≤ y → am_E d M tgt k n ls st K N I P z Q X) (hn : ¬ (x ≤ y) → am_E d M (pc + 3) k n ls st K N I P z Q X) : am_E d M pc k n ls (.inl y :: .inl x :: st) K N I P z Q X := by
  intro l p e R s m args below meth c B D cA ρ0 N0 I0 hc hf ρ1 z1 ρ H locs lsR ha
  obtain ⟨hR, hS, hL, hst, hρ, hz⟩ := id ha
  have hx := hc.2.1
  have hb := hc.2.2.1
  have hv := List.forall_mem_cons.mp hst
  have hv2 := List.forall_mem_cons.mp hv.2
  have hxi : am_in x := hv2.1
  have hyi : am_in y := hv.1
  have hst2 := hv2.2
  exact lv_icmp_le (tgt := tgt) hx hb hd hg (fun q => ht ((am_le hxi hyi).mp q) l p e R s m args below meth c B D cA ρ0 N0 I0 hc hf ρ1 z1 ρ H locs lsR ⟨hR, hS, hL, hst2, hρ, hz⟩) (fun q => hn (fun q2 => q ((am_le hxi hyi).mpr q2)) l p e R s m args below meth c B D cA ρ0 N0 I0 hc hf ρ1 z1 ρ H locs lsR ⟨hR, hS, hL, hst2, hρ, hz⟩)
theorem e_goto {off : Int} {tgt : Nat} (hd : decode M.2.2.1 pc = .ok (.goto off, 3)) (hg : (pc : Int) + off = (tgt : Int)) (h : am_E d M tgt k n ls st K N I P z Q X) : am_E d M pc k n ls st K N I P z Q X := by
  intro l p e R s m args below meth c B D cA ρ0 N0 I0 hc hf ρ1 z1 ρ H locs lsR ha
  obtain ⟨hR, hS, hL, hst, hρ, hz⟩ := id ha
  have hx := hc.2.1
  have hb := hc.2.2.1
  exact lv_goto hx hb hd hg (h l p e R s m args below meth c B D cA ρ0 N0 I0 hc hf ρ1 z1 ρ H locs lsR ha)
theorem e_ifnull {v : am_V} {off : Int} {tgt : Nat} (hd : decode M.2.2.1 pc = .ok (.ifnull off, 3)) (hg : (pc : Int) + off = (tgt : Int)) (h : am_ifn v (am_E d M tgt k n ls st K N I P z Q X) (am_E d M (pc + 3) k n ls st K N I P z Q X)) : am_E d M pc k n ls (v :: st) K N I P z Q X := by
  intro l p e R s m args below meth c B D cA ρ0 N0 I0 hc hf ρ1 z1 ρ H locs lsR ha
  obtain ⟨hR, hS, hL, hst, hρ, hz⟩ := id ha
  have hx := hc.2.1
  have hb := hc.2.2.1
  have hv := List.forall_mem_cons.mp hst
  obtain ⟨⟨a, rfl⟩, h⟩ | ⟨rfl, h⟩ := am_ifn_or h
  · exact lv_ifnull hx hb hd (h l p e R s m args below meth c B D cA ρ0 N0 I0 hc hf ρ1 z1 ρ H locs lsR ⟨hR, hS, hL, hv.2, hρ, hz⟩)
  · exact lv_ifnullN hx hb hd hg (h l p e R s m args below meth c B D cA ρ0 N0 I0 hc hf ρ1 z1 ρ H locs lsR ⟨hR, hS, hL, hv.2, hρ, hz⟩)
theorem e_ifnonnull {v : am_V} {off : Int} {tgt : Nat} (hd : decode M.2.2.1 pc = .ok (.ifnonnull off, 3)) (hg : (pc : Int) + off = (tgt : Int)) (h : am_ifn v (am_E d M (pc + 3) k n ls st K N I P z Q X) (am_E d M tgt k n ls st K N I P z Q X)) : am_E d M pc k n ls (v :: st) K N I P z Q X := by
  intro l p e R s m args below meth c B D cA ρ0 N0 I0 hc hf ρ1 z1 ρ H locs lsR ha
  obtain ⟨hR, hS, hL, hst, hρ, hz⟩ := id ha
  have hx := hc.2.1
  have hb := hc.2.2.1
  have hv := List.forall_mem_cons.mp hst
  obtain ⟨⟨a, rfl⟩, h⟩ | ⟨rfl, h⟩ := am_ifn_or h
  · exact lv_ifnonnull hx hb hd hg (h l p e R s m args below meth c B D cA ρ0 N0 I0 hc hf ρ1 z1 ρ H locs lsR ⟨hR, hS, hL, hv.2, hρ, hz⟩)
  · exact lv_ifnonnullN hx hb hd (h l p e R s m args below meth c B D cA ρ0 N0 I0 hc hf ρ1 z1 ρ H locs lsR ⟨hR, hS, hL, hv.2, hρ, hz⟩)
theorem e_tsw {x dflt lo hi : Int} {offs : Array Int} {len : Nat} (hd : decode M.2.2.1 pc = .ok (.tableswitch dflt lo hi offs, len)) (hlen : hi - lo + 1 = offs.size) (hpos : am_swp pc offs.toList = true) (h0 : 0 ≤ (pc : Int) + dflt) (h : am_sw (fun o => am_E d M ((pc : Int) + o).toNat k n ls st K N I P z Q X) x lo offs.toList) (ho : x < lo ∨ hi < x → am_E d M ((pc : Int) + dflt).toNat k n ls st K N I P z Q X) : am_E d M pc k n ls (.inl x :: st) K N I P z Q X := by
  intro l p e R s m args below meth c B D cA ρ0 N0 I0 hc hf ρ1 z1 ρ H locs lsR ha
  obtain ⟨hR, hS, hL, hst, hρ, hz⟩ := id ha
  have hx := hc.2.1
  have hb := hc.2.2.1
  have hv := List.forall_mem_cons.mp hst
  have hxi : am_in x := hv.1
  by_cases h1 : x < lo ∨ hi < x
  · exact lv_tableOut (tgt := ((pc : Int) + dflt).toNat) hx hb hd (by rw [am_toInt hxi]; exact h1) (by omega) (ho h1 l p e R s m args below meth c B D cA ρ0 N0 I0 hc hf ρ1 z1 ρ H locs lsR ⟨hR, hS, hL, hv.2, hρ, hz⟩)
  · have hlt : (x - lo).toNat < offs.toList.length := by rw [Array.length_toList]; omega
    obtain ⟨o, ho1, ho2, ho3⟩ := am_sw_at h (x - lo).toNat hlt (by omega) hpos
    rw [Array.getElem?_toList] at ho1
    exact lv_tableIn (tgt := ((pc : Int) + o).toNat) hx hb hd (by rw [am_toInt hxi]; omega) (by rw [am_toInt hxi]; omega) (by rw [am_toInt hxi]; exact ho1) (by omega) (ho2 l p e R s m args below meth c B D cA ρ0 N0 I0 hc hf ρ1 z1 ρ H locs lsR ⟨hR, hS, hL, hv.2, hρ, hz⟩)
theorem e_lsw {x dflt : Int} {ps : Array (Int × Int)} {len : Nat} (hd : decode M.2.2.1 pc = .ok (.lookupswitch dflt ps, len)) (hp : (ps.toList.zip (ps.toList.drop 1)).all (fun (a, next) => a.1 < next.1) = true) (hpos : am_swp pc (dflt :: ps.toList.map (·.2)) = true) (h : am_lsw (fun o => am_E d M ((pc : Int) + o).toNat k n ls st K N I P z Q X) x dflt ps.toList) : am_E d M pc k n ls (.inl x :: st) K N I P z Q X := by
  intro l p e R s m args below meth c B D cA ρ0 N0 I0 hc hf ρ1 z1 ρ H locs lsR ha
  obtain ⟨hR, hS, hL, hst, hρ, hz⟩ := id ha
  have hx := hc.2.1
  have hb := hc.2.2.1
  have hv := List.forall_mem_cons.mp hst
  have hxi : am_in x := hv.1
  obtain ⟨o, ho1, ho2, ho3⟩ := am_lsw_at h hpos
  exact lv_lookup (tgt := ((pc : Int) + o).toNat) hx hb hd hp (by rw [am_toInt hxi, ho1]) (by omega) (ho2 l p e R s m args below meth c B D cA ρ0 N0 I0 hc hf ρ1 z1 ρ H locs lsR ⟨hR, hS, hL, hv.2, hρ, hz⟩)
end
