theorem am_cv_ext {z : Nat} {ρ ρ' : Nat → Nat} {v : am_V} (h : am_ok z v) (he : ∀ a, a < z + 4 → ρ' a = ρ a) : am_cv ρ' v = am_cv ρ v := by
  rcases v with x | x | x
  · rfl
  · rfl
  · cases x <;> first | rfl | exact congrArg Value.ref (he _ h)
theorem am_map_ext {z : Nat} {ρ ρ' : Nat → Nat} {st : List am_V} (h : ∀ v ∈ st, am_ok z v) (he : ∀ a, a < z + 4 → ρ' a = ρ a) : st.map (am_cv ρ') = st.map (am_cv ρ) := List.map_congr_left fun v hv => am_cv_ext (h v hv) he
theorem am_ok_mono {z z' : Nat} (hz : z ≤ z') {v : am_V} (h : am_ok z v) : am_ok z' v := by
  rcases v with x | x | x
  · exact h
  · exact h
  · cases x <;> first | exact h | exact Nat.lt_of_lt_of_le h (Nat.add_le_add_right hz 4)
theorem am_loc_ext {z z' nL : Nat} {ρ ρ' : Nat → Nat} {lv : List (Option am_V)} {ls : Array Slot} (h : am_loc ρ z nL lv ls) (hz : z ≤ z') (he : ∀ a, a < z + 4 → ρ' a = ρ a) : am_loc ρ' z' nL lv ls := by
  obtain ⟨h1, h2, h3⟩ := h
  refine ⟨?_, h2, fun i v hi => am_ok_mono hz (h3 i v hi)⟩
  have : am_ll ρ' lv = am_ll ρ lv := by
    unfold am_ll
    refine congrArg (fun f => List.filterMap f (List.range lv.length)) (funext fun i => ?_)
    cases hl : lv[i]? with
    | none => rfl
    | some w =>
      cases w with
      | none => rfl
      | some v =>
        show some (i, am_cv ρ' v) = some (i, am_cv ρ v)
        rw [am_cv_ext (h3 i v hl) he]
  rw [this]
  exact h1
def am_u1 (f : Nat → Nat) (a x : Nat) : Nat → Nat := fun b => if b = a then x else f b
theorem am_ws_push {cA : Nat → ClassId} {ρ K N : Nat → Nat} {I I' : Nat → Nat → Int} {P : Nat → Nat → Option Nat} {z q c n : Nat} (hP : ∀ a k b, P a k = some b → b < z + 4) (hI : ∀ b, b < z + 4 → I' b = I b) :
    am_ws cA (am_u1 ρ (z + 4) q) (am_u1 K (z + 4) c) (am_u1 N (z + 4) n) I' P (z + 1) = am_ws cA ρ K N I P z ++ [(q, am_ent cA (am_u1 ρ (z + 4) q) (am_u1 K (z + 4) c) (am_u1 N (z + 4) n) I' P (z + 4))] := by
  unfold am_ws
  rw [List.range_succ, List.map_append, List.map_cons, List.map_nil]
  congr 1
  · apply List.map_congr_left
    intro j hj
    have hj2 : j < z := List.mem_range.mp hj
    have hne : ¬ j + 4 = z + 4 := by omega
    have eP : ∀ k, (P (j + 4) k).map (am_u1 ρ (z + 4) q) = (P (j + 4) k).map ρ := by
      intro k
      cases hp : P (j + 4) k with
      | none => rfl
      | some b =>
        have := hP _ _ _ hp
        show some (am_u1 ρ (z + 4) q b) = some (ρ b)
        simp only [am_u1]
        rw [if_neg (by omega)]
    have eK : am_u1 K (z + 4) c (j + 4) = K (j + 4) := if_neg hne
    have eN : am_u1 N (z + 4) n (j + 4) = N (j + 4) := if_neg hne
    have eρ : am_u1 ρ (z + 4) q (j + 4) = ρ (j + 4) := if_neg hne
    have eI : I' (j + 4) = I (j + 4) := hI _ (by omega)
    rw [eρ]
    unfold am_ent am_fl am_fv
    simp only [eK, eN, eI, eP]
  · simp [am_u1]
section
variable {B : Nat} {D : va_G} {cA : Nat → ClassId} {ρ0 N0 : Nat → Nat} {I0 : Nat → Nat → Int} {ρ K N : Nat → Nat} {I : Nat → Nat → Int} {P : Nat → Nat → Option Nat} {z : Nat} {H : Heap}
theorem am_rep_push (h : am_rep B D cA ρ0 N0 I0 ρ K N I P z H) {q c n : Nat} {e : va_E} {I' : Nat → Nat → Int} {H1 : Heap} (hc : c < 15) (hI : ∀ b, b ≠ z + 4 → I' b = I b) (hi : ∀ k, am_in (I' (z + 4) k)) (he : am_ent cA (am_u1 ρ (z + 4) q) (am_u1 K (z + 4) c) (am_u1 N (z + 4) n) I' P (z + 4) = e)
    (hp : va_P D vwCl (am_ws cA ρ K N I P z ++ [(q, e)]) H1) (hd : va_D (fun q => B ≤ q) (am_ws cA ρ K N I P z ++ [(q, e)])) : am_rep B D cA ρ0 N0 I0 (am_u1 ρ (z + 4) q) (am_u1 K (z + 4) c) (am_u1 N (z + 4) n) I' P (z + 1) H1 := by
  obtain ⟨-, -, h3, h5, h4, h6, h7⟩ := h
  rw [← he, ← am_ws_push h7 (fun b hb => hI b (by omega))] at hp hd
  refine ⟨hp, hd, fun a h4a hz => ?_, fun a ha => ?_, fun a ha => ?_, fun a k => ?_, fun a k b hb => Nat.lt_succ_of_lt (h7 a k b hb)⟩
  · simp only [am_u1]
    split
    · exact hc
    · exact h3 a h4a (by omega)
  · have hne : ¬ a = z + 4 := by omega
    simp only [am_u1, if_neg hne, hI a hne]
    exact h5 a (by omega)
  · have hne : ¬ a = z + 4 := by omega
    simp only [am_u1, if_neg hne, hI a hne]
    exact h4 a ha
  · by_cases hne : a = z + 4
    · subst hne; exact hi k
    · rw [hI a hne]; exact h6 a k
end
theorem am_at_push {M : am_M} {ls : List (Option am_V)} {st : List am_V} {K N : Nat → Nat} {I : Nat → Nat → Int} {P : Nat → Nat → Option Nat} {z B : Nat} {D : va_G} {cA : Nat → ClassId} {ρ0 N0 : Nat → Nat} {I0 : Nat → Nat → Int} {s : State} {ρ1 : Nat → Nat} {z1 : Nat} {ρ : Nat → Nat} {H : Heap} {locs : List Loc} {lsR : Array Slot} (ha : am_at M ls st K N I P z B D cA ρ0 N0 I0 s ρ1 z1 ρ H locs lsR) {q : Nat} {K' N' : Nat → Nat} {I' : Nat → Nat → Int} {H1 : Heap} {st' : List am_V} (hst' : ∀ v ∈ st', am_ok z v)
    (hR : am_rep B D cA ρ0 N0 I0 (am_u1 ρ (z + 4) q) K' N' I' P (z + 1) H1) (hS : va_S (fun q => B ≤ q) s.heap H1 locs) : am_at M ls (am_r (z + 4) :: st') K' N' I' P (z + 1) B D cA ρ0 N0 I0 s ρ1 z1 (am_u1 ρ (z + 4) q) H1 locs lsR ∧ (am_r (z + 4) :: st').map (am_cv (am_u1 ρ (z + 4) q)) = .ref q :: st'.map (am_cv ρ) := by
  have he : ∀ a, a < z + 4 → am_u1 ρ (z + 4) q a = ρ a := fun a h => by simp only [am_u1]; rw [if_neg (by omega)]
  obtain ⟨-, -, hL, -, hρ, hz⟩ := ha
  refine ⟨⟨hR, hS, am_loc_ext hL (Nat.le_succ _) he, List.forall_mem_cons.mpr ⟨Nat.lt_succ_self _, fun v hv => am_ok_mono (Nat.le_succ _) (hst' v hv)⟩, fun a h => (he a (by omega)).trans (hρ a h), by omega⟩, ?_⟩
  rw [List.map_cons, am_map_ext hst' he]
  simp [am_cv, am_u1]
theorem am_dfl {t : FieldType} (h : t = .int ∨ t = .boolean ∨ am_isr t = true) : defaultValue t = if am_isr t then .null else .int 0 := by
  rcases h with rfl | rfl | h
  · rfl
  · rfl
  · cases t <;> first | (simp [am_isr] at h; done) | rfl
def am_tk (t : FieldType) : Bool := match t with
  | .int => true
  | .boolean => true
  | .object _ => true
  | .array _ => true
  | _ => false
theorem am_tk_or {t : FieldType} (h : am_tk t = true) : t = .int ∨ t = .boolean ∨ am_isr t = true := by cases t <;> simp [am_tk, am_isr] at h ⊢
theorem am_tks {c : Nat} (hc : c < 9) : ∀ k, k < am_nf c → am_tk (am_ty c k) = true := am_lt9 (p := fun c => ∀ k, k < am_nf c → am_tk (am_ty c k) = true) (by decide +kernel) (by decide +kernel) (by decide +kernel) (by decide +kernel) (by decide +kernel) (by decide +kernel) (by decide +kernel) (by decide +kernel) (by decide +kernel) hc
def am_z2 (I : Nat → Nat → Int) (a b : Nat) : Nat → Nat → Int := fun x j => if x = a then I b j else I x j
def am_cp (I : Nat → Nat → Int) (a b sp dp n : Nat) : Nat → Nat → Int := fun x j => if x = b ∧ dp ≤ j ∧ j < dp + n then I a (sp + (j - dp)) else I x j
theorem am_RA {D : va_G} {cA : Nat → ClassId} {s : State} (h : va_K D vwCl (am_tys cA) s) {t kk : Nat} {ty : FieldType} (ht : (am_tys cA)[t]? = some (cA kk, ty)) {cA' : ClassId} (h' : va_K D vwCl (am_tys cA ++ [(cA', ty)]) s) : cA' = cA kk := by
  have a1 := (h.2 t _ ht).2
  have a2 := (h'.2 5 (cA', ty) (by rw [List.getElem?_append_right (by simp [am_tys])]; rfl)).2
  cases ty with
  | object C =>
    obtain ⟨_, _, _, _, _, e1⟩ := a1
    obtain ⟨_, _, _, _, _, e2⟩ := a2
    exact Option.some.inj (e2.symm.trans e1)
  | _ => exact Option.some.inj (a2.symm.trans a1)
theorem am_hA {B : Nat} {s : State} (h : B ≤ s.heap.size) : ∀ q, s.heap.size ≤ q → (fun q => B ≤ q) q := fun _ hq => Nat.le_trans h hq
def am_catn (v : am_V) : Nat := match v with
  | .inr (.inl _) => 2
  | .inr (.inr (.double _)) => 2
  | .inr (.inr (.long _)) => 2
  | _ => 1
theorem am_catn_eq (ρ : Nat → Nat) (v : am_V) : (am_cv ρ v).category = am_catn v := by
  rcases v with x | x | v
  · rfl
  · rfl
  · cases v <;> rfl
theorem am_catsum {ρ : Nat → Nat} {z : Nat} {st : List am_V} (_ : ∀ v ∈ st, am_ok z v) : ((st.map (am_cv ρ)).map fun v => v.category).sum = (st.map am_catn).sum := by
  rw [List.map_map]
  congr 1
  exact List.map_congr_left fun v _ => am_catn_eq ρ v
section
variable {d : Nat} {M : am_M} {pc k n : Nat} {ls : List (Option am_V)} {st : List am_V} {K N : Nat → Nat} {I : Nat → Nat → Int} {P : Nat → Nat → Option Nat} {z : Nat} {Q : am_V → am_T} {X : Nat → am_T}
theorem e_new {idx cc : Nat} (hd : decode M.2.2.1 pc = .ok (.new idx, 3)) (hcc : cc < 9) (hw1 : Cond.classLink M.1 idx (am_R cc) ∈ am_good) (hw2 : Cond.instantiable (am_R cc) (am_nf cc) ∈ am_good) (hw3 : Cond.initialized (am_R cc) ∈ am_good) (hk : k + 1 ≤ M.2.2.2.2.2.1.1) (hn : n + am_nf cc ≤ M.2.2.2.2.2.1.2) (h : am_E d M (pc + 3) (k + 1) (n + am_nf cc) ls (am_r (z + 4) :: st) (am_u1 K (z + 4) cc) (am_u1 N (z + 4) 0) I P (z + 1) Q X) : am_E d M pc k n ls st K N I P z Q X := by
  intro l p e R s m args below meth c B D cA ρ0 N0 I0 hc hf ρ1 z1 ρ H locs lsR ha
  obtain ⟨hR, hS, hL, hst, hρ, hz⟩ := id ha
  have hx := hc.2.1
  have hb := hc.2.2.1
  have hml := hc.2.2.2.2.1
  have hown := hc.2.2.2.2.2.1
  have hts := hc.2.2.2.2.2.2.2.1
  have hrm := hc.2.2.2.2.2.2.2.2.2.2
  have hKK := hf.2.1
  refine va_new (ci := cc) (fs := am_fl (am_u1 ρ (z + 4) 0) I P cc (z + 4)) hx hb hts (am_uws hcc) (am_ty cc) (am_tyok hcc) hown (hts _ hw1) (hts _ hw2) (hts _ hw3) hKK hR.1 hR.2.1 hS (am_hA hf.1) (am_cl hcc) (fun j hj => ?_) (by omega) (by omega) hd (fun q H1 hP1 hD1 hS1 => ?_)
  · rw [am_dfl (am_tk_or (am_tks hcc j hj))]
    show _ = (am_fl _ I P cc (z + 4)).getD j .null
    rw [List.getD_eq_getElem?_getD, am_fl_get hj]
    obtain ⟨-, e1, e2⟩ := hR.2.2.2.1 (z + 4) (Nat.le_refl _)
    unfold am_fv
    rw [e1, e2]
    split <;> rfl
  · have efl : am_ent cA (am_u1 ρ (z + 4) q) (am_u1 K (z + 4) cc) (am_u1 N (z + 4) 0) I P (z + 4) = .inr (cc, am_fl (am_u1 ρ (z + 4) 0) I P cc (z + 4)) := by
      rw [am_ent_ob (show am_u1 K (z + 4) cc (z + 4) = cc by simp [am_u1]) hcc]
      obtain ⟨-, e1, e2⟩ := hR.2.2.2.1 (z + 4) (Nat.le_refl _)
      congr 2
      unfold am_fl am_fv
      simp only [e2, Option.map_none]
    obtain ⟨h1, h2⟩ := am_at_push ha hst (am_rep_push hR (by omega) (fun b _ => rfl) (fun j => hR.2.2.2.2.2.1 _ j) efl hP1 hD1) hS1
    rw [← h2]
    exact h l p e R s m args below meth c B D cA ρ0 N0 I0 hc hf ρ1 z1 (am_u1 ρ (z + 4) q) H1 locs lsR h1
theorem e_newa_int {x : Int} (hd : decode M.2.2.1 pc = .ok (.newarray .int, 2)) (hw : Cond.arrayClass .int ∈ am_good) (h0 : 0 ≤ x) (hx9 : x ≤ 100000) (hk : k + 1 ≤ M.2.2.2.2.2.1.1) (hn : n + x.toNat ≤ M.2.2.2.2.2.1.2) (h : am_E d M (pc + 2) (k + 1) (n + x.toNat) ls (am_r (z + 4) :: st) (am_u1 K (z + 4) 10) (am_u1 N (z + 4) x.toNat) I P (z + 1) Q X) : am_E d M pc k n ls (.inl x :: st) K N I P z Q X := by
  intro l p e R s m args below meth c B D cA ρ0 N0 I0 hc hf ρ1 z1 ρ H locs lsR ha
  obtain ⟨hR, hS, hL, hst, hρ, hz⟩ := id ha
  have hx := hc.2.1
  have hb := hc.2.2.1
  have hml := hc.2.2.2.2.1
  have hown := hc.2.2.2.2.2.1
  have hts := hc.2.2.2.2.2.2.2.1
  have hrm := hc.2.2.2.2.2.2.2.2.2.2
  have hKK := hf.2.1
  have hv9 := List.forall_mem_cons.mp hst
  refine va_newa (atype := .int) (ty := .int) (N' := x.toNat) (a0 := (x.toNat, .inl (fun _ => 0))) hx hb (hts _ hw) rfl hKK hR.1 hR.2.1 hS (am_hA hf.1) (fun _ => rfl) (fun q => absurd ((am_lt hv9.1 am_in0).mp q) (by omega)) (am_clamp hv9.1) (by show x.toNat * 4 ≤ 536870912; omega) (by omega) (by omega) hd (fun q cA' H1 hK1 hP1 hD1 hS1 => ?_)
  have ec : cA' = cA 10 := am_RA hKK (t := 1) rfl hK1
  subst ec
  have efl : am_ent cA (am_u1 ρ (z + 4) q) (am_u1 K (z + 4) 10) (am_u1 N (z + 4) x.toNat) I P (z + 4) = .inl (cA 10, x.toNat, .inl (fun _ => 0)) := by
    rw [am_ent_ia (c := 10) (show am_u1 K (z + 4) 10 (z + 4) = 10 by simp [am_u1]) (by decide) (by decide)]
    obtain ⟨-, e1, e2⟩ := hR.2.2.2.1 (z + 4) (Nat.le_refl _)
    simp only [am_u1, if_pos, e1]
    rfl
  obtain ⟨h1, h2⟩ := am_at_push ha hv9.2 (am_rep_push hR (by omega) (fun b _ => rfl) (fun j => hR.2.2.2.2.2.1 _ j) efl hP1 hD1) hS1
  rw [← h2]
  exact h l p e R s m args below meth c B D cA ρ0 N0 I0 hc hf ρ1 z1 (am_u1 ρ (z + 4) q) H1 locs lsR h1
theorem e_newa_char {x : Int} (hd : decode M.2.2.1 pc = .ok (.newarray .char, 2)) (hw : Cond.arrayClass .char ∈ am_good) (h0 : 0 ≤ x) (hx9 : x ≤ 100000) (hk : k + 1 ≤ M.2.2.2.2.2.1.1) (hn : n + x.toNat ≤ M.2.2.2.2.2.1.2) (h : am_E d M (pc + 2) (k + 1) (n + x.toNat) ls (am_r (z + 4) :: st) (am_u1 K (z + 4) 9) (am_u1 N (z + 4) x.toNat) I P (z + 1) Q X) : am_E d M pc k n ls (.inl x :: st) K N I P z Q X := by
  intro l p e R s m args below meth c B D cA ρ0 N0 I0 hc hf ρ1 z1 ρ H locs lsR ha
  obtain ⟨hR, hS, hL, hst, hρ, hz⟩ := id ha
  have hx := hc.2.1
  have hb := hc.2.2.1
  have hml := hc.2.2.2.2.1
  have hown := hc.2.2.2.2.2.1
  have hts := hc.2.2.2.2.2.2.2.1
  have hrm := hc.2.2.2.2.2.2.2.2.2.2
  have hKK := hf.2.1
  have hv9 := List.forall_mem_cons.mp hst
  refine va_newa (atype := .char) (ty := .char) (N' := x.toNat) (a0 := (x.toNat, .inl (fun _ => 0))) hx hb (hts _ hw) rfl hKK hR.1 hR.2.1 hS (am_hA hf.1) (fun _ => rfl) (fun q => absurd ((am_lt hv9.1 am_in0).mp q) (by omega)) (am_clamp hv9.1) (by show x.toNat * 2 ≤ 536870912; omega) (by omega) (by omega) hd (fun q cA' H1 hK1 hP1 hD1 hS1 => ?_)
  have ec : cA' = cA 9 := am_RA hKK (t := 0) rfl hK1
  subst ec
  have efl : am_ent cA (am_u1 ρ (z + 4) q) (am_u1 K (z + 4) 9) (am_u1 N (z + 4) x.toNat) I P (z + 4) = .inl (cA 9, x.toNat, .inl (fun _ => 0)) := by
    rw [am_ent_ia (c := 9) (show am_u1 K (z + 4) 9 (z + 4) = 9 by simp [am_u1]) (by decide) (by decide)]
    obtain ⟨-, e1, e2⟩ := hR.2.2.2.1 (z + 4) (Nat.le_refl _)
    simp only [am_u1, if_pos, e1]
    rfl
  obtain ⟨h1, h2⟩ := am_at_push ha hv9.2 (am_rep_push hR (by omega) (fun b _ => rfl) (fun j => hR.2.2.2.2.2.1 _ j) efl hP1 hD1) hS1
  rw [← h2]
  exact h l p e R s m args below meth c B D cA ρ0 N0 I0 hc hf ρ1 z1 (am_u1 ρ (z + 4) q) H1 locs lsR h1
theorem e_newq {idx kk : Nat} {x : Int} {C : String} (hd : decode M.2.2.1 pc = .ok (.anewarray idx, 3)) (hC : kk = 11 ∧ C = "PickScanner$Lane" ∨ kk = 12 ∧ C = "PickScanner$Part" ∨ kk = 13 ∧ C = "PickScanner$State") (hw : Cond.classLink M.1 idx C ∈ am_good) (h0 : 0 ≤ x) (hx9 : x ≤ 100000) (hk : k + 1 ≤ M.2.2.2.2.2.1.1) (hn : n + x.toNat ≤ M.2.2.2.2.2.1.2) (h : am_E d M (pc + 3) (k + 1) (n + x.toNat) ls (am_r (z + 4) :: st) (am_u1 K (z + 4) kk) (am_u1 N (z + 4) x.toNat) I P (z + 1) Q X) : am_E d M pc k n ls (.inl x :: st) K N I P z Q X := by
  intro l p e R s m args below meth c B D cA ρ0 N0 I0 hc hf ρ1 z1 ρ H locs lsR ha
  obtain ⟨hR, hS, hL, hst, hρ, hz⟩ := id ha
  have hx := hc.2.1
  have hb := hc.2.2.1
  have hml := hc.2.2.2.2.1
  have hown := hc.2.2.2.2.2.1
  have hts := hc.2.2.2.2.2.2.2.1
  have hrm := hc.2.2.2.2.2.2.2.2.2.2
  have hKK := hf.2.1
  have hv9 := List.forall_mem_cons.mp hst
  obtain ⟨ho, ht⟩ : va_AO C s ∧ (am_tys cA)[kk - 9]? = some (cA kk, .object C) := by
    rcases hC with ⟨rfl, rfl⟩ | ⟨rfl, rfl⟩ | ⟨rfl, rfl⟩
    · exact ⟨hf.2.2.2.2.2.2.2.2.2.2.2.2.1, rfl⟩
    · exact ⟨hf.2.2.2.2.2.2.2.2.2.2.2.2.2.1, rfl⟩
    · exact ⟨hf.2.2.2.2.2.2.2.2.2.2.2.2.2.2.1, rfl⟩
  refine va_newq (N' := x.toNat) hx hb hown (hts _ hw) ho hKK hR.1 hR.2.1 hS (am_hA hf.1) (fun q => absurd ((am_lt hv9.1 am_in0).mp q) (by omega)) (am_clamp hv9.1) (by omega) (by omega) (by omega) hd (fun q cA' H1 hK1 hP1 hD1 hS1 => ?_)
  have ec : cA' = cA kk := am_RA hKK ht hK1
  subst ec
  have efl : am_ent cA (am_u1 ρ (z + 4) q) (am_u1 K (z + 4) kk) (am_u1 N (z + 4) x.toNat) I P (z + 4) = .inl (cA kk, x.toNat, .inr (.inr (.inr (.inr (fun _ => none))))) := by
    rw [am_ent_ra (show am_u1 K (z + 4) kk (z + 4) = kk by simp [am_u1]) (by omega) (by omega)]
    obtain ⟨-, e1, e2⟩ := hR.2.2.2.1 (z + 4) (Nat.le_refl _)
    simp only [am_u1, if_pos, e2, Option.map_none]
  obtain ⟨h1, h2⟩ := am_at_push ha hv9.2 (am_rep_push hR (by omega) (fun b _ => rfl) (fun j => hR.2.2.2.2.2.1 _ j) efl hP1 hD1) hS1
  rw [← h2]
  exact h l p e R s m args below meth c B D cA ρ0 N0 I0 hc hf ρ1 z1 (am_u1 ρ (z + 4) q) H1 locs lsR h1
theorem e_gets {idx a : Nat} {nm : String} (hd : decode M.2.2.1 pc = .ok (.getstatic idx, 3)) (hq : ("PickScanner", nm, "[I", a) ∈ am_sta) (ha4 : a < 4) (hw : Cond.fieldLink M.1 idx "PickScanner" nm "[I" ∈ am_good) (h : am_E d M (pc + 3) k n ls (am_r a :: st) K N I P z Q X) : am_E d M pc k n ls st K N I P z Q X := by
  intro l p e R s m args below meth c B D cA ρ0 N0 I0 hc hf ρ1 z1 ρ H locs lsR ha
  obtain ⟨hR, hS, hL, hst, hρ, hz⟩ := id ha
  have hx := hc.2.1
  have hb := hc.2.2.1
  have hml := hc.2.2.2.2.1
  have hown := hc.2.2.2.2.2.1
  have hts := hc.2.2.2.2.2.2.2.1
  have hrm := hc.2.2.2.2.2.2.2.2.2.2
  have hKK := hf.2.1
  refine va_gets hx hb (hf.2.2.2.1 _ hq) hS hown (hts _ hw) (fun _ h9 => h9) hd ?_
  have e1 := (hR.2.2.2.2.1 a ha4).2.1
  rw [← e1]
  exact h l p e R s m args below meth c B D cA ρ0 N0 I0 hc hf ρ1 z1 ρ H locs lsR ⟨hR, hS, hL, List.forall_mem_cons.mpr ⟨(show a < z + 4 by omega), hst⟩, hρ, hz⟩
theorem e_getsN  (hd : decode M.2.2.1 pc = .ok (.getstatic 9, 3)) (hM : M.1 = "PickScanner$State") (h : am_E d M (pc + 3) k n ls (am_r 0 :: st) K N I P z Q X) : am_E d M pc k n ls st K N I P z Q X := by
  intro l p e R s m args below meth c B D cA ρ0 N0 I0 hc hf ρ1 z1 ρ H locs lsR ha
  obtain ⟨hR, hS, hL, hst, hρ, hz⟩ := id ha
  have hx := hc.2.1
  have hb := hc.2.2.1
  have hml := hc.2.2.2.2.1
  have hown := hc.2.2.2.2.2.1
  have hts := hc.2.2.2.2.2.2.2.1
  have hrm := hc.2.2.2.2.2.2.2.2.2.2
  have hKK := hf.2.1
  refine va_getsN hx hb (hf.2.2.2.1 ("PickScanner", "INITIAL_SETTINGS", "[I", 0) (by decide)) hS hown (by rw [hM]; exact va_Nw.use rfl hf.2.2.2.2.2.2.2.2.1) (fun _ h9 => h9) hd ?_
  have e1 := (hR.2.2.2.2.1 0 (by decide)).2.1
  show W p l e R s m args below meth c H locs k n _ (F0 m (pc + 3) lsR (.ref (ρ0 0) :: st.map (am_cv ρ)))
  rw [← e1]
  exact h l p e R s m args below meth c B D cA ρ0 N0 I0 hc hf ρ1 z1 ρ H locs lsR ⟨hR, hS, hL, List.forall_mem_cons.mpr ⟨(show 0 < z + 4 by omega), hst⟩, hρ, hz⟩
theorem e_acopy {idx a b : Nat} {sp dp nn : Int} (hd : decode M.2.2.1 pc = .ok (.invokestatic idx, 3)) (hw1 : Cond.methodLink M.1 idx arraycopyName ∈ am_good) (hw2 : Cond.native arraycopyName ∈ am_good) (hw3 : Cond.static arraycopyName ∈ am_good) (hw4 : Cond.initialized "java/lang/System" ∈ am_good) (hK1 : K a = 10) (hK2 : K b = 10) (h1 : 0 ≤ sp) (h2 : 0 ≤ dp) (h3 : 0 ≤ nn) (h4 : sp + nn ≤ N a) (h5 : dp + nn ≤ N b) (hd1 : 2 ≤ d) (hsm : (st.map am_catn).sum ≤ 8) (h : am_E d M (pc + 3) k n ls st K N (am_cp I a b sp.toNat dp.toNat nn.toNat) P z Q X) : am_E d M pc k n ls (.inl nn :: .inl dp :: am_r b :: .inl sp :: am_r a :: st) K N I P z Q X := by
  intro l p e R s m args below meth c B D cA ρ0 N0 I0 hc hf ρ1 z1 ρ H locs lsR ha
  obtain ⟨hR, hS, hL, hst, hρ, hz⟩ := id ha
  have hx := hc.2.1
  have hb := hc.2.2.1
  have hml := hc.2.2.2.2.1
  have hown := hc.2.2.2.2.2.1
  have hts := hc.2.2.2.2.2.2.2.1
  have hrm := hc.2.2.2.2.2.2.2.2.2.2
  have hKK := hf.2.1
  obtain ⟨i1, i2⟩ := am_rep_id hR (a := a) (by omega)
  obtain ⟨j1, j2⟩ := am_rep_id hR (a := b) (by omega)
  have v1 := List.forall_mem_cons.mp hst
  have v2 := List.forall_mem_cons.mp v1.2
  have v3 := List.forall_mem_cons.mp v2.2
  have v4 := List.forall_mem_cons.mp v3.2
  have v5 := List.forall_mem_cons.mp v4.2
  have c1 := am_clamp v1.1
  have c2 := am_clamp v2.1
  have c4 := am_clamp v4.1
  refine va_copyi (ty := .int) hx hb (hml.trans hL.1.1.symm) hown (hts _ hw1) (hts _ hw2) (hts _ hw3) (hts _ hw4) hKK hR.1 hR.2.1 hS (a - 4) (b - 4) 1 1 ((am_ws_at i1 i2).trans (by rw [am_ent_ia hK1 (by decide) (by decide)])) ((am_ws_at j1 j2).trans (by rw [am_ent_ia hK2 (by decide) (by decide)])) rfl rfl rfl
    (fun q => absurd ((am_lt v4.1 am_in0).mp q) (by omega)) (fun q => absurd ((am_lt v2.1 am_in0).mp q) (by omega)) (fun q => absurd ((am_lt v1.1 am_in0).mp q) (by omega)) (by rw [c1, c4]; omega) (by rw [c1, c2]; omega) (fun _ _ => rfl) (by omega) ?_ hd (fun H1 locs1 hP1 hD1 hS1 => ?_)
  · have := am_catsum (ρ := ρ) v5.2
    have e9 : nativeFrameWords "java/lang/System" "arraycopy" 5 ≤ 60 := by decide +kernel
    have := hrm.2.1
    omega
  · refine h l p e R s m args below meth c B D cA ρ0 N0 I0 hc hf ρ1 z1 ρ H1 locs1 lsR ⟨am_rep_set hR (a := b) (by omega) ?_ hP1 hD1 (fun x hx9 => ?_) (fun x _ => rfl) (fun j => ?_) (fun j x hx9 => hR.2.2.2.2.2.2 b j x hx9), hS1, hL, v5.2, hρ, hz⟩
    · rw [am_ent_ia hK2 (by decide) (by decide), c1, c2, c4]
      congr 4
      funext j
      simp only [am_cp, true_and, va_cpy]
      split <;> rfl
    · funext j; simp [am_cp, hx9]
    · simp only [am_cp]; split <;> exact hR.2.2.2.2.2.1 _ _
theorem e_oinit {idx a : Nat} (hd : decode M.2.2.1 pc = .ok (.invokespecial idx, 3)) (hw1 : Cond.methodLink M.1 idx objectInit ∈ am_good) (hw2 : Cond.instanceMethod objectInit ∈ am_good) (hw3 : Cond.code objectInit ⟨#[0xb1]⟩ 1 none ∈ am_good) (hd1 : 1 ≤ d) (hsm : (st.map am_catn).sum ≤ 8) (h : am_E d M (pc + 3) k n ls st K N I P z Q X) : am_E d M pc k n ls (am_r a :: st) K N I P z Q X := by
  intro l p e R s m args below meth c B D cA ρ0 N0 I0 hc hf ρ1 z1 ρ H locs lsR ha
  obtain ⟨hR, hS, hL, hst, hρ, hz⟩ := id ha
  have hx := hc.2.1
  have hb := hc.2.2.1
  have hml := hc.2.2.2.2.1
  have hown := hc.2.2.2.2.2.1
  have hts := hc.2.2.2.2.2.2.2.1
  have hrm := hc.2.2.2.2.2.2.2.2.2.2
  have hKK := hf.2.1
  have hv9 := List.forall_mem_cons.mp hst
  refine W.objInit hx hb hown (hts _ hw1) (hts _ hw2) (hts _ hw3) rfl (by rw [hml]; exact hL.1.1) rfl hd (by omega) ?_ (h l p e R s m args below meth c B D cA ρ0 N0 I0 hc hf ρ1 z1 ρ H locs lsR ⟨hR, hS, hL, hv9.2, hρ, hz⟩)
  have := am_catsum (ρ := ρ) hv9.2
  have := hrm.2.1
  have : (F0 m pc lsR (Value.ref (ρ a) :: st.map (am_cv ρ))).monitorRoom = 0 := rfl
  show 2 * (F0 m pc lsR (Value.ref (ρ a) :: st.map (am_cv ρ))).monitorRoom + _ + 12 ≤ _
  omega
theorem e_max {idx : Nat} {x y : Int} (hd : decode M.2.2.1 pc = .ok (.invokestatic idx, 3)) (hw1 : Cond.methodLink M.1 idx Lib.Math.max.name ∈ am_good) (hw2 : Cond.static Lib.Math.max.name ∈ am_good) (hw3 : Cond.initialized "java/lang/Math" ∈ am_good) (hw4 : Cond.code Lib.Math.max.name Lib.Math.max.code 2 (some .int) ∈ am_good) (hd1 : 1 ≤ d) (hsm : (st.map am_catn).sum ≤ 8) (hk : k ≤ M.2.2.2.2.2.1.1) (hn : n ≤ M.2.2.2.2.2.1.2) (h : am_E d M (pc + 3) k n ls (.inl (if x < y then y else x) :: st) K N I P z Q X) : am_E d M pc k n ls (.inl y :: .inl x :: st) K N I P z Q X := by
  intro l p e R s m args below meth c B D cA ρ0 N0 I0 hc hf ρ1 z1 ρ H locs lsR ha
  obtain ⟨hR, hS, hL, hst, hρ, hz⟩ := id ha
  have hx := hc.2.1
  have hb := hc.2.2.1
  have hml := hc.2.2.2.2.1
  have hown := hc.2.2.2.2.2.1
  have hts := hc.2.2.2.2.2.2.2.1
  have hrm := hc.2.2.2.2.2.2.2.2.2.2
  have hKK := hf.2.1
  have hv9 := List.forall_mem_cons.mp hst
  have hw9 := List.forall_mem_cons.mp hv9.2
  have hxi : am_in x := hw9.1
  have hyi : am_in y := hv9.1
  have hs9 := am_catsum (ρ := ρ) hw9.2
  have hr9 := hrm.2.1
  have hh := h l p e R s m args below meth c B D cA ρ0 N0 I0 hc hf ρ1 z1 ρ H locs lsR ⟨hR, hS, hL, List.forall_mem_cons.mpr ⟨(show am_in _ by split <;> assumption), hw9.2⟩, hρ, hz⟩
  refine va_mmax hx hb (hml.trans hL.1.1.symm) hown (hts _ hw1) (hts _ hw2) (hts _ hw3) (hts _ hw4) (by omega) (by omega) (by omega) (by omega) hd ?_
  rw [show (if Int32.ofInt x < Int32.ofInt y then Int32.ofInt y else Int32.ofInt x) = Int32.ofInt (if x < y then y else x) by
    by_cases q : x < y
    · rw [if_pos q, if_pos ((am_lt hxi hyi).mpr q)]
    · rw [if_neg q, if_neg (fun q2 => q ((am_lt hxi hyi).mp q2))]]
  exact hh
theorem e_min {idx : Nat} {x y : Int} (hd : decode M.2.2.1 pc = .ok (.invokestatic idx, 3)) (hw1 : Cond.methodLink M.1 idx Lib.Math.min.name ∈ am_good) (hw2 : Cond.static Lib.Math.min.name ∈ am_good) (hw3 : Cond.initialized "java/lang/Math" ∈ am_good) (hw4 : Cond.code Lib.Math.min.name Lib.Math.min.code 2 (some .int) ∈ am_good) (hd1 : 1 ≤ d) (hsm : (st.map am_catn).sum ≤ 8) (hk : k ≤ M.2.2.2.2.2.1.1) (hn : n ≤ M.2.2.2.2.2.1.2) (h : am_E d M (pc + 3) k n ls (.inl (if y < x then y else x) :: st) K N I P z Q X) : am_E d M pc k n ls (.inl y :: .inl x :: st) K N I P z Q X := by
  intro l p e R s m args below meth c B D cA ρ0 N0 I0 hc hf ρ1 z1 ρ H locs lsR ha
  obtain ⟨hR, hS, hL, hst, hρ, hz⟩ := id ha
  have hx := hc.2.1
  have hb := hc.2.2.1
  have hml := hc.2.2.2.2.1
  have hown := hc.2.2.2.2.2.1
  have hts := hc.2.2.2.2.2.2.2.1
  have hrm := hc.2.2.2.2.2.2.2.2.2.2
  have hKK := hf.2.1
  have hv9 := List.forall_mem_cons.mp hst
  have hw9 := List.forall_mem_cons.mp hv9.2
  have hxi : am_in x := hw9.1
  have hyi : am_in y := hv9.1
  have hs9 := am_catsum (ρ := ρ) hw9.2
  have hr9 := hrm.2.1
  have hh := h l p e R s m args below meth c B D cA ρ0 N0 I0 hc hf ρ1 z1 ρ H locs lsR ⟨hR, hS, hL, List.forall_mem_cons.mpr ⟨(show am_in _ by split <;> assumption), hw9.2⟩, hρ, hz⟩
  refine va_mmin hx hb (hml.trans hL.1.1.symm) hown (hts _ hw1) (hts _ hw2) (hts _ hw3) (hts _ hw4) (by omega) (by omega) (by omega) (by omega) hd ?_
  rw [show (if Int32.ofInt y < Int32.ofInt x then Int32.ofInt y else Int32.ofInt x) = Int32.ofInt (if y < x then y else x) by
    by_cases q : y < x
    · rw [if_pos q, if_pos ((am_lt hyi hxi).mpr q)]
    · rw [if_neg q, if_neg (fun q2 => q ((am_lt hyi hxi).mp q2))]]
  exact hh
end
