theorem am_ws_at {cA : Nat → ClassId} {ρ K N : Nat → Nat} {I : Nat → Nat → Int} {P : Nat → Nat → Option Nat} {z a : Nat} (h4 : 4 ≤ a) (hz : a < z + 4) : (am_ws cA ρ K N I P z)[a - 4]? = some (ρ a, am_ent cA ρ K N I P a) := by
  unfold am_ws
  rw [List.getElem?_map, List.getElem?_range (by omega)]
  simp only [Option.map_some]
  rw [show a - 4 + 4 = a by omega]
theorem am_ws_len {cA : Nat → ClassId} {ρ K N : Nat → Nat} {I : Nat → Nat → Int} {P : Nat → Nat → Option Nat} {z : Nat} : (am_ws cA ρ K N I P z).length = z := by
  unfold am_ws
  rw [List.length_map, List.length_range]
theorem am_ws_set {cA : Nat → ClassId} {ρ K N : Nat → Nat} {I I' : Nat → Nat → Int} {P P' : Nat → Nat → Option Nat} {z a : Nat} {e : va_E} (h4 : 4 ≤ a) (hz : a < z + 4) (hI : ∀ b, b ≠ a → I' b = I b) (hP : ∀ b, b ≠ a → P' b = P b) (he : am_ent cA ρ K N I' P' a = e) : (am_ws cA ρ K N I P z).set (a - 4) (ρ a, e) = am_ws cA ρ K N I' P' z := by
  apply List.ext_getElem?
  intro j
  rw [List.getElem?_set]
  by_cases hj : a - 4 = j
  · subst hj
    rw [if_pos rfl, if_pos (by rw [am_ws_len]; omega), am_ws_at h4 hz, he]
  · rw [if_neg hj]
    unfold am_ws
    rw [List.getElem?_map, List.getElem?_map]
    by_cases hz2 : j < z
    · rw [List.getElem?_range hz2]
      simp only [Option.map_some]
      have hb : j + 4 ≠ a := by omega
      have e1 := hI _ hb
      have e2 := hP _ hb
      unfold am_ent am_fl am_fv
      rw [e1, e2]
    · rw [List.getElem?_eq_none (by rw [List.length_range]; omega)]
      rfl
section
variable {B : Nat} {D : va_G} {cA : Nat → ClassId} {ρ0 N0 : Nat → Nat} {I0 : Nat → Nat → Int} {ρ K N : Nat → Nat} {I : Nat → Nat → Int} {P : Nat → Nat → Option Nat} {z : Nat} {H : Heap}
theorem am_rep_id (h : am_rep B D cA ρ0 N0 I0 ρ K N I P z H) {a : Nat} (hK : K a < 15) : 4 ≤ a ∧ a < z + 4 := by
  obtain ⟨-, -, -, h5, h4, -⟩ := h
  refine ⟨?_, ?_⟩
  · refine Nat.le_of_not_lt fun q => ?_
    have := (h4 a q).1
    omega
  · refine Nat.lt_of_not_le fun q => ?_
    have := (h5 a q).1
    omega
theorem am_rep_set (h : am_rep B D cA ρ0 N0 I0 ρ K N I P z H) {a : Nat} (hK : K a < 15) {e : va_E} {I' : Nat → Nat → Int} {P' : Nat → Nat → Option Nat} {H1 : Heap} (he : am_ent cA ρ K N I' P' a = e)
    (hp : va_P D vwCl ((am_ws cA ρ K N I P z).set (a - 4) (ρ a, e)) H1) (hd : va_D (fun q => B ≤ q) ((am_ws cA ρ K N I P z).set (a - 4) (ρ a, e))) (hI : ∀ b, b ≠ a → I' b = I b) (hP : ∀ b, b ≠ a → P' b = P b) (hi : ∀ k, am_in (I' a k)) (hr : ∀ k b, P' a k = some b → b < z + 4) : am_rep B D cA ρ0 N0 I0 ρ K N I' P' z H1 := by
  obtain ⟨i1, i2⟩ := am_rep_id h hK
  rw [am_ws_set i1 i2 hI hP he] at hp hd
  obtain ⟨-, -, h3, h5, h4, h6, h7⟩ := h
  refine ⟨hp, hd, h3, fun b hb => ?_, fun b hb => ?_, fun b k => ?_, fun b k c hc => ?_⟩
  · have hne : b ≠ a := by omega
    rw [hI b hne, hP b hne]
    exact h5 b hb
  · have hne : b ≠ a := by omega
    rw [hI b hne]
    exact h4 b hb
  · by_cases hne : b = a
    · subst hne; exact hi k
    · rw [hI b hne]; exact h6 b k
  · by_cases hne : b = a
    · subst hne; exact hr k c hc
    · rw [hP b hne] at hc; exact h7 b k c hc
end
def am_u2 (I : Nat → Nat → Int) (a k : Nat) (x : Int) : Nat → Nat → Int := fun b j => if b = a ∧ j = k then x else I b j
def am_p2 (P : Nat → Nat → Option Nat) (a k : Nat) (x : Option Nat) : Nat → Nat → Option Nat := fun b j => if b = a ∧ j = k then x else P b j
theorem am_u2_ne {I : Nat → Nat → Int} {a k : Nat} {x : Int} {b : Nat} (h : b ≠ a) : am_u2 I a k x b = I b := by funext j; simp [am_u2, h]
theorem am_p2_ne {P : Nat → Nat → Option Nat} {a k : Nat} {x : Option Nat} {b : Nat} (h : b ≠ a) : am_p2 P a k x b = P b := by funext j; simp [am_p2, h]
theorem am_u2_in {I : Nat → Nat → Int} {a k : Nat} {x : Int} (h : ∀ b j, am_in (I b j)) (hx : am_in x) (b j : Nat) : am_in (am_u2 I a k x b j) := by unfold am_u2; split; exact hx; exact h b j
theorem am_p2_lt {P : Nat → Nat → Option Nat} {a k z : Nat} {x : Option Nat} (h : ∀ b j c, P b j = some c → c < z) (hx : ∀ c, x = some c → c < z) (b j c : Nat) (hc : am_p2 P a k x b j = some c) : c < z := by
  unfold am_p2 at hc
  split at hc
  · exact hx c hc
  · exact h b j c hc
theorem am_lt9 {p : Nat → Prop} (h0 : p 0) (h1 : p 1) (h2 : p 2) (h3 : p 3) (h4 : p 4) (h5 : p 5) (h6 : p 6) (h7 : p 7) (h8 : p 8) {c : Nat} (hc : c < 9) : p c := by
  match c, hc with
  | 0, _ => exact h0
  | 1, _ => exact h1
  | 2, _ => exact h2
  | 3, _ => exact h3
  | 4, _ => exact h4
  | 5, _ => exact h5
  | 6, _ => exact h6
  | 7, _ => exact h7
  | 8, _ => exact h8
theorem am_cl {c : Nat} (hc : c < 9) : vwCl[c]? = some (am_R c, am_TT c, am_nf c) := am_lt9 (p := fun c => vwCl[c]? = some (am_R c, am_TT c, am_nf c)) rfl rfl rfl rfl rfl rfl rfl rfl rfl hc
theorem am_tyok {c : Nat} (hc : c < 9) : ∀ k, k < am_nf c → parseFieldDescriptor (am_TT c k).2.2.1 = some (am_ty c k) := am_lt9 (p := fun c => ∀ k, k < am_nf c → parseFieldDescriptor (am_TT c k).2.2.1 = some (am_ty c k)) tyX0_ok tyX1_ok tyX2_ok tyX3_ok tyX4_ok tyX5_ok tyX6_ok tyX7_ok tyX8_ok hc
theorem am_nm {c : Nat} (hc : c < 9) : ∀ a, a < am_nf c → ∀ b, b < am_nf c → a ≠ b → (am_TT c a).2.1 ≠ (am_TT c b).2.1 := am_lt9 (p := fun c => ∀ a, a < am_nf c → ∀ b, b < am_nf c → a ≠ b → (am_TT c a).2.1 ≠ (am_TT c b).2.1) nmX0 nmX1 nmX2 nmX3 nmX4 nmX5 nmX6 nmX7 nmX8 hc
set_option maxRecDepth 100000 in
theorem am_uwsX0 : (u_ws (am_R 0) (am_TT 0) (am_nf 0)).all (fun w => decide (w ∈ am_good)) = true := by decide +kernel
set_option maxRecDepth 100000 in
theorem am_uwsX1 : (u_ws (am_R 1) (am_TT 1) (am_nf 1)).all (fun w => decide (w ∈ am_good)) = true := by decide +kernel
set_option maxRecDepth 100000 in
theorem am_uwsX2 : (u_ws (am_R 2) (am_TT 2) (am_nf 2)).all (fun w => decide (w ∈ am_good)) = true := by decide +kernel
set_option maxRecDepth 100000 in
theorem am_uwsX3 : (u_ws (am_R 3) (am_TT 3) (am_nf 3)).all (fun w => decide (w ∈ am_good)) = true := by decide +kernel
set_option maxRecDepth 100000 in
theorem am_uwsX4 : (u_ws (am_R 4) (am_TT 4) (am_nf 4)).all (fun w => decide (w ∈ am_good)) = true := by decide +kernel
set_option maxRecDepth 100000 in
theorem am_uwsX5 : (u_ws (am_R 5) (am_TT 5) (am_nf 5)).all (fun w => decide (w ∈ am_good)) = true := by decide +kernel
set_option maxRecDepth 100000 in
theorem am_uwsX6 : (u_ws (am_R 6) (am_TT 6) (am_nf 6)).all (fun w => decide (w ∈ am_good)) = true := by decide +kernel
set_option maxRecDepth 100000 in
theorem am_uwsX7 : (u_ws (am_R 7) (am_TT 7) (am_nf 7)).all (fun w => decide (w ∈ am_good)) = true := by decide +kernel
set_option maxRecDepth 100000 in
theorem am_uwsX8 : (u_ws (am_R 8) (am_TT 8) (am_nf 8)).all (fun w => decide (w ∈ am_good)) = true := by decide +kernel
theorem am_uws {c : Nat} (hc : c < 9) : ∀ w ∈ u_ws (am_R c) (am_TT c) (am_nf c), w ∈ am_good := fun w hw => of_decide_eq_true (List.all_eq_true.mp (am_lt9 (p := fun c => (u_ws (am_R c) (am_TT c) (am_nf c)).all (fun w => decide (w ∈ am_good)) = true) am_uwsX0 am_uwsX1 am_uwsX2 am_uwsX3 am_uwsX4 am_uwsX5 am_uwsX6 am_uwsX7 am_uwsX8 hc) w hw)
theorem am_cv_o (ρ : Nat → Nat) (o : Option Nat) : am_cv ρ (am_o o) = va_rf (o.map ρ) := by cases o <;> rfl
theorem am_fl_get {ρ : Nat → Nat} {I : Nat → Nat → Int} {P : Nat → Nat → Option Nat} {c a f : Nat} (hf : f < am_nf c) : (am_fl ρ I P c a)[f]? = some (am_fv ρ I P c a f) := by
  unfold am_fl
  rw [List.getElem?_map, List.getElem?_range hf]
  rfl
theorem am_ent_ob {cA : Nat → ClassId} {ρ K N : Nat → Nat} {I : Nat → Nat → Int} {P : Nat → Nat → Option Nat} {a c : Nat} (hK : K a = c) (hc : c < 9) : am_ent cA ρ K N I P a = .inr (c, am_fl ρ I P c a) := by
  unfold am_ent
  rw [hK, if_pos hc]
theorem am_ent_ia {cA : Nat → ClassId} {ρ K N : Nat → Nat} {I : Nat → Nat → Int} {P : Nat → Nat → Option Nat} {a c : Nat} (hK : K a = c) (h9 : 9 ≤ c) (hc : c < 11) : am_ent cA ρ K N I P a = .inl (cA c, N a, .inl (fun j => Int32.ofInt (I a j))) := by
  unfold am_ent
  rw [hK, if_neg (by omega), if_pos hc]
theorem am_ent_ra {cA : Nat → ClassId} {ρ K N : Nat → Nat} {I : Nat → Nat → Int} {P : Nat → Nat → Option Nat} {a c : Nat} (hK : K a = c) (h9 : 11 ≤ c) (hc : c < 14) : am_ent cA ρ K N I P a = .inl (cA c, N a, .inr (.inr (.inr (.inr (fun j => (P a j).map ρ))))) := by
  unfold am_ent
  rw [hK, if_neg (by omega), if_neg (by omega), if_pos hc]
theorem am_ent_ja {cA : Nat → ClassId} {ρ K N : Nat → Nat} {I : Nat → Nat → Int} {P : Nat → Nat → Option Nat} {a : Nat} (hK : K a = 14) : am_ent cA ρ K N I P a = .inl (cA 14, N a, .inr (.inl (fun j => Int64.ofInt (I a j)))) := by
  unfold am_ent
  rw [hK]
  rfl
theorem am_fl_set {ρ : Nat → Nat} {I I' : Nat → Nat → Int} {P P' : Nat → Nat → Option Nat} {c a f : Nat} {v : Value} (hv : am_fv ρ I' P' c a f = v) (hn : ∀ k, k ≠ f → am_fv ρ I' P' c a k = am_fv ρ I P c a k) : (am_fl ρ I P c a).set f v = am_fl ρ I' P' c a := by
  apply List.ext_getElem?
  intro j
  rw [List.getElem?_set]
  unfold am_fl
  rw [List.length_map, List.length_range, List.getElem?_map, List.getElem?_map]
  by_cases hj : f = j
  · subst hj
    rw [if_pos rfl]
    by_cases hl : f < am_nf c
    · rw [if_pos hl, List.getElem?_range hl, Option.map_some, hv]
    · rw [if_neg hl, List.getElem?_eq_none (by rw [List.length_range]; omega)]
      rfl
  · rw [if_neg hj]
    by_cases hl : j < am_nf c
    · rw [List.getElem?_range hl, Option.map_some, Option.map_some, hn j (fun q => hj q.symm)]
    · rw [List.getElem?_eq_none (by rw [List.length_range]; omega)]
      rfl
theorem am_fl_len {ρ : Nat → Nat} {I : Nat → Nat → Int} {P : Nat → Nat → Option Nat} {c a : Nat} : (am_fl ρ I P c a).length = am_nf c := by
  unfold am_fl
  rw [List.length_map, List.length_range]
theorem am_T1 {c f : Nat} (hc : c < 9) (hf : f < am_nf c) : (am_TT c f).1 = am_R c := am_lt9 (p := fun c => ∀ f, f < am_nf c → (am_TT c f).1 = am_R c) (by decide +kernel) (by decide +kernel) (by decide +kernel) (by decide +kernel) (by decide +kernel) (by decide +kernel) (by decide +kernel) (by decide +kernel) (by decide +kernel) hc f hf
theorem am_ok_o {P : Nat → Nat → Option Nat} {z : Nat} (h : ∀ a k b, P a k = some b → b < z + 4) (a k : Nat) : am_ok z (am_o (P a k)) := by
  cases hp : P a k with
  | none => trivial
  | some b => exact h a k b hp
theorem am_ok_ob {z : Nat} {o : Option Nat} (h : am_ok z (am_o o)) {b : Nat} (hb : o = some b) : b < z + 4 := by subst hb; exact h
theorem am_nar {t : FieldType} {x : Int} (h : t = .int ∨ t = .boolean ∧ (x = 0 ∨ x = 1)) : narrow t (.int (Int32.ofInt x)) = .int (Int32.ofInt x) ∧ fits t (.int (Int32.ofInt x)) = true := by
  rcases h with rfl | ⟨rfl, rfl | rfl⟩
  · exact ⟨rfl, rfl⟩
  · exact ⟨by decide +kernel, by decide +kernel⟩
  · exact ⟨by decide +kernel, by decide +kernel⟩
theorem am_narr {t : FieldType} {ρ : Nat → Nat} {o : Option Nat} (h : am_isr t = true) : narrow t (va_rf (o.map ρ)) = va_rf (o.map ρ) ∧ fits t (va_rf (o.map ρ)) = true := by
  cases t <;> first | (simp [am_isr] at h; done) | (cases o <;> exact ⟨rfl, rfl⟩)
theorem am_narc {x : Int} (h : 0 ≤ x ∧ x < 65536) : vp_nar .char (Int32.ofInt x) = Int32.ofInt x := by
  obtain ⟨q, rfl⟩ : ∃ q : Nat, x = q := ⟨x.toNat, by omega⟩
  have h2 := (pk_charN (q := q) (by omega)).1
  have e : Int32.ofInt (q : Int) = nI q := Int32.ofInt_eq_ofNat
  rw [e]
  unfold vp_nar
  rw [h2]
theorem am_tys_r {cA : Nat → ClassId} {kk : Nat} (h : 11 ≤ kk ∧ kk < 14) : ∃ C, (am_tys cA)[kk - 9]? = some (cA kk, .object C) := by
  rcases (show kk = 11 ∨ kk = 12 ∨ kk = 13 by omega) with rfl | rfl | rfl
  · exact ⟨_, rfl⟩
  · exact ⟨_, rfl⟩
  · exact ⟨_, rfl⟩
theorem am_tys_c {cA : Nat → ClassId} {K : Nat → Nat} {v kk : Nat} (h : kk = 11 ∧ K v = 0 ∨ kk = 12 ∧ K v = 2 ∨ kk = 13 ∧ K v = 6) : (am_tys cA)[kk - 9]? = some (cA kk, .object (am_R (K v), am_TT (K v), am_nf (K v)).1) := by
  rcases h with ⟨rfl, h⟩ | ⟨rfl, h⟩ | ⟨rfl, h⟩ <;> rw [h] <;> rfl
section
variable {d : Nat} {M : am_M} {pc k n : Nat} {ls : List (Option am_V)} {st : List am_V} {K N : Nat → Nat} {I : Nat → Nat → Int} {P : Nat → Nat → Option Nat} {z : Nat} {Q : am_V → am_T} {X : Nat → am_T}
theorem e_geti {idx a cc f : Nat} (hd : decode M.2.2.1 pc = .ok (.getfield idx, 3)) (hw : am_flk M.1 idx cc f) (ht : am_isr (am_ty cc f) = false) (hK : K a = cc) (h : am_E d M (pc + 3) k n ls (.inl (I a f) :: st) K N I P z Q X) : am_E d M pc k n ls (am_r a :: st) K N I P z Q X := by
  intro l p e R s m args below meth c B D cA ρ0 N0 I0 hc hf ρ1 z1 ρ H locs lsR ha
  obtain ⟨hR, hS, hL, hst, hρ, hz⟩ := id ha
  have hx := hc.2.1
  have hb := hc.2.2.1
  have hown := hc.2.2.2.2.2.1
  have hts := hc.2.2.2.2.2.2.2.1
  have hKK := hf.2.1
  obtain ⟨hc9, hf9, hlk⟩ := hw
  obtain ⟨i1, i2⟩ := am_rep_id hR (a := a) (by omega)
  have hv9 := List.forall_mem_cons.mp hst
  refine va_get (D := D) (ci := cc) (v := am_cv ρ (.inl (I a f))) hx hb hts (am_uws hc9) hown hKK hR.1 (a - 4) ((am_ws_at i1 i2).trans (by rw [am_ent_ob hK hc9])) (am_cl hc9) f hf9 (hts _ hlk) (by rw [am_T1 hc9 hf9]; exact fun _ h9 => h9) ?_ hd (h l p e R s m args below meth c B D cA ρ0 N0 I0 hc hf ρ1 z1 ρ H locs lsR ⟨hR, hS, hL, List.forall_mem_cons.mpr ⟨hR.2.2.2.2.2.1 a f, hv9.2⟩, hρ, hz⟩)
  rw [am_fl_get hf9]
  unfold am_fv
  rw [ht]
  rfl
theorem e_getr {idx a cc f : Nat} (hd : decode M.2.2.1 pc = .ok (.getfield idx, 3)) (hw : am_flk M.1 idx cc f) (ht : am_isr (am_ty cc f) = true) (hK : K a = cc) (h : am_E d M (pc + 3) k n ls (am_o (P a f) :: st) K N I P z Q X) : am_E d M pc k n ls (am_r a :: st) K N I P z Q X := by
  intro l p e R s m args below meth c B D cA ρ0 N0 I0 hc hf ρ1 z1 ρ H locs lsR ha
  obtain ⟨hR, hS, hL, hst, hρ, hz⟩ := id ha
  have hx := hc.2.1
  have hb := hc.2.2.1
  have hown := hc.2.2.2.2.2.1
  have hts := hc.2.2.2.2.2.2.2.1
  have hKK := hf.2.1
  obtain ⟨hc9, hf9, hlk⟩ := hw
  obtain ⟨i1, i2⟩ := am_rep_id hR (a := a) (by omega)
  have hv9 := List.forall_mem_cons.mp hst
  refine va_get (D := D) (ci := cc) (v := am_cv ρ (am_o (P a f))) hx hb hts (am_uws hc9) hown hKK hR.1 (a - 4) ((am_ws_at i1 i2).trans (by rw [am_ent_ob hK hc9])) (am_cl hc9) f hf9 (hts _ hlk) (by rw [am_T1 hc9 hf9]; exact fun _ h9 => h9) ?_ hd (h l p e R s m args below meth c B D cA ρ0 N0 I0 hc hf ρ1 z1 ρ H locs lsR ⟨hR, hS, hL, List.forall_mem_cons.mpr ⟨am_ok_o hR.2.2.2.2.2.2 a f, hv9.2⟩, hρ, hz⟩)
  rw [am_fl_get hf9]
  unfold am_fv
  rw [ht]
  rw [am_cv_o]; rfl
theorem e_puti {idx a cc f : Nat} {x : Int} (hd : decode M.2.2.1 pc = .ok (.putfield idx, 3)) (hw : am_flk M.1 idx cc f) (hfin : (am_TT cc f).2.2.2 = false) (ht : am_ty cc f = .int ∨ am_ty cc f = .boolean ∧ (x = 0 ∨ x = 1)) (hK : K a = cc) (h : am_E d M (pc + 3) k n ls st K N (am_u2 I a f x) P z Q X) : am_E d M pc k n ls (.inl x :: am_r a :: st) K N I P z Q X := by
  intro l p e R s m args below meth c B D cA ρ0 N0 I0 hc hf ρ1 z1 ρ H locs lsR ha
  obtain ⟨hR, hS, hL, hst, hρ, hz⟩ := id ha
  have hx := hc.2.1
  have hb := hc.2.2.1
  have hown := hc.2.2.2.2.2.1
  have hts := hc.2.2.2.2.2.2.2.1
  have hKK := hf.2.1
  obtain ⟨hc9, hf9, hlk⟩ := hw
  obtain ⟨i1, i2⟩ := am_rep_id hR (a := a) (by omega)
  have hv9 := List.forall_mem_cons.mp hst
  have hw9 := List.forall_mem_cons.mp hv9.2
  have hnf := am_nar ht
  have hsr : am_isr (am_ty cc f) = false := by rcases ht with q | q <;> simp [q, am_isr]
  refine va_put (D := D) (ci := cc) (v := .int (Int32.ofInt x)) (ty := am_ty cc f) hx hb hts (am_uws hc9) (am_ty cc) (am_tyok hc9) (am_nm hc9) hown hKK hR.1 hR.2.1 hS (a - 4) ((am_ws_at i1 i2).trans (by rw [am_ent_ob hK hc9])) (am_cl hc9) f hf9 (hts _ hlk) (by rw [am_T1 hc9 hf9]; exact fun _ h9 => h9) hfin (am_tyok hc9 f hf9) hnf.1 hnf.2 (by rw [am_fl_len]; exact hf9) hd (fun H1 locs1 hP1 hD1 hS1 => ?_)
  refine h l p e R s m args below meth c B D cA ρ0 N0 I0 hc hf ρ1 z1 ρ H1 locs1 lsR ⟨am_rep_set hR (by omega) ?_ hP1 hD1 (fun b hb => am_u2_ne hb) (fun b hb => rfl) (fun j => am_u2_in hR.2.2.2.2.2.1 hv9.1 a j) (fun j b hb => hR.2.2.2.2.2.2 a j b hb), hS1, hL, hw9.2, hρ, hz⟩
  rw [am_ent_ob hK hc9, am_fl_set (I' := am_u2 I a f x) (P' := P)]
  · unfold am_fv; rw [hsr]; simp [am_u2]
  · intro j hj; unfold am_fv am_u2; simp [hj]
theorem e_putr {idx a cc f : Nat} {o : Option Nat} (hd : decode M.2.2.1 pc = .ok (.putfield idx, 3)) (hw : am_flk M.1 idx cc f) (hfin : (am_TT cc f).2.2.2 = false) (ht : am_isr (am_ty cc f) = true) (hK : K a = cc) (h : am_E d M (pc + 3) k n ls st K N I (am_p2 P a f o) z Q X) : am_E d M pc k n ls (am_o o :: am_r a :: st) K N I P z Q X := by
  intro l p e R s m args below meth c B D cA ρ0 N0 I0 hc hf ρ1 z1 ρ H locs lsR ha
  obtain ⟨hR, hS, hL, hst, hρ, hz⟩ := id ha
  have hx := hc.2.1
  have hb := hc.2.2.1
  have hown := hc.2.2.2.2.2.1
  have hts := hc.2.2.2.2.2.2.2.1
  have hKK := hf.2.1
  obtain ⟨hc9, hf9, hlk⟩ := hw
  obtain ⟨i1, i2⟩ := am_rep_id hR (a := a) (by omega)
  have hv9 := List.forall_mem_cons.mp hst
  have hw9 := List.forall_mem_cons.mp hv9.2
  have hnf := am_narr (ρ := ρ) (o := o) ht
  show W p l e R s m args below meth c H locs k n _ (F0 m pc lsR (am_cv ρ (am_o o) :: .ref (ρ a) :: st.map (am_cv ρ)))
  rw [am_cv_o]
  refine va_put (D := D) (ci := cc) (v := va_rf (o.map ρ)) (ty := am_ty cc f) hx hb hts (am_uws hc9) (am_ty cc) (am_tyok hc9) (am_nm hc9) hown hKK hR.1 hR.2.1 hS (a - 4) ((am_ws_at i1 i2).trans (by rw [am_ent_ob hK hc9])) (am_cl hc9) f hf9 (hts _ hlk) (by rw [am_T1 hc9 hf9]; exact fun _ h9 => h9) hfin (am_tyok hc9 f hf9) hnf.1 hnf.2 (by rw [am_fl_len]; exact hf9) hd (fun H1 locs1 hP1 hD1 hS1 => ?_)
  refine h l p e R s m args below meth c B D cA ρ0 N0 I0 hc hf ρ1 z1 ρ H1 locs1 lsR ⟨am_rep_set hR (by omega) ?_ hP1 hD1 (fun b hb => rfl) (fun b hb => am_p2_ne hb) (fun j => hR.2.2.2.2.2.1 a j) (fun j b hb => am_p2_lt hR.2.2.2.2.2.2 (fun b' hb' => am_ok_ob hv9.1 hb') a j b hb), hS1, hL, hw9.2, hρ, hz⟩
  rw [am_ent_ob hK hc9, am_fl_set (I' := I) (P' := am_p2 P a f o)]
  · unfold am_fv; rw [ht]; simp [am_p2]
  · intro j hj; unfold am_fv am_p2; simp [hj]
theorem e_putrF {idx a cc f : Nat} {o : Option Nat} (hd : decode M.2.2.1 pc = .ok (.putfield idx, 3)) (hw : am_flk M.1 idx cc f) (hfin : (am_TT cc f).2.2.2 = true) (hci : M.2.1.name = "<init>") (hoc : M.1 = am_R cc) (ht : am_isr (am_ty cc f) = true) (hK : K a = cc) (h : am_E d M (pc + 3) k n ls st K N I (am_p2 P a f o) z Q X) : am_E d M pc k n ls (am_o o :: am_r a :: st) K N I P z Q X := by
  intro l p e R s m args below meth c B D cA ρ0 N0 I0 hc hf ρ1 z1 ρ H locs lsR ha
  obtain ⟨hR, hS, hL, hst, hρ, hz⟩ := id ha
  have hx := hc.2.1
  have hb := hc.2.2.1
  have hown := hc.2.2.2.2.2.1
  have hts := hc.2.2.2.2.2.2.2.1
  have hKK := hf.2.1
  obtain ⟨hc9, hf9, hlk⟩ := hw
  obtain ⟨i1, i2⟩ := am_rep_id hR (a := a) (by omega)
  have hv9 := List.forall_mem_cons.mp hst
  have hw9 := List.forall_mem_cons.mp hv9.2
  have hnf := am_narr (ρ := ρ) (o := o) ht
  show W p l e R s m args below meth c H locs k n _ (F0 m pc lsR (am_cv ρ (am_o o) :: .ref (ρ a) :: st.map (am_cv ρ)))
  rw [am_cv_o]
  refine va_putF (D := D) (ci := cc) (v := va_rf (o.map ρ)) (ty := am_ty cc f) hx hb hts (am_uws hc9) (am_ty cc) (am_tyok hc9) (am_nm hc9) hown hKK hR.1 hR.2.1 hS (a - 4) ((am_ws_at i1 i2).trans (by rw [am_ent_ob hK hc9])) (am_cl hc9) f hf9 (hts _ hlk) (by rw [am_T1 hc9 hf9]; exact fun _ h9 => h9) hfin (hc.2.2.2.2.2.2.2.2.2.1.trans hci) (by rw [am_T1 hc9 hf9, hoc]) (am_tyok hc9 f hf9) hnf.1 hnf.2 (by rw [am_fl_len]; exact hf9) hd (fun H1 locs1 hP1 hD1 hS1 => ?_)
  refine h l p e R s m args below meth c B D cA ρ0 N0 I0 hc hf ρ1 z1 ρ H1 locs1 lsR ⟨am_rep_set hR (by omega) ?_ hP1 hD1 (fun b hb => rfl) (fun b hb => am_p2_ne hb) (fun j => hR.2.2.2.2.2.1 a j) (fun j b hb => am_p2_lt hR.2.2.2.2.2.2 (fun b' hb' => am_ok_ob hv9.1 hb') a j b hb), hS1, hL, hw9.2, hρ, hz⟩
  rw [am_ent_ob hK hc9, am_fl_set (I' := I) (P' := am_p2 P a f o)]
  · unfold am_fv; rw [ht]; simp [am_p2]
  · intro j hj; unfold am_fv am_p2; simp [hj]
theorem e_iald {a : Nat} {x : Int} (hd : decode M.2.2.1 pc = .ok (.iaload, 1)) (hK : K a = 10) (h0 : 0 ≤ x) (hn : x < N a) (h : am_E d M (pc + 1) k n ls (.inl (I a x.toNat) :: st) K N I P z Q X) : am_E d M pc k n ls (.inl x :: am_r a :: st) K N I P z Q X := by
  intro l p e R s m args below meth c B D cA ρ0 N0 I0 hc hf ρ1 z1 ρ H locs lsR ha
  obtain ⟨hR, hS, hL, hst, hρ, hz⟩ := id ha
  have hx := hc.2.1
  have hb := hc.2.2.1
  have hown := hc.2.2.2.2.2.1
  have hts := hc.2.2.2.2.2.2.2.1
  have hKK := hf.2.1
  obtain ⟨i1, i2⟩ := am_rep_id hR (a := a) (by omega)
  have hv9 := List.forall_mem_cons.mp hst
  have hw9 := List.forall_mem_cons.mp hv9.2
  refine va_iald hx hb hKK hR.1 (a - 4) 1 ((am_ws_at i1 i2).trans (by rw [am_ent_ia hK (by decide) (by decide)])) rfl (am_vin hv9.1 h0 hn) hd ?_
  rw [am_clamp hv9.1]
  exact h l p e R s m args below meth c B D cA ρ0 N0 I0 hc hf ρ1 z1 ρ H locs lsR ⟨hR, hS, hL, List.forall_mem_cons.mpr ⟨hR.2.2.2.2.2.1 a x.toNat, hw9.2⟩, hρ, hz⟩
theorem e_cald {a : Nat} {x : Int} (hd : decode M.2.2.1 pc = .ok (.caload, 1)) (hK : K a = 9) (h0 : 0 ≤ x) (hn : x < N a) (h : am_E d M (pc + 1) k n ls (.inl (I a x.toNat) :: st) K N I P z Q X) : am_E d M pc k n ls (.inl x :: am_r a :: st) K N I P z Q X := by
  intro l p e R s m args below meth c B D cA ρ0 N0 I0 hc hf ρ1 z1 ρ H locs lsR ha
  obtain ⟨hR, hS, hL, hst, hρ, hz⟩ := id ha
  have hx := hc.2.1
  have hb := hc.2.2.1
  have hown := hc.2.2.2.2.2.1
  have hts := hc.2.2.2.2.2.2.2.1
  have hKK := hf.2.1
  obtain ⟨i1, i2⟩ := am_rep_id hR (a := a) (by omega)
  have hv9 := List.forall_mem_cons.mp hst
  have hw9 := List.forall_mem_cons.mp hv9.2
  refine va_cald hx hb hKK hR.1 (a - 4) 0 ((am_ws_at i1 i2).trans (by rw [am_ent_ia hK (by decide) (by decide)])) rfl (am_vin hv9.1 h0 hn) hd ?_
  rw [am_clamp hv9.1]
  exact h l p e R s m args below meth c B D cA ρ0 N0 I0 hc hf ρ1 z1 ρ H locs lsR ⟨hR, hS, hL, List.forall_mem_cons.mpr ⟨hR.2.2.2.2.2.1 a x.toNat, hw9.2⟩, hρ, hz⟩
theorem e_ialdC {a : Nat} {x : Int} (hd : decode M.2.2.1 pc = .ok (.iaload, 1)) (hK : a < 4) (h0 : 0 ≤ x) (hn : x < N a) (h : am_E d M (pc + 1) k n ls (.inl (I a x.toNat) :: st) K N I P z Q X) : am_E d M pc k n ls (.inl x :: am_r a :: st) K N I P z Q X := by
  intro l p e R s m args below meth c B D cA ρ0 N0 I0 hc hf ρ1 z1 ρ H locs lsR ha
  obtain ⟨hR, hS, hL, hst, hρ, hz⟩ := id ha
  have hx := hc.2.1
  have hb := hc.2.2.1
  have hown := hc.2.2.2.2.2.1
  have hts := hc.2.2.2.2.2.2.2.1
  have hKK := hf.2.1
  have hv9 := List.forall_mem_cons.mp hst
  have hw9 := List.forall_mem_cons.mp hv9.2
  obtain ⟨-, e1, e2, e3⟩ := hR.2.2.2.2.1 a hK
  obtain ⟨hX9, hlt⟩ := hf.2.2.1 a hK
  show W p l e R s m args below meth c H locs k n _ (F0 m pc lsR (.int (Int32.ofInt x) :: .ref (ρ a) :: st.map (am_cv ρ)))
  rw [e1]
  refine va_sld hx hb hX9 (Nat.lt_of_lt_of_le hlt hf.1) (fun q => absurd q (by omega)) hS ?_ hd ?_
  · rw [← e2]; exact am_vin hv9.1 h0 hn
  · rw [am_clamp hv9.1, ← e3]
    exact h l p e R s m args below meth c B D cA ρ0 N0 I0 hc hf ρ1 z1 ρ H locs lsR ⟨hR, hS, hL, List.forall_mem_cons.mpr ⟨hR.2.2.2.2.2.1 a x.toNat, hw9.2⟩, hρ, hz⟩
theorem e_alenC {a : Nat} (hd : decode M.2.2.1 pc = .ok (.arraylength, 1)) (hK : a < 4) (hn : N a < 2147483648) (h : am_E d M (pc + 1) k n ls (.inl (N a : Int) :: st) K N I P z Q X) : am_E d M pc k n ls (am_r a :: st) K N I P z Q X := by
  intro l p e R s m args below meth c B D cA ρ0 N0 I0 hc hf ρ1 z1 ρ H locs lsR ha
  obtain ⟨hR, hS, hL, hst, hρ, hz⟩ := id ha
  have hx := hc.2.1
  have hb := hc.2.2.1
  have hown := hc.2.2.2.2.2.1
  have hts := hc.2.2.2.2.2.2.2.1
  have hKK := hf.2.1
  have hv9 := List.forall_mem_cons.mp hst
  obtain ⟨-, e1, e2, e3⟩ := hR.2.2.2.2.1 a hK
  obtain ⟨hX9, hlt⟩ := hf.2.2.1 a hK
  show W p l e R s m args below meth c H locs k n _ (F0 m pc lsR (.ref (ρ a) :: st.map (am_cv ρ)))
  rw [e1]
  refine va_slen hx hb hX9 (Nat.lt_of_lt_of_le hlt hf.1) (fun q => absurd q (by omega)) hS hd ?_
  rw [← e2, ← Int32.ofInt_eq_ofNat]
  exact h l p e R s m args below meth c B D cA ρ0 N0 I0 hc hf ρ1 z1 ρ H locs lsR ⟨hR, hS, hL, List.forall_mem_cons.mpr ⟨⟨by omega, by omega⟩, hv9.2⟩, hρ, hz⟩
theorem e_iast {a : Nat} {i x : Int} (hd : decode M.2.2.1 pc = .ok (.iastore, 1)) (hK : K a = 10) (h0 : 0 ≤ i) (hn : i < N a) (h : am_E d M (pc + 1) k n ls st K N (am_u2 I a i.toNat x) P z Q X) : am_E d M pc k n ls (.inl x :: .inl i :: am_r a :: st) K N I P z Q X := by
  intro l p e R s m args below meth c B D cA ρ0 N0 I0 hc hf ρ1 z1 ρ H locs lsR ha
  obtain ⟨hR, hS, hL, hst, hρ, hz⟩ := id ha
  have hx := hc.2.1
  have hb := hc.2.2.1
  have hown := hc.2.2.2.2.2.1
  have hts := hc.2.2.2.2.2.2.2.1
  have hKK := hf.2.1
  obtain ⟨i1, i2⟩ := am_rep_id hR (a := a) (by omega)
  have hv9 := List.forall_mem_cons.mp hst
  have hw9 := List.forall_mem_cons.mp hv9.2
  have hy9 := List.forall_mem_cons.mp hw9.2
  refine va_iast hx hb hKK hR.1 hR.2.1 hS (a - 4) 1 ((am_ws_at i1 i2).trans (by rw [am_ent_ia hK (by decide) (by decide)])) rfl (am_vin hw9.1 h0 hn) hd (fun H1 locs1 hP1 hD1 hS1 => ?_)
  refine h l p e R s m args below meth c B D cA ρ0 N0 I0 hc hf ρ1 z1 ρ H1 locs1 lsR ⟨am_rep_set hR (by omega) ?_ hP1 hD1 (fun b hb => am_u2_ne hb) (fun b hb => rfl) (fun j => am_u2_in hR.2.2.2.2.2.1 hv9.1 a j) (fun j b hb => hR.2.2.2.2.2.2 a j b hb), hS1, hL, hy9.2, hρ, hz⟩
  rw [am_ent_ia hK (by decide) (by decide), am_clamp hw9.1]
  congr 4
  funext j
  simp only [am_u2, true_and, upd]
  split
  · rfl
  · rfl
theorem e_cast {a : Nat} {i x : Int} (hd : decode M.2.2.1 pc = .ok (.castore, 1)) (hK : K a = 9) (h0 : 0 ≤ i) (hn : i < N a) (hch : 0 ≤ x ∧ x < 65536) (h : am_E d M (pc + 1) k n ls st K N (am_u2 I a i.toNat x) P z Q X) : am_E d M pc k n ls (.inl x :: .inl i :: am_r a :: st) K N I P z Q X := by
  intro l p e R s m args below meth c B D cA ρ0 N0 I0 hc hf ρ1 z1 ρ H locs lsR ha
  obtain ⟨hR, hS, hL, hst, hρ, hz⟩ := id ha
  have hx := hc.2.1
  have hb := hc.2.2.1
  have hown := hc.2.2.2.2.2.1
  have hts := hc.2.2.2.2.2.2.2.1
  have hKK := hf.2.1
  obtain ⟨i1, i2⟩ := am_rep_id hR (a := a) (by omega)
  have hv9 := List.forall_mem_cons.mp hst
  have hw9 := List.forall_mem_cons.mp hv9.2
  have hy9 := List.forall_mem_cons.mp hw9.2
  refine va_cast hx hb hKK hR.1 hR.2.1 hS (a - 4) 0 ((am_ws_at i1 i2).trans (by rw [am_ent_ia hK (by decide) (by decide)])) rfl (am_vin hw9.1 h0 hn) hd (fun H1 locs1 hP1 hD1 hS1 => ?_)
  refine h l p e R s m args below meth c B D cA ρ0 N0 I0 hc hf ρ1 z1 ρ H1 locs1 lsR ⟨am_rep_set hR (by omega) ?_ hP1 hD1 (fun b hb => am_u2_ne hb) (fun b hb => rfl) (fun j => am_u2_in hR.2.2.2.2.2.1 hv9.1 a j) (fun j b hb => hR.2.2.2.2.2.2 a j b hb), hS1, hL, hy9.2, hρ, hz⟩
  rw [am_ent_ia hK (by decide) (by decide), am_clamp hw9.1]
  congr 4
  funext j
  simp only [am_u2, true_and, upd]
  split
  · exact (am_narc hch).symm
  · rfl
theorem e_aald {a kk : Nat} {x : Int} (hd : decode M.2.2.1 pc = .ok (.aaload, 1)) (hK : K a = kk) (hk9 : 11 ≤ kk ∧ kk < 14) (h0 : 0 ≤ x) (hn : x < N a) (h : am_E d M (pc + 1) k n ls (am_o (P a x.toNat) :: st) K N I P z Q X) : am_E d M pc k n ls (.inl x :: am_r a :: st) K N I P z Q X := by
  intro l p e R s m args below meth c B D cA ρ0 N0 I0 hc hf ρ1 z1 ρ H locs lsR ha
  obtain ⟨hR, hS, hL, hst, hρ, hz⟩ := id ha
  have hx := hc.2.1
  have hb := hc.2.2.1
  have hown := hc.2.2.2.2.2.1
  have hts := hc.2.2.2.2.2.2.2.1
  have hKK := hf.2.1
  obtain ⟨i1, i2⟩ := am_rep_id hR (a := a) (by omega)
  have hv9 := List.forall_mem_cons.mp hst
  have hw9 := List.forall_mem_cons.mp hv9.2
  obtain ⟨C, hC⟩ := am_tys_r (cA := cA) hk9
  refine va_aldq hx hb hKK hR.1 (a - 4) (kk - 9) ((am_ws_at i1 i2).trans (by rw [am_ent_ra hK hk9.1 hk9.2])) hC (am_vin hv9.1 h0 hn) hd ?_
  rw [am_clamp hv9.1, ← am_cv_o]
  exact h l p e R s m args below meth c B D cA ρ0 N0 I0 hc hf ρ1 z1 ρ H locs lsR ⟨hR, hS, hL, List.forall_mem_cons.mpr ⟨am_ok_o hR.2.2.2.2.2.2 a x.toNat, hw9.2⟩, hρ, hz⟩
theorem e_aast {a v kk : Nat} {i : Int} (hd : decode M.2.2.1 pc = .ok (.aastore, 1)) (hK : K a = kk) (hk9 : kk = 11 ∧ K v = 0 ∨ kk = 12 ∧ K v = 2 ∨ kk = 13 ∧ K v = 6) (h0 : 0 ≤ i) (hn : i < N a) (h : am_E d M (pc + 1) k n ls st K N I (am_p2 P a i.toNat (some v)) z Q X) : am_E d M pc k n ls (am_r v :: .inl i :: am_r a :: st) K N I P z Q X := by
  intro l p e R s m args below meth c B D cA ρ0 N0 I0 hc hf ρ1 z1 ρ H locs lsR ha
  obtain ⟨hR, hS, hL, hst, hρ, hz⟩ := id ha
  have hx := hc.2.1
  have hb := hc.2.2.1
  have hown := hc.2.2.2.2.2.1
  have hts := hc.2.2.2.2.2.2.2.1
  have hKK := hf.2.1
  obtain ⟨i1, i2⟩ := am_rep_id hR (a := a) (by omega)
  obtain ⟨j1, j2⟩ := am_rep_id hR (a := v) (by omega)
  have hv9 := List.forall_mem_cons.mp hst
  have hw9 := List.forall_mem_cons.mp hv9.2
  have hy9 := List.forall_mem_cons.mp hw9.2
  have hkr : 11 ≤ kk ∧ kk < 14 := by omega
  have hvc : K v < 9 := by omega
  have hC := am_tys_c (cA := cA) hk9
  refine va_astq hx hb hKK hR.1 hR.2.1 hS (a - 4) (kk - 9) (v - 4) (K v) (r := (am_R (K v), am_TT (K v), am_nf (K v))) ((am_ws_at i1 i2).trans (by rw [am_ent_ra hK hkr.1 hkr.2])) hC ((am_ws_at j1 j2).trans (by rw [am_ent_ob rfl hvc])) (am_cl hvc) (am_vin hw9.1 h0 hn) hd (fun H1 locs1 hP1 hD1 hS1 => ?_)
  refine h l p e R s m args below meth c B D cA ρ0 N0 I0 hc hf ρ1 z1 ρ H1 locs1 lsR ⟨am_rep_set hR (by omega) ?_ hP1 hD1 (fun b hb => rfl) (fun b hb => am_p2_ne hb) (fun j => hR.2.2.2.2.2.1 a j) (fun j b hb => am_p2_lt hR.2.2.2.2.2.2 (fun b' hb' => by cases hb'; exact j2) a j b hb), hS1, hL, hy9.2, hρ, hz⟩
  rw [am_ent_ra hK hkr.1 hkr.2, am_clamp hw9.1]
  congr 7
  funext j
  simp only [am_p2, true_and, va_up]
  split <;> rfl
end
