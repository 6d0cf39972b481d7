/-! numbers -/
theorem am_toInt {x : Int} (h : am_in x) : (Int32.ofInt x).toInt = x := Int32.toInt_ofInt_of_le (by have := h.1; omega) (by have := h.2; omega)
theorem am_toInt64 {x : Int} (h : am_in x) : (Int64.ofInt x).toInt = x := Int64.toInt_ofInt_of_le (by have := h.1; omega) (by have := h.2; omega)
theorem am_wr_in (x : Int) : am_in (am_wr x) := ⟨by have := Int32.le_toInt (Int32.ofInt x); unfold am_wr; omega, by have := Int32.toInt_lt (Int32.ofInt x); unfold am_wr; omega⟩
theorem am_wr_eq {x : Int} (h : am_in x) : am_wr x = x := am_toInt h
theorem am_of_wr (x : Int) : Int32.ofInt (am_wr x) = Int32.ofInt x := Int32.ofInt_toInt _
theorem am_lt {x y : Int} (hx : am_in x) (hy : am_in y) : Int32.ofInt x < Int32.ofInt y ↔ x < y := by rw [Int32.lt_iff_toInt_lt, am_toInt hx, am_toInt hy]
theorem am_le {x y : Int} (hx : am_in x) (hy : am_in y) : Int32.ofInt x ≤ Int32.ofInt y ↔ x ≤ y := by rw [Int32.le_iff_toInt_le, am_toInt hx, am_toInt hy]
theorem am_eq {x y : Int} (hx : am_in x) (hy : am_in y) : Int32.ofInt x = Int32.ofInt y ↔ x = y := by rw [← Int32.toInt_inj, am_toInt hx, am_toInt hy]
theorem am_zero : (0 : Int32) = Int32.ofInt 0 := by decide
theorem am_in0 : am_in 0 := ⟨by decide, by decide⟩
theorem am_clamp {x : Int} (h : am_in x) : (Int32.ofInt x).toNatClampNeg = x.toNat := Int32.toNatClampNeg_ofInt_of_le (by have := h.1; omega) (by have := h.2; omega)
theorem am_vin {x : Int} {n : Nat} (h : am_in x) (h0 : 0 ≤ x) (hn : x < n) : vp_in (Int32.ofInt x) n := by
  rw [vp_in_iff, am_toInt h]; exact ⟨h0, hn⟩
/-! locals -/
theorem am_loc_get {ρ : Nat → Nat} {z nL : Nat} {lv : List (Option am_V)} {ls : Array Slot} (h : am_loc ρ z nL lv ls) {i : Nat} {v : am_V} (hi : lv[i]? = some (some v)) : ls[i]? = some (.val (am_cv ρ v)) := by
  refine h.1.2.2 (i, am_cv ρ v) ?_
  unfold am_ll
  refine List.mem_filterMap.mpr ⟨i, List.mem_range.mpr (List.getElem?_eq_some_iff.mp hi).1, ?_⟩
  simp [hi]
def am_c2 (lv : List (Option am_V)) (i : Nat) : Bool := match i with
  | 0 => false
  | j + 1 => match lv[j]? with
    | some (some (.inr (.inl _))) => true
    | some (some (.inr (.inr (.double _)))) => true
    | _ => false
theorem am_cat (ρ : Nat → Nat) (v : am_V) : (am_cv ρ v).category = match v with
    | .inr (.inl _) => 2
    | .inr (.inr (.double _)) => 2
    | .inr (.inr (.long _)) => 2
    | _ => 1 := by
  rcases v with x | x | v
  · rfl
  · rfl
  · cases v <;> rfl
theorem am_loc_set {ρ : Nat → Nat} {z nL : Nat} {lv : List (Option am_V)} {ls ls' : Array Slot} (h : am_loc ρ z nL lv ls) {i : Nat} {v : am_V} (hv : am_ok z v) (hc : am_c2 lv i = false)
    (h' : lv_has ls' nL ((i, am_cv ρ v) :: (am_ll ρ lv).filter (fun q => !(q.1 == i) && !(q.1 + 1 == i && q.2.category == 2)))) : am_loc ρ z nL (lv.set i (some v)) ls' := by
  refine ⟨⟨h'.1, h'.2.1, fun q hq => ?_⟩, by rw [List.length_set]; exact h.2.1, fun j w hj => ?_⟩
  · unfold am_ll at hq
    obtain ⟨j, hj, hm⟩ := List.mem_filterMap.mp hq
    rw [List.length_set] at hj
    rw [List.getElem?_set] at hm
    by_cases hij : i = j
    · subst hij
      rw [if_pos rfl, if_pos (List.mem_range.mp hj)] at hm
      cases hm
      exact h'.2.2 _ List.mem_cons_self
    · rw [if_neg hij] at hm
      refine h'.2.2 q (List.mem_cons_of_mem _ (List.mem_filter.mpr ⟨List.mem_filterMap.mpr ⟨j, hj, hm⟩, ?_⟩))
      cases hl : lv[j]? with
      | none => simp [hl] at hm
      | some w =>
        cases w with
        | none => simp [hl] at hm
        | some w =>
          simp only [hl] at hm
          cases hm
          have h1 : (j == i) = false := by simpa using fun e => hij e.symm
          show (!(j == i) && !(j + 1 == i && (am_cv ρ w).category == 2)) = true
          rw [h1]
          by_cases e2 : j + 1 = i
          · subst e2
            have hok := h.2.2 j w hl
            simp only [am_c2, hl] at hc
            rw [am_cat]
            rcases w with x | x | x
            · simp
            · simp at hc
            · cases x <;> first | (simp at hc; done) | (exact hok.elim) | simp
          · have h2 : (j + 1 == i) = false := by simpa using e2
            rw [h2]
            rfl
  · rw [List.getElem?_set] at hj
    by_cases hij : i = j
    · subst hij
      rw [if_pos rfl] at hj
      split at hj
      · cases hj; exact hv
      · cases hj
    · rw [if_neg hij] at hj
      exact h.2.2 j w hj
theorem am_loc_set2 {ρ : Nat → Nat} {z nL : Nat} {lv : List (Option am_V)} {ls ls' : Array Slot} (h : am_loc ρ z nL lv ls) {i : Nat} {v : am_V} (hv : am_ok z v) (hc : am_c2 lv i = false)
    (h' : lv_has ls' nL ((i, am_cv ρ v) :: (am_ll ρ lv).filter (fun q => !(q.1 == i) && (!(q.1 == i + 1) && !(q.1 + 1 == i && q.2.category == 2))))) : am_loc ρ z nL ((lv.set i (some v)).set (i + 1) none) ls' := by
  refine ⟨⟨h'.1, h'.2.1, fun q hq => ?_⟩, by rw [List.length_set, List.length_set]; exact h.2.1, fun j w hj => ?_⟩
  · unfold am_ll at hq
    obtain ⟨j, hj, hm⟩ := List.mem_filterMap.mp hq
    rw [List.length_set, List.length_set] at hj
    rw [List.getElem?_set, List.getElem?_set, List.length_set] at hm
    by_cases hij2 : i + 1 = j
    · rw [if_pos hij2] at hm
      subst hij2
      rw [if_pos (List.mem_range.mp hj)] at hm
      cases hm
    rw [if_neg hij2] at hm
    by_cases hij : i = j
    · subst hij
      rw [if_pos rfl, if_pos (List.mem_range.mp hj)] at hm
      cases hm
      exact h'.2.2 _ List.mem_cons_self
    · rw [if_neg hij] at hm
      refine h'.2.2 q (List.mem_cons_of_mem _ (List.mem_filter.mpr ⟨List.mem_filterMap.mpr ⟨j, hj, hm⟩, ?_⟩))
      cases hl : lv[j]? with
      | none => simp [hl] at hm
      | some w =>
        cases w with
        | none => simp [hl] at hm
        | some w =>
          simp only [hl] at hm
          cases hm
          have h1 : (j == i) = false := by simpa using fun e => hij e.symm
          have h3 : (j == i + 1) = false := by simpa using fun e => hij2 e.symm
          show (!(j == i) && (!(j == i + 1) && !(j + 1 == i && (am_cv ρ w).category == 2))) = true
          rw [h1, h3]
          by_cases e2 : j + 1 = i
          · subst e2
            have hok := h.2.2 j w hl
            simp only [am_c2, hl] at hc
            rw [am_cat]
            rcases w with x | x | x
            · simp
            · simp at hc
            · cases x <;> first | (simp at hc; done) | (exact hok.elim) | simp
          · have h2 : (j + 1 == i) = false := by simpa using e2
            rw [h2]
            rfl
  · rw [List.getElem?_set, List.getElem?_set, List.length_set] at hj
    by_cases hij2 : i + 1 = j
    · rw [if_pos hij2] at hj
      split at hj
      · cases hj
      · cases hj
    rw [if_neg hij2] at hj
    by_cases hij : i = j
    · subst hij
      rw [if_pos rfl] at hj
      split at hj
      · cases hj; exact hv
      · cases hj
    · rw [if_neg hij] at hj
      exact h.2.2 j w hj
