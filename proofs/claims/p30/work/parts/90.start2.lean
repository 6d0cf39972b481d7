section
variable {args : Array Value} {s : State}
theorem fs_X {tm : Term} {N : Nat} {f : Nat → Int32} (hN : N < 2 ^ 31) (harr : (Cond.arrayOf tm .int).before args s = true) (hlen : (Cond.eq (.length tm) (.int (Int32.ofNat N))).before args s = true) (hel : ∀ j : Nat, j < N → (Cond.eq (.elem tm (.int (Int32.ofNat j))) (.int (f j))).before args s = true) : ∃ t : Nat, tm.eval args s none [] s = some (.ref t) ∧ va_X t N f s s.heap ∧ t < s.heap.size := by
  have hl := va_eqt hlen
  obtain ⟨t, ht, cell, hc, hof, hkn, hsz, hs32, hj, -⟩ := va_Tof (A := fun _ => False) (f := fun j => .int (f j)) hN harr hl (fun j q => va_eqt (hel j q)) (fun _ _ q => q)
  obtain ⟨t2, cell2, ht2, hat, hv⟩ := Term.length_spec hl
  cases ht.symm.trans ht2
  have hb : cell2.slots.size < 2 ^ 31 := by
    simp only [Term.eval, ht, hat, Option.bind_eq_bind, Option.bind_some] at hl
    by_cases hlt : cell2.slots.size < 2147483648
    · exact hlt
    · simp [hlt] at hl
  obtain ⟨hc2, -, -, -⟩ := State.arrayAt?_spec hat
  cases hc.symm.trans hc2
  have h1 : (Int32.ofNat cell.slots.size).toNatClampNeg = (Int32.ofNat N).toNatClampNeg := congrArg Int32.toNatClampNeg hs32
  rw [Int32.toNatClampNeg_ofNat_of_lt hb, Int32.toNatClampNeg_ofNat_of_lt hN] at h1
  exact ⟨t, ht, ⟨cell, hc, hof, hkn, h1, hj⟩, (Array.getElem?_eq_some_iff.mp hc).1⟩
theorem fs_prim {ty : FieldType} (h : (Cond.arrayClass ty).before args s = true) (hr : ∀ c : ClassId, s.vm.findClass ("[" ++ ty.toString) = some c → va_RA s c ty) : ∃ c : ClassId, ArrOfT s c ty ∧ va_RA s c ty := by
  obtain ⟨c, k, comp, h1, h2, h3⟩ := Cond.arrayClass_spec h
  exact ⟨c, fun n z => ⟨fun k h => (by cases h), k, h2, comp, h3⟩, hr c h1⟩
theorem fs_obj {n : String} (h : (Cond.arrayOver (.object n)).before args s = true) : ∃ c : ClassId, ArrOfT s c (.object n) ∧ va_RA s c (.object n) := by
  obtain ⟨comp, c, k, h1, h2, h3, h4, h5⟩ := Cond.arrayOver_spec h
  exact ⟨c, fun n z => ⟨fun k h => (by cases h), k, h3, comp, h4⟩, k, comp, h3, h4, h1, h5⟩
theorem fs_cls (hts : ∀ w ∈ lw_tbl, w.before args s = true) : ∃ D : va_G, ∀ (c : Nat) (q : vw_C), vwCl[c]? = some q → u_Kn s q.1 q.2.1 q.2.2 (D.1 c) (D.2 c) := by
  have g : ∀ {w : Cond}, w ∈ am_good → w.before args s = true := fun h => hts _ (List.mem_filter.mp h).1
  have h : ∀ k : Nat, ∃ x : ClassId × (Nat → Nat), ∀ q, vwCl[k]? = some q → u_Kn s q.1 q.2.1 q.2.2 x.1 x.2 := by
    intro k
    match k with
    | 0 => obtain ⟨c, i, h⟩ := u_known hts fs_u0 (g in_0); exact ⟨(c, i), fun q hq => by cases hq; exact h⟩
    | 1 => obtain ⟨c, i, h⟩ := u_known hts fs_u1 (g in_1); exact ⟨(c, i), fun q hq => by cases hq; exact h⟩
    | 2 => obtain ⟨c, i, h⟩ := u_known hts fs_u2 (g in_2); exact ⟨(c, i), fun q hq => by cases hq; exact h⟩
    | 3 => obtain ⟨c, i, h⟩ := u_known hts fs_u3 (g in_3); exact ⟨(c, i), fun q hq => by cases hq; exact h⟩
    | 4 => obtain ⟨c, i, h⟩ := u_known hts fs_u4 (g in_4); exact ⟨(c, i), fun q hq => by cases hq; exact h⟩
    | 5 => obtain ⟨c, i, h⟩ := u_known hts fs_u5 (g in_5); exact ⟨(c, i), fun q hq => by cases hq; exact h⟩
    | 6 => obtain ⟨c, i, h⟩ := u_known hts fs_u6 (g in_6); exact ⟨(c, i), fun q hq => by cases hq; exact h⟩
    | 7 => obtain ⟨c, i, h⟩ := u_known hts fs_u7 (g in_7); exact ⟨(c, i), fun q hq => by cases hq; exact h⟩
    | 8 => obtain ⟨c, i, h⟩ := u_known hts fs_u0 (g in_0); exact ⟨(c, i), fun q hq => by cases hq; exact h⟩
    | k + 9 =>
      obtain ⟨c, i, h⟩ := u_known hts fs_u0 (g in_0)
      exact ⟨(c, i), fun q hq => by simp [vwCl] at hq⟩
  exact ⟨(fun k => (Classical.choose (h k)).1, fun k => (Classical.choose (h k)).2), fun c q hq => Classical.choose_spec (h c) q hq⟩
theorem fs_tys (hts : ∀ w ∈ lw_tbl, w.before args s = true) : ∃ cA : Nat → ClassId, ∀ (k : Nat) (q : ClassId × FieldType), (am_tys cA)[k]? = some q → ArrOfT s q.1 q.2 ∧ va_RA s q.1 q.2 := by
  have g : ∀ {w : Cond}, w ∈ am_good → w.before args s = true := fun h => hts _ (List.mem_filter.mp h).1
  obtain ⟨c9, h9⟩ := fs_prim (g ac_char) (fun c h => h)
  obtain ⟨c10, h10⟩ := fs_prim (g ac_int) (fun c h => h)
  obtain ⟨c11, h11⟩ := fs_obj (hts _ (fs_ao "PickScanner$Lane" (by simp)))
  obtain ⟨c12, h12⟩ := fs_obj (hts _ (fs_ao "PickScanner$Part" (by simp)))
  obtain ⟨c13, h13⟩ := fs_obj (hts _ (fs_ao "PickScanner$State" (by simp)))
  refine ⟨fun k => if k = 9 then c9 else if k = 10 then c10 else if k = 11 then c11 else if k = 12 then c12 else c13, fun k q hq => ?_⟩
  match k, hq with
  | 0, hq => cases hq; exact h9
  | 1, hq => cases hq; exact h10
  | 2, hq => cases hq; exact h11
  | 3, hq => cases hq; exact h12
  | 4, hq => cases hq; exact h13
  | k + 5, hq => simp [am_tys] at hq
/-- the rows that are only read, as whole numbers -/
def fs_I (xs : Nat → Int32) (a k : Nat) : Int := if a < 3 then fs_t a k else if a = 3 then (xs k).toInt else 0
def fs_N (L a : Nat) : Nat := if a < 3 then 6 else if a = 3 then L else 0
theorem fs_fact {b L : Nat} {xs : Nat → Int32} (hts : ∀ w ∈ lw_tbl, w.before args s = true) (hgv : ∀ w ∈ fs_L, w.before args s = true) (hX : va_X b L xs s s.heap) (hb : b < s.heap.size) : ∃ (D : va_G) (cA : Nat → ClassId) (ρ0 : Nat → Nat), am_fact s.heap.size D cA ρ0 (fs_N L) (fs_I xs) s ∧ ρ0 3 = b := by
  obtain ⟨D, hD⟩ := fs_cls hts
  obtain ⟨cA, hA⟩ := fs_tys hts
  have key : ∀ a : Nat, ∃ t : Nat, a < 3 → (fs_s a).eval args s none [] s = some (.ref t) ∧ va_X t 6 (fun j => Int32.ofInt (fs_t a j)) s s.heap ∧ t < s.heap.size := by
    intro a
    by_cases q : a < 3
    · obtain ⟨t, h⟩ := fs_X (f := fun j => Int32.ofInt (fs_t a j)) (by omega) (hgv _ (fs_arr a q)) (hgv _ (fs_len a q)) (fun j hj => hgv _ (fs_el a q j hj))
      exact ⟨t, fun _ => h⟩
    · exact ⟨0, fun h => absurd h q⟩
  have hA0 : ∀ a : Nat, a < s.heap.size → ¬ (fun q : Nat => s.heap.size ≤ q) a := fun a h => Nat.not_le.mpr h
  refine ⟨D, cA, fun a => if a = 3 then b else Classical.choose (key a), ⟨Nat.le_refl _, ⟨hD, hA⟩, fun a ha => ?_, fun q hq => ?_, vx_Zqof (hts _ fs_th.1) (hts _ fs_ini.2) (hgv _ fs_th2.1) hA0, vx_Zqof (hts _ fs_th.2) (hts _ fs_ini.2) (hgv _ fs_th2.2) hA0, fun q hq => ?_, fun q hq => va_Nw.of rfl (hts _ (fs_nws q hq)), va_Nw.of rfl (hts _ fs_fln), va_Nw.of rfl (hts _ fs_cln), fun q hq => va_Nc.of (hgv _ (fs_ncs q hq)), ?_, va_AO.of (A := #[]) ?_, va_AO.of (A := #[]) ?_, va_AO.of (A := #[]) ?_, fun e he => va_Nw.of rfl (hts _ (fs_exn e he)), fun q hq => va_Nw.of rfl (hts _ (fs_dcl q hq))⟩, rfl⟩
  · by_cases q : a = 3
    · subst q
      show va_X b (fs_N L 3) (fun j => Int32.ofInt (fs_I xs 3 j)) s s.heap ∧ b < s.heap.size
      have e : (fun j => Int32.ofInt (fs_I xs 3 j)) = xs := by
        funext j
        show Int32.ofInt (xs j).toInt = xs j
        exact Int32.ofInt_toInt _
      rw [e]
      exact ⟨hX, hb⟩
    · have h3 : a < 3 := by omega
      obtain ⟨h1, h2, h4⟩ := Classical.choose_spec (key a) h3
      show va_X (if a = 3 then b else Classical.choose (key a)) (fs_N L a) (fun j => Int32.ofInt (fs_I xs a j)) s s.heap ∧ (if a = 3 then b else Classical.choose (key a)) < s.heap.size
      have e : (fun j => Int32.ofInt (fs_I xs a j)) = fun j => Int32.ofInt (fs_t a j) := by
        funext j
        unfold fs_I
        rw [if_pos h3]
      rw [if_neg q, e, show fs_N L a = 6 from if_pos h3]
      exact ⟨h2, h4⟩
  · have hz : ∀ a, a < 3 → va_Z "PickScanner" (fs_n a) "[I" (.ref (if a = 3 then b else Classical.choose (key a))) (fun q : Nat => s.heap.size ≤ q) s s.heap := fun a h3 => by
      rw [if_neg (show ¬ a = 3 by omega)]
      exact va_Zref (hts _ (fs_lays a h3)) (hts _ fs_ini.1) (Classical.choose_spec (key a) h3).1 hA0
    simp only [am_sta, List.mem_cons, List.not_mem_nil, or_false] at hq
    rcases hq with rfl | rfl | rfl
    · exact hz 0 (by omega)
    · exact hz 1 (by omega)
    · exact hz 2 (by omega)
  · obtain ⟨a, c, cell, k, h1, -⟩ := Cond.exactly_spec (hgv _ (fs_str2 q hq))
    exact ⟨a, vk_R.of (hts _ (fs_str1 q hq)) h1⟩
  · obtain ⟨a, c, cell, k, h1, h2, h3, -, -, h4, -⟩ := Cond.exactly_spec (hgv _ fs_ex)
    obtain ⟨h5, -, -⟩ := Classical.choose_spec (key 0) (by omega)
    have e : Classical.choose (key 0) = a := Value.ref.inj (Option.some.inj (h5.symm.trans h1))
    refine ⟨cell, ?_, by rw [h4]; exact h2⟩
    show s.heap[if (0 : Nat) = 3 then b else Classical.choose (key 0)]? = some cell
    rw [if_neg (by omega), e]
    exact h3
  · exact hts _ (fs_ao "PickScanner$Lane" (by simp))
  · exact hts _ (fs_ao "PickScanner$Part" (by simp))
  · exact hts _ (fs_ao "PickScanner$State" (by simp))
end
