/-! WHAT THE STATEMENT GIVES OF THE LAW'S START -/
def fs_L : List Cond := flatC (Jvm.Cond.and given_1 narrow_1)
def fs_t (a k : Nat) : Int := match a with
  | 0 => if k = 0 then 300 else if k = 1 then 20 else if k = 2 then 50 else if k = 3 then 40 else if k = 4 then 2000 else 5
  | 1 => if k = 0 then 50 else if k = 4 then 1000 else 0
  | _ => if k = 0 then 1000 else if k = 1 then 200 else if k = 4 then 5000 else if k = 5 then 100 else 500
def fs_n (a : Nat) : String := match a with
  | 0 => "INITIAL_SETTINGS"
  | 1 => "LEAST_SETTINGS"
  | _ => "GREATEST_SETTINGS"
abbrev fs_s (a : Nat) : Term := .static "PickScanner" (fs_n a) "[I"
theorem fs_arr : ∀ a, a < 3 → Cond.arrayOf (fs_s a) .int ∈ fs_L := by decide +kernel
theorem fs_len : ∀ a, a < 3 → Cond.eq (.length (fs_s a)) (.int (Int32.ofNat 6)) ∈ fs_L := by decide +kernel
theorem fs_el : ∀ a, a < 3 → ∀ j, j < 6 → Cond.eq (.elem (fs_s a) (.int (Int32.ofNat j))) (.int (Int32.ofInt (fs_t a j))) ∈ fs_L := by decide +kernel
theorem fs_ex : Cond.exactly (fs_s 0) "[I" ∈ fs_L := by decide +kernel
theorem fs_all {α : Type} {L : List α} {B : List Cond} {f : α → Cond} (h : L.all (fun q => decide (f q ∈ B)) = true) : ∀ q ∈ L, f q ∈ B := fun q hq => of_decide_eq_true (List.all_eq_true.mp h q hq)
theorem fs_str1 : ∀ q ∈ am_str, Cond.stringRef q.1 q.2.1 q.2.2 ∈ lw_tbl := fs_all (by decide +kernel)
theorem fs_str2 : ∀ q ∈ am_str, Cond.exactly (.string q.1 q.2.1) "java/lang/String" ∈ fs_L := fs_all (by decide +kernel)
theorem fs_nws : ∀ q ∈ am_nws, Cond.methodLinkNest q.1 q.2.1 q.2.2.1 q.2.2.2 ∈ lw_tbl := fs_all (by decide +kernel)
theorem fs_fln : Cond.fieldLinkNest "PickScanner$State" 9 "PickScanner" "INITIAL_SETTINGS" "[I" "PickScanner" ∈ lw_tbl := by decide +kernel
theorem fs_cln : Cond.castable "[I" "java/lang/Cloneable" ∈ lw_tbl := by decide +kernel
theorem fs_ncs : ∀ q ∈ am_ncs, Cond.not (.castable q.1 q.2) ∈ fs_L := fs_all (by decide +kernel)
theorem fs_ao : ∀ q ∈ ["PickScanner$Lane", "PickScanner$Part", "PickScanner$State"], Cond.arrayOver (.object q) ∈ lw_tbl := fs_all (by decide +kernel)
theorem fs_exn : ∀ e, e < 3 → Cond.castable (am_exn e) (am_exn e) ∈ lw_tbl := by decide +kernel
theorem fs_dcl : ∀ q ∈ am_dcl, Cond.declares q ∈ lw_tbl := fs_all (by decide +kernel)
theorem fs_lays : ∀ a, a < 3 → Cond.laysStatic "PickScanner" (fs_n a) "[I" ∈ lw_tbl := by decide +kernel
theorem fs_ini : Cond.initialized "PickScanner" ∈ lw_tbl ∧ Cond.initialized Bundle.tN ∈ lw_tbl := by decide +kernel
theorem fs_th : Cond.laysStatic Bundle.tN "UNASSIGNED_STACK" Bundle.steD ∈ lw_tbl ∧ Cond.laysStatic Bundle.tN "SUPPRESSED_SENTINEL" Bundle.listD ∈ lw_tbl := by decide +kernel
theorem fs_th2 : Cond.isRef (.static Bundle.tN "UNASSIGNED_STACK" Bundle.steD) ∈ fs_L ∧ Cond.isRef (.static Bundle.tN "SUPPRESSED_SENTINEL" Bundle.listD) ∈ fs_L := by decide +kernel
theorem fs_u0 : ∀ w ∈ u_ws RX0 TX0 5, w ∈ lw_tbl := fs_all (f := fun w => w) (by decide +kernel)
theorem fs_u1 : ∀ w ∈ u_ws RX1 TX1 1, w ∈ lw_tbl := fs_all (f := fun w => w) (by decide +kernel)
theorem fs_u2 : ∀ w ∈ u_ws RX2 TX2 12, w ∈ lw_tbl := fs_all (f := fun w => w) (by decide +kernel)
theorem fs_u3 : ∀ w ∈ u_ws RX3 TX3 3, w ∈ lw_tbl := fs_all (f := fun w => w) (by decide +kernel)
theorem fs_u4 : ∀ w ∈ u_ws RX4 TX4 6, w ∈ lw_tbl := fs_all (f := fun w => w) (by decide +kernel)
theorem fs_u5 : ∀ w ∈ u_ws RX5 TX5 3, w ∈ lw_tbl := fs_all (f := fun w => w) (by decide +kernel)
theorem fs_u6 : ∀ w ∈ u_ws RX6 TX6 11, w ∈ lw_tbl := fs_all (f := fun w => w) (by decide +kernel)
theorem fs_u7 : ∀ w ∈ u_ws RX7 TX7 7, w ∈ lw_tbl := fs_all (f := fun w => w) (by decide +kernel)
