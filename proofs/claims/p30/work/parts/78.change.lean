/-! what the law does with a sorter, and asks it -/
def lwv (a n : Int) : Int := am_wr ((am_wr ((Int32.ofInt a &&& Int32.ofInt 2147483647).toInt)) - Int.tdiv (am_wr ((Int32.ofInt a &&& Int32.ofInt 2147483647).toInt)) n * n)
theorem cl_low {d : Nat} {K N : Nat → Nat} {I : Nat → Nat → Int} {P : Nat → Nat → Option Nat} {z : Nat} {Q : am_V → am_T} {a n : Int} (hn : ¬ n = 0) (hq : Q (am_i (lwv a n)) K N I P z) : am_C d m_L_low [am_i a, am_i n] K N I P z Q am_nx := wf_L_low ⟨hn, hq⟩
section
variable {d : Nat} {W : Int → Int} {S : Int → Int → Int} {c : Int}
set_option maxHeartbeats 1000000 in
theorem st_change (hd : 25 ≤ d) (hV : VG W) (hc : 0 ≤ c ∧ c ≤ 6) (hR : RI W S c) (a b : Int) : EX d m_L_change [am_i a, am_i b] W S c := by
  rcases (show lwv a 24 = 0 ∨ lwv a 24 = 1 ∨ lwv a 24 = 2 ∨ lwv a 24 = 3 ∨ lwv a 24 = 4 ∨ lwv a 24 = 5 ∨ lwv a 24 = 6 ∨ lwv a 24 = 7 ∨ lwv a 24 = 8 ∨ lwv a 24 = 9 ∨ lwv a 24 = 10 ∨ lwv a 24 = 11 ∨ lwv a 24 = 12 ∨ lwv a 24 = 13 ∨ lwv a 24 = 14 ∨ lwv a 24 = 15 ∨ lwv a 24 = 16 ∨ lwv a 24 = 17 ∨ lwv a 24 = 18 ∨ (lwv a 24 < 0 ∨ 18 < lwv a 24) by omega) with hx | hx | hx | hx | hx | hx | hx | hx | hx | hx | hx | hx | hx | hx | hx | hx | hx | hx | hx | hx
  · obtain ⟨r, W', S', c', r1, r2⟩ := st_set (by omega) hc hR (d := d - 1) (lwv b 7) (lwv (am_wr (Int.tdiv b 7)) 400)
    refine ⟨r, W', S', c', r1, fun K N I P z Q hg ht hq => wf_L_change (by omega) (cl_low (by decide) ?_)⟩
    simp only [am_iv]
    refine ⟨fun _ => ?_, fun e => absurd e (by omega), fun e => absurd e (by omega), fun e => absurd e (by omega), fun e => absurd e (by omega), fun e => absurd e (by omega), fun e => absurd e (by omega), fun e => absurd e (by omega), fun e => absurd e (by omega), fun e => absurd e (by omega), fun e => absurd e (by omega), fun e => absurd e (by omega), fun e => absurd e (by omega), fun e => absurd e (by omega), fun e => absurd e (by omega), fun e => absurd e (by omega), fun e => absurd e (by omega), fun e => absurd e (by omega), fun e => absurd e (by omega), fun e => absurd e (by omega)⟩
    refine cl_low (by decide) ?_
    simp only [am_iv]
    refine cl_low (by decide) ?_
    simp only [am_iv]
    exact r2 K N I P z _ hg ht hq
  · obtain ⟨r, W', S', c', r1, r2⟩ := st_addLane (by omega) hV hc hR (d := d - 1) (am_wr (320 + lwv b 500)) (am_wr (1 + lwv (am_wr (Int.tdiv b 500)) 201)) (lwv (am_wr (Int.tdiv b 99)) 5)
    refine ⟨r, W', S', c', r1, fun K N I P z Q hg ht hq => wf_L_change (by omega) (cl_low (by decide) ?_)⟩
    simp only [am_iv]
    refine ⟨fun e => absurd e (by omega), fun _ => ?_, fun e => absurd e (by omega), fun e => absurd e (by omega), fun e => absurd e (by omega), fun e => absurd e (by omega), fun e => absurd e (by omega), fun e => absurd e (by omega), fun e => absurd e (by omega), fun e => absurd e (by omega), fun e => absurd e (by omega), fun e => absurd e (by omega), fun e => absurd e (by omega), fun e => absurd e (by omega), fun e => absurd e (by omega), fun e => absurd e (by omega), fun e => absurd e (by omega), fun e => absurd e (by omega), fun e => absurd e (by omega), fun e => absurd e (by omega)⟩
    refine cl_low (by decide) ?_
    simp only [am_iv]
    refine cl_low (by decide) ?_
    simp only [am_iv]
    refine cl_low (by decide) ?_
    simp only [am_iv]
    exact r2 K N I P z _ hg ht hq
  · obtain ⟨r, W', S', c', r1, r2⟩ := st_addLane (by omega) hV hc hR (d := d - 1) (am_wr (320 + lwv b 500)) (am_wr (1 + lwv (am_wr (Int.tdiv b 500)) 201)) (lwv (am_wr (Int.tdiv b 99)) 5)
    refine ⟨r, W', S', c', r1, fun K N I P z Q hg ht hq => wf_L_change (by omega) (cl_low (by decide) ?_)⟩
    simp only [am_iv]
    refine ⟨fun e => absurd e (by omega), fun e => absurd e (by omega), fun _ => ?_, fun e => absurd e (by omega), fun e => absurd e (by omega), fun e => absurd e (by omega), fun e => absurd e (by omega), fun e => absurd e (by omega), fun e => absurd e (by omega), fun e => absurd e (by omega), fun e => absurd e (by omega), fun e => absurd e (by omega), fun e => absurd e (by omega), fun e => absurd e (by omega), fun e => absurd e (by omega), fun e => absurd e (by omega), fun e => absurd e (by omega), fun e => absurd e (by omega), fun e => absurd e (by omega), fun e => absurd e (by omega)⟩
    refine cl_low (by decide) ?_
    simp only [am_iv]
    refine cl_low (by decide) ?_
    simp only [am_iv]
    refine cl_low (by decide) ?_
    simp only [am_iv]
    exact r2 K N I P z _ hg ht hq
  · obtain ⟨r, W', S', c', r1, r2⟩ := st_emptyLane (by omega) hV hc hR (d := d - 1) (lwv b 4)
    refine ⟨r, W', S', c', r1, fun K N I P z Q hg ht hq => wf_L_change (by omega) (cl_low (by decide) ?_)⟩
    simp only [am_iv]
    refine ⟨fun e => absurd e (by omega), fun e => absurd e (by omega), fun e => absurd e (by omega), fun _ => ?_, fun e => absurd e (by omega), fun e => absurd e (by omega), fun e => absurd e (by omega), fun e => absurd e (by omega), fun e => absurd e (by omega), fun e => absurd e (by omega), fun e => absurd e (by omega), fun e => absurd e (by omega), fun e => absurd e (by omega), fun e => absurd e (by omega), fun e => absurd e (by omega), fun e => absurd e (by omega), fun e => absurd e (by omega), fun e => absurd e (by omega), fun e => absurd e (by omega), fun e => absurd e (by omega)⟩
    refine cl_low (by decide) ?_
    simp only [am_iv]
    exact r2 K N I P z _ hg ht hq
  · by_cases hb : lwv b 9 = 0
    · obtain ⟨r, W', S', c', r1, r2⟩ := st_route (by omega) hV hc hR (d := d - 1) 1000 (lwv (am_wr (Int.tdiv b 6)) 5)
      refine ⟨r, W', S', c', r1, fun K N I P z Q hg ht hq => wf_L_change (by omega) (cl_low (by decide) ?_)⟩
      simp only [am_iv]
      refine ⟨fun e => absurd e (by omega), fun e => absurd e (by omega), fun e => absurd e (by omega), fun e => absurd e (by omega), fun _ => ?_, fun e => absurd e (by omega), fun e => absurd e (by omega), fun e => absurd e (by omega), fun e => absurd e (by omega), fun e => absurd e (by omega), fun e => absurd e (by omega), fun e => absurd e (by omega), fun e => absurd e (by omega), fun e => absurd e (by omega), fun e => absurd e (by omega), fun e => absurd e (by omega), fun e => absurd e (by omega), fun e => absurd e (by omega), fun e => absurd e (by omega), fun e => absurd e (by omega)⟩
      refine cl_low (by decide) ?_
      simp only [am_iv]
      refine ⟨fun e => absurd hb e, fun _ => ?_⟩
      refine cl_low (by decide) ?_
      simp only [am_iv]
      exact r2 K N I P z _ hg ht hq
    · obtain ⟨r, W', S', c', r1, r2⟩ := st_route (by omega) hV hc hR (d := d - 1) (lwv b 6) (lwv (am_wr (Int.tdiv b 6)) 5)
      refine ⟨r, W', S', c', r1, fun K N I P z Q hg ht hq => wf_L_change (by omega) (cl_low (by decide) ?_)⟩
      simp only [am_iv]
      refine ⟨fun e => absurd e (by omega), fun e => absurd e (by omega), fun e => absurd e (by omega), fun e => absurd e (by omega), fun _ => ?_, fun e => absurd e (by omega), fun e => absurd e (by omega), fun e => absurd e (by omega), fun e => absurd e (by omega), fun e => absurd e (by omega), fun e => absurd e (by omega), fun e => absurd e (by omega), fun e => absurd e (by omega), fun e => absurd e (by omega), fun e => absurd e (by omega), fun e => absurd e (by omega), fun e => absurd e (by omega), fun e => absurd e (by omega), fun e => absurd e (by omega), fun e => absurd e (by omega)⟩
      refine cl_low (by decide) ?_
      simp only [am_iv]
      refine ⟨fun _ => ?_, fun e => absurd e hb⟩
      refine cl_low (by decide) ?_
      simp only [am_iv]
      refine cl_low (by decide) ?_
      simp only [am_iv]
      exact r2 K N I P z _ hg ht hq
  · by_cases hb : lwv b 9 = 0
    · obtain ⟨r, W', S', c', r1, r2⟩ := st_route (by omega) hV hc hR (d := d - 1) 1000 (lwv (am_wr (Int.tdiv b 6)) 5)
      refine ⟨r, W', S', c', r1, fun K N I P z Q hg ht hq => wf_L_change (by omega) (cl_low (by decide) ?_)⟩
      simp only [am_iv]
      refine ⟨fun e => absurd e (by omega), fun e => absurd e (by omega), fun e => absurd e (by omega), fun e => absurd e (by omega), fun e => absurd e (by omega), fun _ => ?_, fun e => absurd e (by omega), fun e => absurd e (by omega), fun e => absurd e (by omega), fun e => absurd e (by omega), fun e => absurd e (by omega), fun e => absurd e (by omega), fun e => absurd e (by omega), fun e => absurd e (by omega), fun e => absurd e (by omega), fun e => absurd e (by omega), fun e => absurd e (by omega), fun e => absurd e (by omega), fun e => absurd e (by omega), fun e => absurd e (by omega)⟩
      refine cl_low (by decide) ?_
      simp only [am_iv]
      refine ⟨fun e => absurd hb e, fun _ => ?_⟩
      refine cl_low (by decide) ?_
      simp only [am_iv]
      exact r2 K N I P z _ hg ht hq
    · obtain ⟨r, W', S', c', r1, r2⟩ := st_route (by omega) hV hc hR (d := d - 1) (lwv b 6) (lwv (am_wr (Int.tdiv b 6)) 5)
      refine ⟨r, W', S', c', r1, fun K N I P z Q hg ht hq => wf_L_change (by omega) (cl_low (by decide) ?_)⟩
      simp only [am_iv]
      refine ⟨fun e => absurd e (by omega), fun e => absurd e (by omega), fun e => absurd e (by omega), fun e => absurd e (by omega), fun e => absurd e (by omega), fun _ => ?_, fun e => absurd e (by omega), fun e => absurd e (by omega), fun e => absurd e (by omega), fun e => absurd e (by omega), fun e => absurd e (by omega), fun e => absurd e (by omega), fun e => absurd e (by omega), fun e => absurd e (by omega), fun e => absurd e (by omega), fun e => absurd e (by omega), fun e => absurd e (by omega), fun e => absurd e (by omega), fun e => absurd e (by omega), fun e => absurd e (by omega)⟩
      refine cl_low (by decide) ?_
      simp only [am_iv]
      refine ⟨fun _ => ?_, fun e => absurd e hb⟩
      refine cl_low (by decide) ?_
      simp only [am_iv]
      refine cl_low (by decide) ?_
      simp only [am_iv]
      exact r2 K N I P z _ hg ht hq
  · by_cases hb : lwv b 9 = 0
    · obtain ⟨r, W', S', c', r1, r2⟩ := st_route (by omega) hV hc hR (d := d - 1) 1000 (lwv (am_wr (Int.tdiv b 6)) 5)
      refine ⟨r, W', S', c', r1, fun K N I P z Q hg ht hq => wf_L_change (by omega) (cl_low (by decide) ?_)⟩
      simp only [am_iv]
      refine ⟨fun e => absurd e (by omega), fun e => absurd e (by omega), fun e => absurd e (by omega), fun e => absurd e (by omega), fun e => absurd e (by omega), fun e => absurd e (by omega), fun _ => ?_, fun e => absurd e (by omega), fun e => absurd e (by omega), fun e => absurd e (by omega), fun e => absurd e (by omega), fun e => absurd e (by omega), fun e => absurd e (by omega), fun e => absurd e (by omega), fun e => absurd e (by omega), fun e => absurd e (by omega), fun e => absurd e (by omega), fun e => absurd e (by omega), fun e => absurd e (by omega), fun e => absurd e (by omega)⟩
      refine cl_low (by decide) ?_
      simp only [am_iv]
      refine ⟨fun e => absurd hb e, fun _ => ?_⟩
      refine cl_low (by decide) ?_
      simp only [am_iv]
      exact r2 K N I P z _ hg ht hq
    · obtain ⟨r, W', S', c', r1, r2⟩ := st_route (by omega) hV hc hR (d := d - 1) (lwv b 6) (lwv (am_wr (Int.tdiv b 6)) 5)
      refine ⟨r, W', S', c', r1, fun K N I P z Q hg ht hq => wf_L_change (by omega) (cl_low (by decide) ?_)⟩
      simp only [am_iv]
      refine ⟨fun e => absurd e (by omega), fun e => absurd e (by omega), fun e => absurd e (by omega), fun e => absurd e (by omega), fun e => absurd e (by omega), fun e => absurd e (by omega), fun _ => ?_, fun e => absurd e (by omega), fun e => absurd e (by omega), fun e => absurd e (by omega), fun e => absurd e (by omega), fun e => absurd e (by omega), fun e => absurd e (by omega), fun e => absurd e (by omega), fun e => absurd e (by omega), fun e => absurd e (by omega), fun e => absurd e (by omega), fun e => absurd e (by omega), fun e => absurd e (by omega), fun e => absurd e (by omega)⟩
      refine cl_low (by decide) ?_
      simp only [am_iv]
      refine ⟨fun _ => ?_, fun e => absurd e hb⟩
      refine cl_low (by decide) ?_
      simp only [am_iv]
      refine cl_low (by decide) ?_
      simp only [am_iv]
      exact r2 K N I P z _ hg ht hq
  · obtain ⟨r, W', S', c', r1, r2⟩ := st_removeRoute (by omega) hV hc hR (d := d - 1) (lwv b 6)
    refine ⟨r, W', S', c', r1, fun K N I P z Q hg ht hq => wf_L_change (by omega) (cl_low (by decide) ?_)⟩
    simp only [am_iv]
    refine ⟨fun e => absurd e (by omega), fun e => absurd e (by omega), fun e => absurd e (by omega), fun e => absurd e (by omega), fun e => absurd e (by omega), fun e => absurd e (by omega), fun e => absurd e (by omega), fun _ => ?_, fun e => absurd e (by omega), fun e => absurd e (by omega), fun e => absurd e (by omega), fun e => absurd e (by omega), fun e => absurd e (by omega), fun e => absurd e (by omega), fun e => absurd e (by omega), fun e => absurd e (by omega), fun e => absurd e (by omega), fun e => absurd e (by omega), fun e => absurd e (by omega), fun e => absurd e (by omega)⟩
    refine cl_low (by decide) ?_
    simp only [am_iv]
    exact r2 K N I P z _ hg ht hq
  · obtain ⟨r, W', S', c', r1, r2⟩ := st_enter (by omega) hV hc hR (d := d - 1) (am_wr (9 + lwv b 90))
    refine ⟨r, W', S', c', r1, fun K N I P z Q hg ht hq => wf_L_change (by omega) (cl_low (by decide) ?_)⟩
    simp only [am_iv]
    refine ⟨fun e => absurd e (by omega), fun e => absurd e (by omega), fun e => absurd e (by omega), fun e => absurd e (by omega), fun e => absurd e (by omega), fun e => absurd e (by omega), fun e => absurd e (by omega), fun e => absurd e (by omega), fun _ => ?_, fun e => absurd e (by omega), fun e => absurd e (by omega), fun e => absurd e (by omega), fun e => absurd e (by omega), fun e => absurd e (by omega), fun e => absurd e (by omega), fun e => absurd e (by omega), fun e => absurd e (by omega), fun e => absurd e (by omega), fun e => absurd e (by omega), fun e => absurd e (by omega)⟩
    refine cl_low (by decide) ?_
    simp only [am_iv]
    exact r2 K N I P z _ hg ht hq
  · obtain ⟨r, W', S', c', r1, r2⟩ := st_enter (by omega) hV hc hR (d := d - 1) (am_wr (9 + lwv b 90))
    refine ⟨r, W', S', c', r1, fun K N I P z Q hg ht hq => wf_L_change (by omega) (cl_low (by decide) ?_)⟩
    simp only [am_iv]
    refine ⟨fun e => absurd e (by omega), fun e => absurd e (by omega), fun e => absurd e (by omega), fun e => absurd e (by omega), fun e => absurd e (by omega), fun e => absurd e (by omega), fun e => absurd e (by omega), fun e => absurd e (by omega), fun e => absurd e (by omega), fun _ => ?_, fun e => absurd e (by omega), fun e => absurd e (by omega), fun e => absurd e (by omega), fun e => absurd e (by omega), fun e => absurd e (by omega), fun e => absurd e (by omega), fun e => absurd e (by omega), fun e => absurd e (by omega), fun e => absurd e (by omega), fun e => absurd e (by omega)⟩
    refine cl_low (by decide) ?_
    simp only [am_iv]
    exact r2 K N I P z _ hg ht hq
  · obtain ⟨r, W', S', c', r1, r2⟩ := st_enter (by omega) hV hc hR (d := d - 1) (am_wr (9 + lwv b 90))
    refine ⟨r, W', S', c', r1, fun K N I P z Q hg ht hq => wf_L_change (by omega) (cl_low (by decide) ?_)⟩
    simp only [am_iv]
    refine ⟨fun e => absurd e (by omega), fun e => absurd e (by omega), fun e => absurd e (by omega), fun e => absurd e (by omega), fun e => absurd e (by omega), fun e => absurd e (by omega), fun e => absurd e (by omega), fun e => absurd e (by omega), fun e => absurd e (by omega), fun e => absurd e (by omega), fun _ => ?_, fun e => absurd e (by omega), fun e => absurd e (by omega), fun e => absurd e (by omega), fun e => absurd e (by omega), fun e => absurd e (by omega), fun e => absurd e (by omega), fun e => absurd e (by omega), fun e => absurd e (by omega), fun e => absurd e (by omega)⟩
    refine cl_low (by decide) ?_
    simp only [am_iv]
    exact r2 K N I P z _ hg ht hq
  · obtain ⟨r, W', S', c', r1, r2⟩ := st_enter (by omega) hV hc hR (d := d - 1) (am_wr (9 + lwv b 90))
    refine ⟨r, W', S', c', r1, fun K N I P z Q hg ht hq => wf_L_change (by omega) (cl_low (by decide) ?_)⟩
    simp only [am_iv]
    refine ⟨fun e => absurd e (by omega), fun e => absurd e (by omega), fun e => absurd e (by omega), fun e => absurd e (by omega), fun e => absurd e (by omega), fun e => absurd e (by omega), fun e => absurd e (by omega), fun e => absurd e (by omega), fun e => absurd e (by omega), fun e => absurd e (by omega), fun e => absurd e (by omega), fun _ => ?_, fun e => absurd e (by omega), fun e => absurd e (by omega), fun e => absurd e (by omega), fun e => absurd e (by omega), fun e => absurd e (by omega), fun e => absurd e (by omega), fun e => absurd e (by omega), fun e => absurd e (by omega)⟩
    refine cl_low (by decide) ?_
    simp only [am_iv]
    exact r2 K N I P z _ hg ht hq
  · obtain ⟨r, W', S', c', r1, r2⟩ := st_enter (by omega) hV hc hR (d := d - 1) (am_wr (9 + lwv b 90))
    refine ⟨r, W', S', c', r1, fun K N I P z Q hg ht hq => wf_L_change (by omega) (cl_low (by decide) ?_)⟩
    simp only [am_iv]
    refine ⟨fun e => absurd e (by omega), fun e => absurd e (by omega), fun e => absurd e (by omega), fun e => absurd e (by omega), fun e => absurd e (by omega), fun e => absurd e (by omega), fun e => absurd e (by omega), fun e => absurd e (by omega), fun e => absurd e (by omega), fun e => absurd e (by omega), fun e => absurd e (by omega), fun e => absurd e (by omega), fun _ => ?_, fun e => absurd e (by omega), fun e => absurd e (by omega), fun e => absurd e (by omega), fun e => absurd e (by omega), fun e => absurd e (by omega), fun e => absurd e (by omega), fun e => absurd e (by omega)⟩
    refine cl_low (by decide) ?_
    simp only [am_iv]
    exact r2 K N I P z _ hg ht hq
  · obtain ⟨r, W', S', c', r1, r2⟩ := st_read (by omega) hV hc hR (d := d - 1) (lwv b 6)
    refine ⟨r, W', S', c', r1, fun K N I P z Q hg ht hq => wf_L_change (by omega) (cl_low (by decide) ?_)⟩
    simp only [am_iv]
    refine ⟨fun e => absurd e (by omega), fun e => absurd e (by omega), fun e => absurd e (by omega), fun e => absurd e (by omega), fun e => absurd e (by omega), fun e => absurd e (by omega), fun e => absurd e (by omega), fun e => absurd e (by omega), fun e => absurd e (by omega), fun e => absurd e (by omega), fun e => absurd e (by omega), fun e => absurd e (by omega), fun e => absurd e (by omega), fun _ => ?_, fun e => absurd e (by omega), fun e => absurd e (by omega), fun e => absurd e (by omega), fun e => absurd e (by omega), fun e => absurd e (by omega), fun e => absurd e (by omega)⟩
    refine cl_low (by decide) ?_
    simp only [am_iv]
    exact r2 K N I P z _ hg ht hq
  · obtain ⟨r, W', S', c', r1, r2⟩ := st_read (by omega) hV hc hR (d := d - 1) (lwv b 6)
    refine ⟨r, W', S', c', r1, fun K N I P z Q hg ht hq => wf_L_change (by omega) (cl_low (by decide) ?_)⟩
    simp only [am_iv]
    refine ⟨fun e => absurd e (by omega), fun e => absurd e (by omega), fun e => absurd e (by omega), fun e => absurd e (by omega), fun e => absurd e (by omega), fun e => absurd e (by omega), fun e => absurd e (by omega), fun e => absurd e (by omega), fun e => absurd e (by omega), fun e => absurd e (by omega), fun e => absurd e (by omega), fun e => absurd e (by omega), fun e => absurd e (by omega), fun e => absurd e (by omega), fun _ => ?_, fun e => absurd e (by omega), fun e => absurd e (by omega), fun e => absurd e (by omega), fun e => absurd e (by omega), fun e => absurd e (by omega)⟩
    refine cl_low (by decide) ?_
    simp only [am_iv]
    exact r2 K N I P z _ hg ht hq
  · obtain ⟨r, W', S', c', r1, r2⟩ := st_read (by omega) hV hc hR (d := d - 1) (lwv b 6)
    refine ⟨r, W', S', c', r1, fun K N I P z Q hg ht hq => wf_L_change (by omega) (cl_low (by decide) ?_)⟩
    simp only [am_iv]
    refine ⟨fun e => absurd e (by omega), fun e => absurd e (by omega), fun e => absurd e (by omega), fun e => absurd e (by omega), fun e => absurd e (by omega), fun e => absurd e (by omega), fun e => absurd e (by omega), fun e => absurd e (by omega), fun e => absurd e (by omega), fun e => absurd e (by omega), fun e => absurd e (by omega), fun e => absurd e (by omega), fun e => absurd e (by omega), fun e => absurd e (by omega), fun e => absurd e (by omega), fun _ => ?_, fun e => absurd e (by omega), fun e => absurd e (by omega), fun e => absurd e (by omega), fun e => absurd e (by omega)⟩
    refine cl_low (by decide) ?_
    simp only [am_iv]
    exact r2 K N I P z _ hg ht hq
  · obtain ⟨r, W', S', c', r1, r2⟩ := st_read (by omega) hV hc hR (d := d - 1) (lwv b 6)
    refine ⟨r, W', S', c', r1, fun K N I P z Q hg ht hq => wf_L_change (by omega) (cl_low (by decide) ?_)⟩
    simp only [am_iv]
    refine ⟨fun e => absurd e (by omega), fun e => absurd e (by omega), fun e => absurd e (by omega), fun e => absurd e (by omega), fun e => absurd e (by omega), fun e => absurd e (by omega), fun e => absurd e (by omega), fun e => absurd e (by omega), fun e => absurd e (by omega), fun e => absurd e (by omega), fun e => absurd e (by omega), fun e => absurd e (by omega), fun e => absurd e (by omega), fun e => absurd e (by omega), fun e => absurd e (by omega), fun e => absurd e (by omega), fun _ => ?_, fun e => absurd e (by omega), fun e => absurd e (by omega), fun e => absurd e (by omega)⟩
    refine cl_low (by decide) ?_
    simp only [am_iv]
    exact r2 K N I P z _ hg ht hq
  · obtain ⟨r, W', S', c', r1, r2⟩ := st_takeOff (by omega) hV hc hR (d := d - 1) (lwv b 12)
    refine ⟨r, W', S', c', r1, fun K N I P z Q hg ht hq => wf_L_change (by omega) (cl_low (by decide) ?_)⟩
    simp only [am_iv]
    refine ⟨fun e => absurd e (by omega), fun e => absurd e (by omega), fun e => absurd e (by omega), fun e => absurd e (by omega), fun e => absurd e (by omega), fun e => absurd e (by omega), fun e => absurd e (by omega), fun e => absurd e (by omega), fun e => absurd e (by omega), fun e => absurd e (by omega), fun e => absurd e (by omega), fun e => absurd e (by omega), fun e => absurd e (by omega), fun e => absurd e (by omega), fun e => absurd e (by omega), fun e => absurd e (by omega), fun e => absurd e (by omega), fun _ => ?_, fun e => absurd e (by omega), fun e => absurd e (by omega)⟩
    refine cl_low (by decide) ?_
    simp only [am_iv]
    exact r2 K N I P z _ hg ht hq
  · obtain ⟨r, W', S', c', r1, r2⟩ := st_undo (by omega) hc hR (d := d - 1)
    refine ⟨r, W', S', c', r1, fun K N I P z Q hg ht hq => wf_L_change (by omega) (cl_low (by decide) ?_)⟩
    simp only [am_iv]
    refine ⟨fun e => absurd e (by omega), fun e => absurd e (by omega), fun e => absurd e (by omega), fun e => absurd e (by omega), fun e => absurd e (by omega), fun e => absurd e (by omega), fun e => absurd e (by omega), fun e => absurd e (by omega), fun e => absurd e (by omega), fun e => absurd e (by omega), fun e => absurd e (by omega), fun e => absurd e (by omega), fun e => absurd e (by omega), fun e => absurd e (by omega), fun e => absurd e (by omega), fun e => absurd e (by omega), fun e => absurd e (by omega), fun e => absurd e (by omega), fun _ => ?_, fun e => absurd e (by omega)⟩
    exact r2 K N I P z _ hg ht hq
  · by_cases hb : lwv b 5 = 0
    · obtain ⟨r, W', S', c', r1, r2⟩ := st_move (by omega) hV hc hR (d := d - 1) (am_wr (1 + lwv (am_wr (Int.tdiv b 5)) 500))
      refine ⟨r, W', S', c', r1, fun K N I P z Q hg ht hq => wf_L_change (by omega) (cl_low (by decide) ?_)⟩
      simp only [am_iv]
      refine ⟨fun e => absurd e (by omega), fun e => absurd e (by omega), fun e => absurd e (by omega), fun e => absurd e (by omega), fun e => absurd e (by omega), fun e => absurd e (by omega), fun e => absurd e (by omega), fun e => absurd e (by omega), fun e => absurd e (by omega), fun e => absurd e (by omega), fun e => absurd e (by omega), fun e => absurd e (by omega), fun e => absurd e (by omega), fun e => absurd e (by omega), fun e => absurd e (by omega), fun e => absurd e (by omega), fun e => absurd e (by omega), fun e => absurd e (by omega), fun e => absurd e (by omega), fun _ => ?_⟩
      refine cl_low (by decide) ?_
      simp only [am_iv]
      refine ⟨fun e => absurd hb e, fun _ => ?_⟩
      refine cl_low (by decide) ?_
      simp only [am_iv]
      exact r2 K N I P z _ hg ht hq
    · obtain ⟨r, W', S', c', r1, r2⟩ := st_move (by omega) hV hc hR (d := d - 1) (am_wr (1 + lwv (am_wr (Int.tdiv b 5)) 90))
      refine ⟨r, W', S', c', r1, fun K N I P z Q hg ht hq => wf_L_change (by omega) (cl_low (by decide) ?_)⟩
      simp only [am_iv]
      refine ⟨fun e => absurd e (by omega), fun e => absurd e (by omega), fun e => absurd e (by omega), fun e => absurd e (by omega), fun e => absurd e (by omega), fun e => absurd e (by omega), fun e => absurd e (by omega), fun e => absurd e (by omega), fun e => absurd e (by omega), fun e => absurd e (by omega), fun e => absurd e (by omega), fun e => absurd e (by omega), fun e => absurd e (by omega), fun e => absurd e (by omega), fun e => absurd e (by omega), fun e => absurd e (by omega), fun e => absurd e (by omega), fun e => absurd e (by omega), fun e => absurd e (by omega), fun _ => ?_⟩
      refine cl_low (by decide) ?_
      simp only [am_iv]
      refine ⟨fun _ => ?_, fun e => absurd e hb⟩
      refine cl_low (by decide) ?_
      simp only [am_iv]
      exact r2 K N I P z _ hg ht hq
theorem st_ask (hd : 25 ≤ d) (hV : VG W) (a b : Int) : ∃ v : Int, ST1 d m_L_ask [am_i a, am_i b] W S c (am_i v) W S c := by
  rcases (show lwv a 8 = 0 ∨ lwv a 8 = 1 ∨ lwv a 8 = 2 ∨ lwv a 8 = 3 ∨ lwv a 8 = 4 ∨ lwv a 8 = 5 ∨ lwv a 8 = 6 ∨ (lwv a 8 < 0 ∨ 6 < lwv a 8) by omega) with hx | hx | hx | hx | hx | hx | hx | hx
  · obtain ⟨v, r2⟩ := st_fateOf (d := d - 1) (by omega) hV (lwv b 9)
    refine ⟨v, fun K N I P z Q hg ht hq => wf_L_ask (by omega) (cl_low (by decide) ?_)⟩
    simp only [am_iv]
    refine ⟨fun _ => ?_, fun e => absurd e (by omega), fun e => absurd e (by omega), fun e => absurd e (by omega), fun e => absurd e (by omega), fun e => absurd e (by omega), fun e => absurd e (by omega), fun e => absurd e (by omega)⟩
    refine cl_low (by decide) ?_
    simp only [am_iv]
    exact r2 K N I P z _ hg ht hq
  · obtain ⟨v, r2⟩ := st_entryIn (d := d - 1) (by omega)
    refine ⟨v, fun K N I P z Q hg ht hq => wf_L_ask (by omega) (cl_low (by decide) ?_)⟩
    simp only [am_iv]
    refine ⟨fun e => absurd e (by omega), fun _ => ?_, fun e => absurd e (by omega), fun e => absurd e (by omega), fun e => absurd e (by omega), fun e => absurd e (by omega), fun e => absurd e (by omega), fun e => absurd e (by omega)⟩
    exact ⟨hg.k4, r2 K N I P z _ hg ht hq⟩
  · obtain ⟨v, r2⟩ := st_nextLeaving (d := d - 1) (by omega)
    refine ⟨v, fun K N I P z Q hg ht hq => wf_L_ask (by omega) (cl_low (by decide) ?_)⟩
    simp only [am_iv]
    refine ⟨fun e => absurd e (by omega), fun e => absurd e (by omega), fun _ => ?_, fun e => absurd e (by omega), fun e => absurd e (by omega), fun e => absurd e (by omega), fun e => absurd e (by omega), fun e => absurd e (by omega)⟩
    exact ⟨hg.k4, r2 K N I P z _ hg ht hq⟩
  · obtain ⟨v, r2⟩ := st_laneFor (d := d - 1) (by omega) (lwv b 1001) (am_wr (9 + lwv (am_wr (Int.tdiv b 7)) 393))
    refine ⟨v, fun K N I P z Q hg ht hq => wf_L_ask (by omega) (cl_low (by decide) ?_)⟩
    simp only [am_iv]
    refine ⟨fun e => absurd e (by omega), fun e => absurd e (by omega), fun e => absurd e (by omega), fun _ => ?_, fun e => absurd e (by omega), fun e => absurd e (by omega), fun e => absurd e (by omega), fun e => absurd e (by omega)⟩
    refine cl_low (by decide) ?_
    simp only [am_iv]
    refine cl_low (by decide) ?_
    simp only [am_iv]
    exact r2 K N I P z _ hg ht hq
  · obtain ⟨v, r2⟩ := st_ranked (d := d - 1) (by omega) (am_wr (lwv b 6 - 1))
    refine ⟨v, fun K N I P z Q hg ht hq => wf_L_ask (by omega) (cl_low (by decide) ?_)⟩
    simp only [am_iv]
    refine ⟨fun e => absurd e (by omega), fun e => absurd e (by omega), fun e => absurd e (by omega), fun e => absurd e (by omega), fun _ => ?_, fun e => absurd e (by omega), fun e => absurd e (by omega), fun e => absurd e (by omega)⟩
    refine cl_low (by decide) ?_
    simp only [am_iv]
    exact r2 K N I P z _ hg ht hq
  · obtain ⟨v, r2⟩ := st_gapE (d := d - 1) (by omega) (lwv b 9)
    refine ⟨v, fun K N I P z Q hg ht hq => wf_L_ask (by omega) (cl_low (by decide) ?_)⟩
    simp only [am_iv]
    refine ⟨fun e => absurd e (by omega), fun e => absurd e (by omega), fun e => absurd e (by omega), fun e => absurd e (by omega), fun e => absurd e (by omega), fun _ => ?_, fun e => absurd e (by omega), fun e => absurd e (by omega)⟩
    refine cl_low (by decide) ?_
    simp only [am_iv]
    exact r2 K N I P z _ hg ht hq
  · obtain ⟨v, r2⟩ := st_routeAt (d := d - 1) (by omega) (am_wr (lwv b 8 - 1))
    refine ⟨v, fun K N I P z Q hg ht hq => wf_L_ask (by omega) (cl_low (by decide) ?_)⟩
    simp only [am_iv]
    refine ⟨fun e => absurd e (by omega), fun e => absurd e (by omega), fun e => absurd e (by omega), fun e => absurd e (by omega), fun e => absurd e (by omega), fun e => absurd e (by omega), fun _ => ?_, fun e => absurd e (by omega)⟩
    refine cl_low (by decide) ?_
    simp only [am_iv]
    exact r2 K N I P z _ hg ht hq
  · obtain ⟨v, r2⟩ := st_errorPosition (d := d - 1) (by omega)
    refine ⟨v, fun K N I P z Q hg ht hq => wf_L_ask (by omega) (cl_low (by decide) ?_)⟩
    simp only [am_iv]
    refine ⟨fun e => absurd e (by omega), fun e => absurd e (by omega), fun e => absurd e (by omega), fun e => absurd e (by omega), fun e => absurd e (by omega), fun e => absurd e (by omega), fun e => absurd e (by omega), fun _ => ?_⟩
    exact ⟨hg.k4, r2 K N I P z _ hg ht hq⟩
end
