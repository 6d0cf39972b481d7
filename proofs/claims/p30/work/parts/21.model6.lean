/-! a millimeter -/
abbrev v_tl (W : Int → Int) (p : Int) : Int := W (500 + p) - W (200 + p)
abbrev v_md (W : Int → Int) (p : Int) : Int := W (500 + p) - W (200 + p) / 2
def v_cs (W : Int → Int) : Nat → Int
  | 0 => -1
  | n + 1 => if (W (800 + (n : Int)) = 0 ∧ W 1 ≤ v_tl W n ∧ v_tl W n < W 1 + W 2) ∧ (v_cs W n = -1 ∨ v_tl W n < v_tl W (v_cs W n)) then n else v_cs W n
def v_as (W : Int → Int) : Nat → Int
  | 0 => -1
  | n + 1 => if W (800 + (n : Int)) = 0 ∧ v_tl W n < W 1 ∧ W 1 ≤ W (500 + (n : Int)) then n else v_as W n
theorem v_cs_bd (W : Int → Int) : ∀ n : Nat, -1 ≤ v_cs W n ∧ v_cs W n < n
  | 0 => by simp [v_cs]
  | n + 1 => by
    have := v_cs_bd W n
    unfold v_cs
    split <;> omega
theorem v_as_bd (W : Int → Int) : ∀ n : Nat, -1 ≤ v_as W n ∧ v_as W n < n
  | 0 => by simp [v_as]
  | n + 1 => by
    have := v_as_bd W n
    unfold v_as
    split <;> omega
abbrev v_clr (W : Int → Int) (p : Int) : Prop := (v_ah W p.toNat = -1 ∨ W 4 ≤ v_tl W (v_ah W p.toNat) - W (500 + p)) ∧ (v_be W p = W 9 ∨ W 4 ≤ v_tl W p - W (500 + v_be W p))
def v_att (W : Int → Int) (p l : Int) : Int → Int :=
  if v_clr W p ∧ W (34 + l) < W (28 + l) then v_u (v_u (v_u W (800 + p) (10 + l)) (34 + l) (W (34 + l) + 1)) (40 + l) (am_wr (W (40 + l) + 1))
  else v_u W (2600 + p) (if v_clr W p then 6 else 5)
abbrev v_win (W : Int → Int) (p l : Int) : Prop := W (16 + l) ≤ v_md W p ∧ v_md W p < W (16 + l) + W (22 + l)
def v_try (W : Int → Int) (p : Int) : Int → Int := if W (800 + p) = 0 ∧ ¬ v_lo W p = -1 ∧ v_win W p (v_lo W p) then v_att W p (v_lo W p) else W
def v_s1 (W : Int → Int) (k n : Int) : Int → Int := fun i => if i = 0 then W 0 + k else if 500 ≤ i ∧ i < 500 + n ∧ W (i + 300) = 0 then W i + k else W i
def v_s2 (W : Int → Int) : Nat → Int → Int
  | 0 => W
  | n + 1 => v_try (v_s2 W n) n
def v_s3 (W : Int → Int) (n : Int) : Int → Int := fun i => if 800 ≤ i ∧ i < 800 + n ∧ W i = 0 ∧ W 5 ≤ W (i - 300) then v_reason W (i - 800) else W i
def v_go (W : Int → Int) : Int → Int := v_s3 (v_s2 (v_s1 W 1 (W 9)) (W 9).toNat) (W 9)
section
variable {d : Nat} {K N : Nat → Nat} {I : Nat → Nat → Int} {P : Nat → Nat → Option Nat} {z : Nat} {Q : am_V → am_T} {W : Int → Int}
end
