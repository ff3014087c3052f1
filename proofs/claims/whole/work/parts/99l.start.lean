/-! THE START: its ints -/
def js_e (n : Nat) (i : Nat) : Int := if n = 61 ∨ n = 62 ∨ n = 68 ∨ n = 95 ∨ n = 110 ∨ n = 111 then -1 else if (n = 3 ∧ i = 4) then -1 else if (n = 9 ∧ i = 0) ∨ (n = 93 ∧ (i = 268 ∨ i = 335)) then 1 else 0
def js_c (n l : Nat) : Bool := (List.range l).all fun i => decide (jb_i jb_h4 n i = js_e n i)
theorem jb_s1 : (js_c 2 9 && js_c 58 4 && js_c 59 4 && js_c 60 4 && js_c 61 4 && js_c 62 32 && js_c 63 5 && js_c 66 6 && js_c 68 4 && js_c 69 4 && js_c 70 4 && js_c 85 4) = true := by decide +kernel
theorem jb_s2 : (js_c 3 11 && js_c 5 24 && js_c 6 24) = true := by decide +kernel
theorem jb_s3 : ((List.range 24).all fun p => js_c (9 + 2 * p) 3) = true := by decide +kernel
theorem jb_s4 : (js_c 92 30 && js_c 94 54 && js_c 95 4 && js_c 96 4 && js_c 97 4 && js_c 107 4 && js_c 108 4 && js_c 109 4 && js_c 110 4 && js_c 111 32) = true := by decide +kernel
theorem jb_s5 : js_c 93 3618 = true := by decide +kernel
theorem jb_s6 : ((List.range 1100).all fun i => decide (ib_P jb_h4 64 i = 0)) = true := by decide +kernel
theorem js_c.is {n l : Nat} (h : js_c n l = true) {i : Nat} (hi : i < l) : jb_i jb_h4 n i = js_e n i := by
  unfold js_c at h
  rw [List.all_eq_true] at h
  exact of_decide_eq_true (h i (List.mem_range.mpr hi))
