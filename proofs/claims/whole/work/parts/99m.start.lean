/-! THE START: seen through the views -/
theorem js_I {L : Nat} {xs : Nat → Int32} {n : Nat} (h1 : n ≠ 1) (h2 : n < 119) (i : Int) : jb_i (jl_h5 L xs) n i = jb_i jb_h4 n i := by
  have e : ib_nx jb_h4 = 119 := jb_b2.2
  unfold jb_i jl_h5 jb_put ib_new ib_I
  unfold ib_nx at e
  simp [h1, e, ib_z, show n ≠ 119 by omega]
theorem js_k {L : Nat} {xs : Nat → Int32} {n l : Nat} (h : js_c n l = true) (hn : 2 ≤ n ∧ n < 92) {i : Int} (i0 : 0 ≤ i) (i1 : i < l) : jc_i (jc_view (jl_h5 L xs)) n i = js_e n i.toNat := by
  have e : jc_i (jc_view (jl_h5 L xs)) n i = jb_i (jl_h5 L xs) n i := if_pos ⟨Or.inl hn, i0⟩
  rw [e, js_I (by omega) (by omega)]
  have := js_c.is h (i := i.toNat) (by omega)
  rw [show ((i.toNat : Nat) : Int) = i by omega] at this
  exact this
theorem js_g {L : Nat} {xs : Nat → Int32} {n l : Nat} (h : js_c n l = true) (hn : 92 ≤ n ∧ n < 119) {i : Int} (i0 : 0 ≤ i) (i1 : i < l) : jg_ref (jl_h5 L xs) n i = js_e n i.toNat := by
  have e : jg_ref (jl_h5 L xs) n i = jb_i (jl_h5 L xs) n i := if_pos ⟨hn.1, hn.2, i0⟩
  rw [e, js_I (by omega) (by omega)]
  have := js_c.is h (i := i.toNat) (by omega)
  rw [show ((i.toNat : Nat) : Int) = i by omega] at this
  exact this
