/-- the pure run -/
theorem jl_pure {L : Nat} {xs : Nat → Int32} : ∃ K' V', fl154_48 L xs jo_N (jc_view (jl_h5 L xs)) (jg_ref (jl_h5 L xs)) 1 0 = some ((K', V'), 1) ∧ K'.1.2.1 ≤ 600130 ∧ K'.1.2.2 ≤ 7301080 := by
  obtain ⟨V1, a1, a2, a3, a4, a5⟩ := jl154_48 (L := L) (xs := xs) (K := jc_view (jl_h5 L xs)) jo_N 0 (jg_ref (jl_h5 L xs)) (by decide) (by decide) (by decide)
  obtain ⟨R, Z⟩ := js_R (V := V1) (fun y y0 y1 => by rw [a2 y y0 y1, if_pos y0]) (fun y y0 y1 => by rw [a3 y y0 y1, if_pos (by omega)]) (fun y y0 y1 => by rw [a4 y y0 y1, if_pos (by omega)]) (fun j j0 j1 => by
    rw [a5 j j0]
    have e : jg_ref (jl_h5 L xs) 94 j = jb_i (jl_h5 L xs) 94 j := if_pos ⟨by decide, by decide, by omega⟩
    rw [e, js_I (by decide)]
    have := jb_s9
    rw [List.all_eq_true] at this
    have := of_decide_eq_true (this j.toNat (List.mem_range.mpr (by omega)))
    rw [show ((j.toNat : Nat) : Int) = j by omega] at this
    exact this)
  obtain ⟨K', V', b1, G, N, k, W, b2, hs, _⟩ := jl154 (L := L) (xs := xs) 90 0 jo_N (jc_view (jl_h5 L xs)) V1 0 (by decide) (by decide) (by unfold jo_N; omega) (by decide) ⟨js_G, 0, 0, _, Nat.le_refl _, jSt_0, R, Z⟩
  obtain ⟨d1, d2, d3⟩ := hs.2.2.2.1.2.2.2.1
  obtain ⟨e1, e2⟩ := hs.2.2.2.1.2.2.2.2
  refine ⟨K', V', a1.trans b1, by omega, by omega⟩
