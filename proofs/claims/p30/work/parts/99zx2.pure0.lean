/-- the start, with the law's ints laid in -/
theorem jl_64g {L : Nat} {xs : Nat → Int32} {σ4 : ib_H} (h : ((List.range 1100).all fun i => decide (ib_P σ4 64 i = 0)) = true) {i : Int} (i0 : 0 ≤ i) (i1 : i < 1100) : jc_p (jc_view (jb_put L xs σ4)) 64 i = 0 := by
  have e : jc_p (jc_view (jb_put L xs σ4)) 64 i = jb_p (jb_put L xs σ4) 64 i := if_pos i0
  rw [e]
  rw [List.all_eq_true] at h
  exact of_decide_eq_true (h i.toNat (List.mem_range.mpr (by omega)))
theorem jl_bg {L : Nat} {xs : Nat → Int32} {σ4 : ib_H} (h : ib_nx σ4 = 98) (h2 : ib_cc σ4 ≤ 98 ∧ ib_sc σ4 ≤ 324816) : ib_nx (jb_put L xs σ4) = 98 ∧ ib_cc (jb_put L xs σ4) ≤ 98 ∧ ib_sc (jb_put L xs σ4) ≤ 324816 := ⟨h, h2.1, h2.2⟩
theorem jSt_0 {L : Nat} {xs : Nat → Int32} : jSt (jc_view (jl_h5 L xs)) js_G 0 0 (0, 0, fun j => js_G 113 j) :=
  jSt_0g jl_F5 (fun n i n0 n1 i0 i1 => js_k (jb_s7c n1) ⟨n0, n1⟩ i0 i1) (fun i i0 i1 => jl_64g (L := L) (xs := xs) (σ4 := jb_h4) jb_s6 i0 i1) (jl_bg (L := L) (xs := xs) (σ4 := jb_h4) jb_b2 jb_b5)
