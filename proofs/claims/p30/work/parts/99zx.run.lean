/-! THE LAW'S RUN, from its beginning -/
def jl_h5 (L : Nat) (xs : Nat → Int32) : ib_H := jb_put L xs jb_h4
theorem js_I {L : Nat} {xs : Nat → Int32} {n : Nat} (h1 : n ≠ 1) (i : Int) : jb_i (jl_h5 L xs) n i = jb_i jb_h4 n i := by
  show ((if n = 1 then xs i.toNat else ib_I jb_h4 n i.toNat)).toInt = _
  rw [if_neg h1]
  rfl
theorem js_k {L : Nat} {xs : Nat → Int32} {n l : Nat} (h : js_c n l = true) (hn : 2 ≤ n ∧ n < 92) {i : Int} (i0 : 0 ≤ i) (i1 : i < l) : jc_i (jc_view (jl_h5 L xs)) n i = js_e n i.toNat := by
  have e : jc_i (jc_view (jl_h5 L xs)) n i = jb_i (jl_h5 L xs) n i := if_pos ⟨Or.inl hn, i0⟩
  rw [e, js_I (by omega)]
  have := js_c.is h (i := i.toNat) (by omega)
  rw [show ((i.toNat : Nat) : Int) = i by omega] at this
  exact this
theorem jl_F5g {L : Nat} {xs : Nat → Int32} {σ4 : ib_H} (e : ib_nx σ4 = 98) (h3 : ((List.range 98).all fun n => decide (n < 2) || decide (ib_sh σ4 n = fx_sh n)) = true) (h4 : ((fx_pl.zipIdx).all fun r => (r.1.zipIdx).all fun q => match q.1 with | some v => decide (ib_P σ4 r.2 q.2 = v) | none => true) = true) : jb_F (jb_put L xs σ4) := by
  refine ⟨?_, fun n h2 hn => ?_, fun n k q hq => ?_⟩
  · show 98 ≤ ib_nx σ4
    omega
  · show (if n = 1 then (99, L) else ib_sh σ4 n) = fx_sh n
    rw [if_neg (by omega)]
    rw [List.all_eq_true] at h3
    have h4 := h3 n (List.mem_range.mpr (by omega))
    rw [Bool.or_eq_true, decide_eq_true_eq, decide_eq_true_eq] at h4
    rcases h4 with h4 | h4
    · omega
    · exact h4
  · have hn := fx_p_lt hq
    show ib_P σ4 n k = q
    unfold fx_p at hq
    have hk : k < (fx_pl.getD n []).length := by
      by_cases c : k < (fx_pl.getD n []).length
      · exact c
      · rw [List.getD_eq_getElem?_getD, List.getElem?_eq_none (by omega)] at hq
        cases hq
    have hl : n < fx_pl.length := by rw [fx_pl_len]; exact hn
    rw [List.all_eq_true] at h4
    have h5 := h4 (fx_pl[n], n) (List.mem_zipIdx_iff_getElem?.mpr (List.getElem?_eq_getElem hl))
    rw [List.all_eq_true] at h5
    have hg : fx_pl.getD n [] = fx_pl[n] := by rw [List.getD_eq_getElem?_getD, List.getElem?_eq_getElem hl]; rfl
    rw [hg] at hk hq
    have h6 := h5 (fx_pl[n][k], k) (List.mem_zipIdx_iff_getElem?.mpr (List.getElem?_eq_getElem hk))
    have hq2 : fx_pl[n][k] = some q := by
      rw [List.getD_eq_getElem?_getD, List.getElem?_eq_getElem hk] at hq
      exact hq
    rw [hq2] at h6
    exact of_decide_eq_true h6
theorem jl_F5 {L : Nat} {xs : Nat → Int32} : jb_F (jl_h5 L xs) := jl_F5g jb_b2 jb_b3 jb_b4
theorem jy_S5 {L : Nat} {xs : Nat → Int32} (hL : L ≤ 260) : jy_S L xs (jc_view (jl_h5 L xs)) (jg_ref (jl_h5 L xs)) (jl_h5 L xs) := ⟨jl_F5, rfl, rfl, rfl, rfl, hL⟩
