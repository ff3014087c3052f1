theorem ib_law_run {L : Nat} {xs : Nat → Int32} (hL : L ≤ 260) : ∃ n σf, ib_run ib_Ms ib_ks ib_fn ib_ct n 11 154 0 (ib_ent 16 [.ref 1]) [] ((2, 0, 0), (fun n => if n = 1 then (99, L) else (0, 0)), (fun n k => if n = 1 then xs k else 0), (fun _ _ => 0), (fun _ _ => 0)) = some (.inl (some (.int 1)), σf) ∧ ib_cc σf ≤ 600130 ∧ ib_sc σf ≤ 7301080 := by
  have e0 : (((2, 0, 0), (fun n => if n = 1 then (99, L) else (0, 0)), (fun n k => if n = 1 then xs k else 0), (fun _ _ => 0), (fun _ _ => 0)) : ib_H) = jb_put L xs jb_h0 := by
    unfold jb_put jb_h0
    refine Prod.ext rfl (Prod.ext ?_ rfl)
    funext n
    show (if n = 1 then (99, L) else (0, 0)) = (if n = 1 then (99, L) else (if n = 1 then (99, 0) else (0, 0)))
    by_cases c : n = 1
    · rw [if_pos c, if_pos c]
    · rw [if_neg c, if_neg c, if_neg c]
  obtain ⟨K', V', p1, p2, p3⟩ := jl_pure (L := L) (xs := xs)
  have w := jl_begin (L := L) (xs := xs) (σ2 := jb_h2) (Q := fun o => o.1 = .inl (some (.int 1)) ∧ ib_cc o.2 ≤ 600130 ∧ ib_sc o.2 ≤ 7301080) jb_h1e jb_b1.2 (jy154_48 (d := 1) jo_N (jb_rn (n := 1) rfl) (jb_rn (n := 0) rfl) p1 (fun σ' s _ => ⟨rfl, by
    have e : jc_view σ' = K' := s.2.1
    rw [← e] at p2
    exact p2, by
    have e : jc_view σ' = K' := s.2.1
    rw [← e] at p3
    exact p3⟩) _ (jy_S5 hL))
  obtain ⟨n, ⟨v, σf⟩, h1, h2, h3⟩ := w
  refine ⟨n, σf, ?_, h3⟩
  rw [e0]
  have h2 : v = .inl (some (.int 1)) := h2
  rw [h2] at h1
  exact h1
