/-! the pure run; out of it the law's run -/
theorem ib_pure {L : Nat} {xs : Nat → Int32} (hL : L ≤ 2048) : ∃ m r, jl_runs xs L m 0 (jc_view (jl_h5 L xs)) (jg_ref (jl_h5 L xs)) = some r ∧ r.1.1.2.1 ≤ 601024 ∧ r.1.1.2.2 ≤ 7293033 := by
  obtain ⟨r, h, k', hk, hI⟩ := jruns (L := (L : Int)) (xs := xs) (fun K G k a b e h hk => jcase12 h hk a b e) (fun K G k a b e h _ => jcase24 h a b e) (fun K G k a b e h _ => jcase25 h a b e) (fun K G k a b e h _ => jcase26 h a b e) (by omega) 513 0 _ _ jIn_0 (by decide) (by decide)
  exact ⟨513, r, h, hI.counts hk⟩
theorem ib_law_run {L : Nat} {xs : Nat → Int32} (hL : L ≤ 2048) : ∃ n σf, ib_run ib_Ms ib_ks ib_fn ib_ct n 15 251 0 (ib_ent 7 [.ref 1]) [] ((2, 0, 0), (fun n => if n = 1 then (99, L) else (0, 0)), (fun n k => if n = 1 then xs k else 0), (fun _ _ => 0), (fun _ _ => 0)) = some (.inl (some (.int 1)), σf) ∧ ib_cc σf ≤ 601024 ∧ ib_sc σf ≤ 7293033 := by
  obtain ⟨m, r, h, hc, hs⟩ := ib_pure (L := L) (xs := xs) hL
  exact jl_law hL h hc hs
