/-! to be proved: the law's run -/
theorem ib_law_run {L : Nat} {xs : Nat → Int32} (hL : L ≤ 2048) : ∃ n σf, ib_run ib_Ms ib_ks ib_fn ib_ct n 15 251 0 (ib_ent 7 [.ref 1]) [] ((2, 0, 0), (fun n => if n = 1 then (99, L) else (0, 0)), (fun n k => if n = 1 then xs k else 0), (fun _ _ => 0), (fun _ _ => 0)) = some (.inl (some (.int 1)), σf) ∧ ib_cc σf ≤ 601024 ∧ ib_sc σf ≤ 7293033 := sorry
