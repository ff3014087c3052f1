theorem jb_no0 : jb_no (ib_ent 1 [.ref 2]) [] (ib_new jb_h0 10 0 (ib_fn 10)) := by
  refine ⟨by decide, fun n h => ?_, fun n h => (by cases h), fun n k => ?_⟩
  · rcases List.mem_cons.mp h with z | z
    · cases z; decide
    · cases z
  · show ib_z (fun _ _ => 0) 2 0 n k ≠ 1
    unfold ib_z
    split
    · exact Nat.zero_ne_one
    · exact Nat.zero_ne_one
theorem jb_pr {L : Nat} {xs : Nat → Int32} {n d mi : Nat} {ls : ib_Ls} {σ σ1 : ib_H} {r : Option Value ⊕ Nat} (hn : jb_no ls [] σ) (h : ib_run ib_Ms ib_ks ib_fn ib_ct n d mi 0 ls [] σ = some (r, σ1)) : ib_run ib_Ms ib_ks ib_fn ib_ct n d mi 0 ls [] (jb_put L xs σ) = some (r, jb_put L xs σ1) ∧ 2 ≤ ib_nx σ1 ∧ ∀ n k, ib_P σ1 n k ≠ 1 := by
  obtain ⟨e1, e2⟩ := jb_run_put (L := L) (xs := xs) n hn
  rw [e1, h]
  exact ⟨rfl, (e2 _ h).1, (e2 _ h).2.2⟩
theorem jb_nx_put {L : Nat} {xs : Nat → Int32} {σ : ib_H} : ib_nx (jb_put L xs σ) = ib_nx σ := rfl
theorem jb_nx_new {σ : ib_H} {a b c : Nat} : ib_nx (ib_new σ a b c) = ib_nx σ + 1 := rfl
theorem jl_begin {L : Nat} {xs : Nat → Int32} {Q : ib_O → Prop} {σ2 : ib_H} (run1 : ib_run ib_Ms ib_ks ib_fn ib_ct 1000 10 106 0 (ib_ent 1 [.ref 2]) [] (ib_new jb_h0 10 0 (ib_fn 10)) = some (.inl none, σ2)) (b1 : ib_nx σ2 = 92) (h : jb_w 11 154 48 [some (.ref 1), some (.ref 2), some (.ref 92), some (.ref 93), some (.ref 94), some (.ref 95), some (.ref 96), some (.ref 97), some (jb_v 1), some (jb_v 0), none, none, none, none, none, none] [] (jb_put L xs (jb_rows σ2)) Q) : jb_w 11 154 0 [some (.ref 1), none, none, none, none, none, none, none, none, none, none, none, none, none, none, none] [] (jb_put L xs jb_h0) Q := by
  refine jw_new (p := 3) rfl jM154 jq154_0 (by decide) ?_
  rw [jb_new_put (show 2 ≤ ib_nx jb_h0 by decide)]
  show jb_w 11 154 3 _ [.ref 2] _ Q
  refine jw_dupA (p := 4) rfl jM154 jq154_3 ?_
  obtain ⟨r1, n1, p1⟩ := jb_pr (L := L) (xs := xs) jb_no0 run1
  have o1 : jb_ob (jb_put L xs (ib_new jb_h0 10 0 (ib_fn 10))) 10 2 := ⟨by decide, show 2 < 3 by decide, rfl, by decide⟩
  refine jw_callN [] jM154 jq154_4 (by decide) rfl rfl o1 rfl jM106 rfl rfl ?_
  refine ⟨1000, _, r1, ?_⟩
  show jb_w 11 154 7 _ [.ref 2] (jb_put L xs σ2) Q
  refine jaS1 (p := 8) rfl jM154 jq154_7 ?_
  refine jw_bipush (p := 10) rfl jM154 jq154_8 (by decide) ?_
  refine jw_nar (n := 64) (p := 12) rfl jM154 jq154_10 (by decide) ?_
  rw [jb_new_put n1, jb_nx_put, b1]
  refine jaS2 (p := 13) rfl jM154 jq154_12 ?_
  refine jw_bipush (p := 15) rfl jM154 jq154_13 (by decide) ?_
  refine jw_nar (n := 32) (p := 17) rfl jM154 jq154_15 (by decide) ?_
  rw [jb_new_put (Nat.le_succ_of_le n1), jb_nx_put, jb_nx_new, b1]
  refine jaS3 (p := 18) rfl jM154 jq154_17 ?_
  refine jw_bipush (p := 20) rfl jM154 jq154_18 (by decide) ?_
  refine jw_nar (n := 16) (p := 22) rfl jM154 jq154_20 (by decide) ?_
  rw [jb_new_put (Nat.le_succ_of_le (Nat.le_succ_of_le n1)), jb_nx_put, jb_nx_new, jb_nx_new, b1]
  refine jaS4 (p := 24) rfl jM154 jq154_22 ?_
  refine jw_bipush (p := 26) rfl jM154 jq154_24 (by decide) ?_
  refine jw_nar (n := 64) (p := 28) rfl jM154 jq154_26 (by decide) ?_
  rw [jb_new_put (Nat.le_succ_of_le (Nat.le_succ_of_le (Nat.le_succ_of_le n1))), jb_nx_put, jb_nx_new, jb_nx_new, jb_nx_new, b1]
  refine jaS5 (p := 30) rfl jM154 jq154_28 ?_
  refine jw_bipush (p := 32) rfl jM154 jq154_30 (by decide) ?_
  refine jw_nar (n := 64) (p := 34) rfl jM154 jq154_32 (by decide) ?_
  rw [jb_new_put (Nat.le_succ_of_le (Nat.le_succ_of_le (Nat.le_succ_of_le (Nat.le_succ_of_le n1)))), jb_nx_put, jb_nx_new, jb_nx_new, jb_nx_new, jb_nx_new, b1]
  refine jaS6 (p := 36) rfl jM154 jq154_34 ?_
  refine jw_bipush (p := 38) rfl jM154 jq154_36 (by decide) ?_
  refine jw_nar (n := 64) (p := 40) rfl jM154 jq154_38 (by decide) ?_
  rw [jb_new_put (Nat.le_succ_of_le (Nat.le_succ_of_le (Nat.le_succ_of_le (Nat.le_succ_of_le (Nat.le_succ_of_le n1))))), jb_nx_put, jb_nx_new, jb_nx_new, jb_nx_new, jb_nx_new, jb_nx_new, b1]
  refine jaS7 (p := 42) rfl jM154 jq154_40 ?_
  refine jw_iconst (p := 43) rfl jM154 jq154_42 ?_
  refine jiS8 (p := 45) rfl jM154 jq154_43 ?_
  refine jw_iconst (p := 46) rfl jM154 jq154_45 ?_
  refine jiS9 (p := 48) rfl jM154 jq154_46 ?_
  exact h
