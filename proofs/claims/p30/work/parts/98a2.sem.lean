/-! the same, out of what holds of the log -/
theorem jLg.F {G : jg_G} {N : Nat} (h : jLg G N) : jzF G N := ⟨h.1, fun n hn => (h.2.2 (n + 1) (by omega)).2.2.2.2.2 n rfl⟩
theorem jLg.E {G : jg_G} {N : Nat} (h : jLg G N) : jzE (fun p => jh G N p) (fun x => jzA G x N) := (h.2.2 N (Nat.le_refl _)).2.2.2.1
theorem jLg.D {G : jg_G} {N : Nat} (h : jLg G N) : jzD (fun p => jh G N p) := (h.2.2 N (Nat.le_refl _)).2.2.2.2.1
