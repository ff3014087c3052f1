/-! the same of runs -/
def jb_no (ls : ib_Ls) (st : List Value) (σ : ib_H) : Prop := 2 ≤ ib_nx σ ∧ (∀ n, some (Value.ref n) ∈ ls → n ≠ 1) ∧ (∀ n, Value.ref n ∈ st → n ≠ 1) ∧ ∀ n k, ib_P σ n k ≠ 1
theorem jb_ls_set {ls : ib_Ls} {k : Nat} {v : Value} (h : ∀ n, some (Value.ref n) ∈ ls → n ≠ 1) (hv : ∀ n, v = .ref n → n ≠ 1) : ∀ n, some (Value.ref n) ∈ ls.set k (some v) → n ≠ 1 := fun n hn => by
  rcases List.mem_or_eq_of_mem_set hn with z | z
  · exact h n z
  · exact hv n (Option.some.inj z).symm
theorem jb_st_int {x : Int32} {r : List Value} (h : ∀ n, Value.ref n ∈ r → n ≠ 1) : ∀ n, Value.ref n ∈ Value.int x :: r → n ≠ 1 := fun n hn => by
  rcases List.mem_cons.mp hn with z | z
  · cases z
  · exact h n z
theorem jb_st_long {x : Int64} {r : List Value} (h : ∀ n, Value.ref n ∈ r → n ≠ 1) : ∀ n, Value.ref n ∈ Value.long x :: r → n ≠ 1 := fun n hn => by
  rcases List.mem_cons.mp hn with z | z
  · cases z
  · exact h n z
theorem jb_st_ref {x : Nat} {r : List Value} (hx : x ≠ 1) (h : ∀ n, Value.ref n ∈ r → n ≠ 1) : ∀ n, Value.ref n ∈ Value.ref x :: r → n ≠ 1 := fun n hn => by
  rcases List.mem_cons.mp hn with z | z
  · cases z; exact hx
  · exact h n z
theorem jb_st_tl {x : Value} {r : List Value} (h : ∀ n, Value.ref n ∈ x :: r → n ≠ 1) : ∀ n, Value.ref n ∈ r → n ≠ 1 := fun n hn => h n (List.mem_cons_of_mem _ hn)
theorem jb_st_hd {x : Nat} {r : List Value} (h : ∀ n, Value.ref n ∈ Value.ref x :: r → n ≠ 1) : x ≠ 1 := h x List.mem_cons_self
theorem jb_P_u {f : Nat → Nat → Nat} {n k q : Nat} (h : ∀ n k, f n k ≠ 1) (hq : q ≠ 1) : ∀ a b, ib_u f n k q a b ≠ 1 := fun a b => by
  unfold ib_u
  split
  · exact hq
  · exact h a b
theorem jb_P_z {f : Nat → Nat → Nat} {n : Nat} (h : ∀ n k, f n k ≠ 1) : ∀ a b, ib_z f n 0 a b ≠ 1 := fun a b => by
  unfold ib_z
  split
  · exact Nat.zero_ne_one
  · exact h a b
theorem jb_at_no {σ : ib_H} {ks : Nat → Nat → Nat} {fn : Nat → Nat} {q : ib_A} {pc : Nat} {ls : ib_Ls} {st : List Value} {x : Nat × ib_Ls × List Value × ib_H} (h : ib_at ks fn q pc ls st σ = some (.inl x)) (hn : jb_no ls st σ) : jb_no x.2.1 x.2.2.1 x.2.2.2 := by
  obtain ⟨h1, h2, h3, h4⟩ := hn
  have hl : ∀ {k : Nat} {v : Nat}, ls[k]? = some (some (Value.ref v)) → v ≠ 1 := fun e => h2 _ (List.mem_of_getElem? e)
  unfold ib_at ib_ldI ib_ldA ib_sto ib_stoA at h
  repeat' split at h
  all_goals first
    | (cases h; done)
    | (cases h; exact ⟨h1, h2, jb_st_int h3, h4⟩)
    | (cases h; exact ⟨h1, h2, h3, h4⟩)
    | (cases h; exact ⟨h1, h2, jb_st_tl h3, h4⟩)
    | (cases h; exact ⟨h1, h2, jb_st_tl (jb_st_tl h3), h4⟩)
    | (cases h; exact ⟨h1, h2, jb_st_tl (jb_st_tl (jb_st_tl h3)), h4⟩)
    | (cases h; exact ⟨h1, h2, jb_st_int (jb_st_tl h3), h4⟩)
    | (cases h; exact ⟨h1, h2, jb_st_int (jb_st_tl (jb_st_tl h3)), h4⟩)
    | (cases h; exact ⟨h1, h2, jb_st_long (jb_st_tl h3), h4⟩)
    | (cases h; exact ⟨h1, h2, jb_st_long (jb_st_tl (jb_st_tl h3)), h4⟩)
    | (cases h; exact ⟨h1, h2, jb_st_ref Nat.zero_ne_one h3, h4⟩)
    | (cases h; exact ⟨h1, h2, jb_st_ref (hl (by assumption)) h3, h4⟩)
    | (cases h; exact ⟨h1, h2, jb_st_ref (h4 _ _) (jb_st_tl h3), h4⟩)
    | (cases h; exact ⟨h1, h2, jb_st_ref (h4 _ _) (jb_st_tl (jb_st_tl h3)), h4⟩)
    | (cases h; exact ⟨h1, jb_ls_set h2 (fun n e => by cases e <;> exact jb_st_hd h3), jb_st_tl h3, h4⟩)
    | (cases h; exact ⟨h1, jb_ls_set h2 (fun n e => by cases e), h3, h4⟩)
    | (cases h; exact ⟨h1, h2, jb_st_ref (jb_st_hd h3) h3, h4⟩)
    | (cases h; exact ⟨h1, h2, jb_st_int (jb_st_int h3), h4⟩)
    | (cases h; exact ⟨h1, h2, jb_st_int h3, h4⟩)
    | (cases h; exact ⟨h1, h2, jb_st_int (jb_st_ref (jb_st_hd (jb_st_tl h3)) h3), h4⟩)
    | (cases h; exact ⟨h1, h2, jb_st_int (jb_st_int h3), h4⟩)
    | (cases h; exact ⟨h1, h2, jb_st_ref (jb_st_hd h3) (jb_st_int h3), h4⟩)
    | (cases h; exact ⟨h1, h2, jb_st_ref (jb_st_hd h3) (jb_st_ref (jb_st_hd (jb_st_tl h3)) h3), h4⟩)
    | (cases h; exact ⟨h1, h2, jb_st_tl (jb_st_tl h3), jb_P_u h4 (jb_st_hd h3)⟩)
    | (cases h; exact ⟨h1, h2, jb_st_tl (jb_st_tl (jb_st_tl h3)), jb_P_u h4 (jb_st_hd h3)⟩)
    | (cases h; exact ⟨Nat.le_succ_of_le h1, h2, jb_st_ref (Nat.ne_of_gt h1) h3, jb_P_z h4⟩)
    | (cases h; exact ⟨Nat.le_succ_of_le h1, h2, jb_st_ref (Nat.ne_of_gt h1) (jb_st_tl h3), jb_P_z h4⟩)
    | skip
theorem jb_at_cn {σ : ib_H} {ks : Nat → Nat → Nat} {fn : Nat → Nat} {q : ib_A} {pc : Nat} {ls : ib_Ls} {st : List Value} {c : Nat × List Value × List Value} (h : ib_at ks fn q pc ls st σ = some (.inr (.inl c))) (hn : jb_no ls st σ) : (∀ n, Value.ref n ∈ c.2.1 → n ≠ 1) ∧ ∀ n, Value.ref n ∈ c.2.2 → n ≠ 1 := by
  obtain ⟨h1, h2, h3, h4⟩ := hn
  have hd : ∀ k n, Value.ref n ∈ st.drop k → n ≠ 1 := fun k n e => h3 n (List.mem_of_mem_drop e)
  have ht : ∀ k n, Value.ref n ∈ (st.take k).reverse → n ≠ 1 := fun k n e => h3 n (List.mem_of_mem_take (List.mem_reverse.mp e))
  unfold ib_at ib_ldI ib_ldA ib_sto ib_stoA at h
  repeat' split at h
  all_goals first
    | (cases h; done)
    | (cases h; exact ⟨ht _, hd _⟩)
    | (cases h
       rename_i e _
       have hd2 := hd
       refine ⟨fun n hm => ?_, fun n hm => ?_⟩
       · rcases List.mem_cons.mp hm with z | z
         · cases z
           exact hd _ _ (by rw [e]; exact List.mem_cons_self)
         · exact ht _ _ z
       · exact hd _ _ (by rw [e]; exact List.mem_cons_of_mem _ hm))
theorem jb_at_rn {σ : ib_H} {ks : Nat → Nat → Nat} {fn : Nat → Nat} {q : ib_A} {pc : Nat} {ls : ib_Ls} {st : List Value} {v : Value} (h : ib_at ks fn q pc ls st σ = some (.inr (.inr (.inl (some v))))) (hn : jb_no ls st σ) : ∀ n, v = .ref n → n ≠ 1 := by
  obtain ⟨h1, h2, h3, h4⟩ := hn
  unfold ib_at ib_ldI ib_ldA ib_sto ib_stoA at h
  repeat' split at h
  all_goals first
    | (cases h; done)
    | (cases h; intro n e; cases e; done)
    | (cases h; intro n e; cases e; exact jb_st_hd h3)
theorem jb_run_put {Ms : Nat → Option ib_M} {ks : Nat → Nat → Nat} {fn : Nat → Nat} {ct : Nat → Nat} {L : Nat} {xs : Nat → Int32} : ∀ (n : Nat) {d mi pc : Nat} {ls : ib_Ls} {st : List Value} {σ : ib_H}, jb_no ls st σ → ib_run Ms ks fn ct n d mi pc ls st (jb_put L xs σ) = (ib_run Ms ks fn ct n d mi pc ls st σ).map (fun o => (o.1, jb_put L xs o.2)) ∧ ∀ o, ib_run Ms ks fn ct n d mi pc ls st σ = some o → 2 ≤ ib_nx o.2 ∧ (∀ v, o.1 = .inl (some v) → ∀ n, v = .ref n → n ≠ 1) ∧ ∀ n k, ib_P o.2 n k ≠ 1 := by
  intro n
  induction n with
  | zero => intro d mi pc ls st σ hn; exact ⟨rfl, fun o h => by cases h⟩
  | succ n ih =>
    intro d mi pc ls st σ hn
    show ib_one Ms ks fn ct (ib_run Ms ks fn ct n) d mi pc ls st (jb_put L xs σ) = (ib_one Ms ks fn ct (ib_run Ms ks fn ct n) d mi pc ls st σ).map _ ∧ ∀ o, ib_one Ms ks fn ct (ib_run Ms ks fn ct n) d mi pc ls st σ = some o → _
    unfold ib_one
    cases hM : Ms mi with
    | none => exact ⟨rfl, fun o h => by cases h⟩
    | some M =>
      dsimp only
      cases hc : M.2.2.2.2.2[pc]? with
      | none => exact ⟨rfl, fun o h => by cases h⟩
      | some q =>
        cases q with
        | none => exact ⟨rfl, fun o h => by cases h⟩
        | some q =>
          dsimp only
          rw [jb_at_put hn.1 hn.2.2.1]
          cases hx : ib_at ks fn q pc ls st σ with
          | none => exact ⟨rfl, fun o h => by cases h⟩
          | some x =>
            cases x with
            | inl x => exact ih (jb_at_no hx hn)
            | inr x =>
              cases x with
              | inl c =>
                obtain ⟨n1, n2⟩ := jb_at_cn hx hn
                show (if d = 0 then none else _) = _ ∧ _
                by_cases hd : d = 0
                · simp only [if_pos hd]
                  exact ⟨rfl, fun o h => by cases h⟩
                · simp only [if_neg hd]
                  cases hC : Ms c.1 with
                  | none => exact ⟨rfl, fun o h => by cases h⟩
                  | some C =>
                    dsimp only [jb_pm]
                    by_cases hk : (c.2.1.all ib_cat1 && decide (c.2.1.length ≤ C.2.2.1) && decide (c.2.2.length ≤ 4)) = true
                    · simp only [if_pos hk]
                      have ne : jb_no (ib_ent C.2.2.1 c.2.1) [] σ := by
                        refine ⟨hn.1, fun n hm => ?_, fun n hm => (by cases hm), hn.2.2.2⟩
                        unfold ib_ent at hm
                        rcases List.mem_append.mp hm with z | z
                        · obtain ⟨v, hv, e⟩ := List.mem_map.mp z
                          cases e
                          exact n1 n hv
                        · have := List.eq_of_mem_replicate z
                          cases this
                      obtain ⟨e1, e2⟩ := ih (d := d - 1) (mi := c.1) (pc := 0) ne
                      rw [e1]
                      cases hr : ib_run Ms ks fn ct n (d - 1) c.1 0 (ib_ent C.2.2.1 c.2.1) [] σ with
                      | none => exact ⟨rfl, fun o h => by cases h⟩
                      | some o =>
                        obtain ⟨r, σ1⟩ := o
                        obtain ⟨f1, f2, f3⟩ := e2 _ hr
                        cases r with
                        | inl v =>
                          refine ih (ls := ls) (st := v.toList ++ c.2.2) ⟨f1, hn.2.1, fun n hm => ?_, f3⟩
                          rcases List.mem_append.mp hm with z | z
                          · cases v with
                            | none => cases z
                            | some v =>
                              have : Value.ref n = v := by simpa using z
                              exact f2 v rfl n this.symm
                          · exact n2 n z
                        | inr k =>
                          dsimp only [Option.map]
                          cases hh : ib_hnd ct pc k M.2.2.2.2.1 with
                          | none =>
                            dsimp only
                            split
                            · exact ⟨rfl, fun o h => by cases h; exact ⟨f1, fun v e => (by cases e), f3⟩⟩
                            · exact ⟨rfl, fun o h => by cases h⟩
                          | some hp =>
                            dsimp only
                            have ns : ∀ i, jb_no (ls.set i none) [] σ1 := fun i => ⟨f1, fun n hm => (by
                              rcases List.mem_or_eq_of_mem_set hm with z | z
                              · exact hn.2.1 n z
                              · cases z), fun n hm => (by cases hm), f3⟩
                            split
                            · exact ih (ns _)
                            · exact ih (ns _)
                            · exact ⟨rfl, fun o h => by cases h⟩
                    · simp only [if_neg hk]
                      exact ⟨rfl, fun o h => by cases h⟩
              | inr x =>
                cases x with
                | inl v =>
                  refine ⟨rfl, fun o h => ?_⟩
                  cases h
                  exact ⟨hn.1, fun w e => (by cases e; exact jb_at_rn hx hn), hn.2.2.2⟩
                | inr k =>
                  show (if 6 ≤ d then _ else none) = _ ∧ _
                  by_cases hd : 6 ≤ d
                  · simp only [if_pos hd]
                    exact ⟨rfl, fun o h => by cases h; exact ⟨hn.1, fun v e => (by cases e), hn.2.2.2⟩⟩
                  · simp only [if_neg hd]
                    exact ⟨rfl, fun o h => by cases h⟩
