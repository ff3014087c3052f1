/-! what a step of a run was -/
theorem ib_at_le {ks : Nat → Nat → Nat} {fn : Nat → Nat} {q : ib_A} {pc : Nat} {ls : ib_Ls} {st : List Value} {σ : ib_H} {x : Nat × ib_Ls × List Value × ib_H} (h : ib_at ks fn q pc ls st σ = some (.inl x)) : ib_le σ x.2.2.2 := by
  unfold ib_at ib_ldI ib_ldA ib_sto ib_stoA at h
  repeat' split at h
  all_goals first
    | (cases h; done)
    | (cases h; exact ⟨Nat.le_refl _, Nat.le_refl _, Nat.le_refl _⟩)
    | (cases h; exact ⟨Nat.le_succ _, Nat.le_succ _, Nat.le_add_right _ _⟩)
theorem ib_at_ret {ks : Nat → Nat → Nat} {fn : Nat → Nat} {i : Instr} {a1 a2 a3 a4 : Nat} {pc : Nat} {ls : ib_Ls} {st : List Value} {σ : ib_H} {v : Option Value} (h : ib_at ks fn (i, a1, a2, a3, a4) pc ls st σ = some (.inr (.inr (.inl v)))) : (i = .ireturn ∧ ∃ x : Int32, st = [.int x] ∧ v = some (.int x) ∧ (a1 = 1 → x = 0 ∨ x = 1)) ∨ (i = .areturn ∧ ∃ n, st = [.ref n] ∧ v = some (.ref n)) ∨ (i = .return_ ∧ st = [] ∧ v = none) := by
  unfold ib_at ib_ldI ib_ldA ib_sto ib_stoA at h
  repeat' split at h
  all_goals first
    | (cases h; done)
    | (cases h; exact Or.inr (Or.inr ⟨by assumption, rfl, rfl⟩))
    | (cases h; exact Or.inr (Or.inl ⟨by assumption, _, rfl, rfl⟩))
    | (rename_i hx; cases h; refine Or.inl ⟨by assumption, _, rfl, rfl, fun e => Classical.byContradiction fun z => hx ⟨e, z⟩⟩)
theorem ib_at_throw {ks : Nat → Nat → Nat} {fn : Nat → Nat} {i : Instr} {a1 a2 a3 a4 : Nat} {pc : Nat} {ls : ib_Ls} {st : List Value} {σ : ib_H} {k : Nat} (h : ib_at ks fn (i, a1, a2, a3, a4) pc ls st σ = some (.inr (.inr (.inr k)))) : (∃ idx, i = .new idx) ∧ 100 ≤ a1 ∧ st = [] ∧ k = a1 - 100 := by
  unfold ib_at ib_ldI ib_ldA ib_sto ib_stoA at h
  repeat' split at h
  all_goals first
    | (cases h; done)
    | (cases h; rename_i h1 h2; exact ⟨⟨_, by assumption⟩, by assumption, List.isEmpty_iff.mp h2, rfl⟩)
theorem ib_at_call {ks : Nat → Nat → Nat} {fn : Nat → Nat} {i : Instr} {a1 a2 a3 a4 : Nat} {pc : Nat} {ls : ib_Ls} {st : List Value} {σ : ib_H} {c : Nat × List Value × List Value} (h : ib_at ks fn (i, a1, a2, a3, a4) pc ls st σ = some (.inr (.inl c))) : (((∃ idx, i = .invokespecial idx) ∧ a1 ≠ 1000 ∨ (∃ idx, i = .invokevirtual idx)) ∧ ∃ n r, st.drop a2 = .ref n :: r ∧ ib_obj σ a3 n = true ∧ a2 ≤ st.length ∧ c = (a1, .ref n :: (st.take a2).reverse, r)) ∨ ((∃ idx, i = .invokestatic idx) ∧ a2 ≤ st.length ∧ c = (a1, (st.take a2).reverse, st.drop a2)) := by
  unfold ib_at ib_ldI ib_ldA ib_sto ib_stoA at h
  repeat' split at h
  all_goals first
    | (cases h; done)
    | (rename_i hx; cases h; exact Or.inr ⟨⟨_, by assumption⟩, hx, rfl⟩)
    | (rename_i h9 _ _ _ _ e hx; simp only [Bool.and_eq_true, decide_eq_true_eq] at hx; cases h; exact Or.inl ⟨Or.inl ⟨⟨_, by assumption⟩, h9⟩, _, _, e, hx.1, hx.2, rfl⟩)
    | (rename_i e hx; simp only [Bool.and_eq_true, decide_eq_true_eq] at hx; cases h; exact Or.inl ⟨Or.inr ⟨_, by assumption⟩, _, _, e, hx.1, hx.2, rfl⟩)
    | (rename_i h9 _ _ _ e hx; simp only [Bool.and_eq_true, decide_eq_true_eq] at hx; cases h; exact Or.inl ⟨Or.inl ⟨⟨_, by assumption⟩, h9⟩, _, _, e, hx.1, hx.2, rfl⟩)
/-- what an instruction of a run was, and what followed -/
def ib_cs (Ms : Nat → Option ib_M) (ks : Nat → Nat → Nat) (fn : Nat → Nat) (ct : Nat → Nat) (rec : Nat → Nat → Nat → ib_Ls → List Value → ib_H → Option ib_O) (d mi pc : Nat) (ls : ib_Ls) (st : List Value) (σ : ib_H) (o : ib_O) (M : ib_M) (q : ib_A) : Prop :=
  (∃ x, ib_at ks fn q pc ls st σ = some (.inl x) ∧ rec d mi x.1 x.2.1 x.2.2.1 x.2.2.2 = some o) ∨
  (∃ c C o', ib_at ks fn q pc ls st σ = some (.inr (.inl c)) ∧ d ≠ 0 ∧ Ms c.1 = some C ∧ (c.2.1.all ib_cat1 = true ∧ c.2.1.length ≤ C.2.2.1 ∧ c.2.2.length ≤ 4) ∧ rec (d - 1) c.1 0 (ib_ent C.2.2.1 c.2.1) [] σ = some o' ∧
    ((∃ v, o'.1 = .inl v ∧ rec d mi (pc + 3) ls (v.toList ++ c.2.2) o'.2 = some o) ∨
     (∃ k h i r, o'.1 = .inr k ∧ ib_hnd ct pc k M.2.2.2.2.1 = some h ∧ M.2.2.2.2.2[h]? = some (some (.astore_n i, r)) ∧ rec d mi (h + 1) (ls.set i.val none) [] o'.2 = some o) ∨
     (∃ k h i r, o'.1 = .inr k ∧ ib_hnd ct pc k M.2.2.2.2.1 = some h ∧ M.2.2.2.2.2[h]? = some (some (.astore i, r)) ∧ rec d mi (h + 2) (ls.set i none) [] o'.2 = some o) ∨
     (∃ k, o'.1 = .inr k ∧ M.2.2.2.2.1.isEmpty = true ∧ o = (.inr k, o'.2)))) ∨
  (∃ v, ib_at ks fn q pc ls st σ = some (.inr (.inr (.inl v))) ∧ o = (.inl v, σ)) ∨
  (∃ k, ib_at ks fn q pc ls st σ = some (.inr (.inr (.inr k))) ∧ 6 ≤ d ∧ o = (.inr k, ib_cost σ 1 6))
theorem ib_one_inv {Ms : Nat → Option ib_M} {ks : Nat → Nat → Nat} {fn : Nat → Nat} {ct : Nat → Nat} {rec : Nat → Nat → Nat → ib_Ls → List Value → ib_H → Option ib_O} {d mi pc : Nat} {ls : ib_Ls} {st : List Value} {σ : ib_H} {o : ib_O} (h : ib_one Ms ks fn ct rec d mi pc ls st σ = some o) : ∃ M q, Ms mi = some M ∧ M.2.2.2.2.2[pc]? = some (some q) ∧ ib_cs Ms ks fn ct rec d mi pc ls st σ o M q := by
  unfold ib_one at h
  split at h
  · cases h
  · rename_i M hM
    split at h
    · rename_i q hq
      refine ⟨M, q, hM, hq, ?_⟩
      unfold ib_cs
      split at h
      · cases h
      · rename_i x hx
        exact Or.inl ⟨x, hx, h⟩
      · rename_i c hc
        split at h
        · cases h
        · rename_i hd
          split at h
          · cases h
          · rename_i C hC
            split at h
            · rename_i hck
              simp only [Bool.and_eq_true, decide_eq_true_eq] at hck
              split at h
              · cases h
              · rename_i v σ1 hr
                exact Or.inr (Or.inl ⟨c, C, (.inl v, σ1), hc, hd, hC, ⟨hck.1.1, hck.1.2, hck.2⟩, hr, Or.inl ⟨v, rfl, h⟩⟩)
              · rename_i k σ1 hr
                refine Or.inr (Or.inl ⟨c, C, (.inr k, σ1), hc, hd, hC, ⟨hck.1.1, hck.1.2, hck.2⟩, hr, Or.inr ?_⟩)
                split at h
                · rename_i h9 hh
                  split at h
                  · rename_i i r hi
                    exact Or.inl ⟨k, h9, i, r, rfl, hh, hi, h⟩
                  · rename_i i r hi
                    exact Or.inr (Or.inl ⟨k, h9, i, r, rfl, hh, hi, h⟩)
                  · cases h
                · split at h
                  · rename_i he
                    cases h
                    exact Or.inr (Or.inr ⟨k, rfl, he, rfl⟩)
                  · cases h
            · cases h
      · rename_i v hv
        cases h
        exact Or.inr (Or.inr (Or.inl ⟨v, hv, rfl⟩))
      · rename_i k hk
        split at h
        · rename_i hd
          cases h
          exact Or.inr (Or.inr (Or.inr ⟨k, hk, hd, rfl⟩))
        · cases h
    · cases h
theorem ib_run_le {Ms : Nat → Option ib_M} {ks : Nat → Nat → Nat} {fn : Nat → Nat} {ct : Nat → Nat} : ∀ (n : Nat) {d mi pc : Nat} {ls : ib_Ls} {st : List Value} {σ : ib_H} {o : ib_O}, ib_run Ms ks fn ct n d mi pc ls st σ = some o → ib_le σ o.2 := by
  intro n
  induction n with
  | zero => intro d mi pc ls st σ o h; cases h
  | succ n ih =>
    intro d mi pc ls st σ o h
    obtain ⟨M, q, hM, hq, hc⟩ := ib_one_inv h
    rcases hc with ⟨x, hx, h⟩ | ⟨c, C, o', hc, hd, hC, hck, hr, h⟩ | ⟨v, hv, rfl⟩ | ⟨k, hk, hd, rfl⟩
    · exact (ib_at_le hx).tr (ih h)
    · have h1 := ih hr
      rcases h with ⟨v, hv, h⟩ | ⟨k, h9, i, r, -, -, -, h⟩ | ⟨k, h9, i, r, -, -, -, h⟩ | ⟨k, -, -, rfl⟩
      · exact h1.tr (ih h)
      · exact h1.tr (ih h)
      · exact h1.tr (ih h)
      · exact h1
    · exact ib_le.rf
    · exact ⟨Nat.le_refl _, Nat.le_add_right _ _, Nat.le_add_right _ _⟩
