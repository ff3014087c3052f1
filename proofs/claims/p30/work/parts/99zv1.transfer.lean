/-! a run that never holds the script's name does not see the script -/
def jb_put (L : Nat) (xs : Nat → Int32) (σ : ib_H) : ib_H := (σ.1, (fun n => if n = 1 then (99, L) else σ.2.1 n), (fun n k => if n = 1 then xs k else σ.2.2.1 n k), σ.2.2.2.1, σ.2.2.2.2)
def jb_pm (L : Nat) (xs : Nat → Int32) : ib_R → ib_R
  | .inl x => .inl (x.1, x.2.1, x.2.2.1, jb_put L xs x.2.2.2)
  | .inr y => .inr y
section JbT
variable {L : Nat} {xs : Nat → Int32} {σ : ib_H}
theorem jb_obj_put {t n : Nat} : ib_obj (jb_put L xs σ) t n = ib_obj σ t n := by
  unfold ib_obj
  by_cases h : n = 1
  · subst h; rfl
  · show (decide (2 ≤ n) && decide (n < ib_nx σ) && decide ((if n = 1 then (99, L) else ib_sh σ n).1 = t) && decide (t < 50)) = _
    rw [if_neg h]
theorem jb_in_put {t n : Nat} {i : Int32} : ib_in (jb_put L xs σ) t n i = ib_in σ t n i := by
  unfold ib_in
  by_cases h : n = 1
  · subst h; rfl
  · show (decide (2 ≤ n) && decide (n < ib_nx σ) && decide ((if n = 1 then (99, L) else ib_sh σ n).1 = t) && !(decide (i < 0) || decide ((if n = 1 then (99, L) else ib_sh σ n).2 ≤ i.toNatClampNeg))) = _
    rw [if_neg h]
theorem jb_I_put {n k : Nat} (h : n ≠ 1) : ib_I (jb_put L xs σ) n k = ib_I σ n k := by
  show (if n = 1 then xs k else ib_I σ n k) = _
  rw [if_neg h]
theorem jb_sh_put {n : Nat} (h : n ≠ 1) : ib_sh (jb_put L xs σ) n = ib_sh σ n := by
  show (if n = 1 then (99, L) else ib_sh σ n) = _
  rw [if_neg h]
theorem jb_setI_put {n k : Nat} {x : Int32} (h : n ≠ 1) : ib_setI (jb_put L xs σ) n k x = jb_put L xs (ib_setI σ n k x) := by
  unfold ib_setI jb_put
  simp only [Prod.mk.injEq, true_and, and_true]
  funext a b
  unfold ib_u
  dsimp only
  by_cases e : a = 1
  · rw [if_neg (fun z => h (z.1.symm.trans e)), if_pos e, if_pos e]
  · rw [if_neg e, if_neg e]
theorem jb_new_put {t len sl : Nat} (h : 2 ≤ ib_nx σ) : ib_new (jb_put L xs σ) t len sl = jb_put L xs (ib_new σ t len sl) := by
  unfold ib_new jb_put
  simp only [Prod.mk.injEq, true_and, and_true]
  constructor
  · funext a
    by_cases e : a = 1
    · rw [if_neg (by show ¬ a = σ.1.1; have : 2 ≤ σ.1.1 := h; omega), if_pos e, if_pos e]
    · rw [if_neg e, if_neg e]
  · funext a b
    unfold ib_z
    dsimp only
    by_cases e : a = 1
    · rw [if_neg (by show ¬ a = σ.1.1; have : 2 ≤ σ.1.1 := h; omega), if_pos e, if_pos e]
    · rw [if_neg e, if_neg e]
theorem jb_ob1 {t n : Nat} (h : ib_obj σ t n = true) : n ≠ 1 := by
  have := (ib_obj_of h).1
  intro z
  rw [z] at this
  exact absurd this (by decide)
theorem jb_in1 {t n : Nat} {i : Int32} (h : ib_in σ t n i = true) : n ≠ 1 := by
  have := (ib_in_of h).1
  intro z
  rw [z] at this
  exact absurd this (by decide)
theorem jb_at_put {ks : Nat → Nat → Nat} {fn : Nat → Nat} {q : ib_A} {pc : Nat} {ls : ib_Ls} {st : List Value} (h2 : 2 ≤ ib_nx σ) (h1 : ∀ n, Value.ref n ∈ st → n ≠ 1) : ib_at ks fn q pc ls st (jb_put L xs σ) = (ib_at ks fn q pc ls st σ).map (jb_pm L xs) := by
  unfold ib_at ib_ldI ib_ldA ib_sto ib_stoA
  simp only [jb_obj_put, jb_in_put]
  split
  all_goals (try rfl)
  all_goals (try (split <;> (try rfl)))
  all_goals (try (split <;> (try rfl)))
  all_goals (try (split <;> (try rfl)))
  all_goals first
    | (split <;> rfl)
    | (rw [jb_new_put h2]; rfl)
    | (rw [jb_I_put (jb_ob1 (by assumption))]; rfl)
    | (rw [jb_I_put (jb_in1 (by assumption))]; rfl)
    | (rw [jb_setI_put (jb_in1 (by assumption))]; rfl)
    | (rename_i hx; rw [Bool.and_eq_true] at hx; rw [jb_setI_put (jb_ob1 hx.1)]; rfl)
    | (rename_i hx; rw [Bool.and_eq_true] at hx; rw [jb_setI_put (jb_in1 hx.1)]; rfl)
    | (rename_i hx; exact absurd hx (h1 _ (by simp)))
    | (rename_i hx _; exact absurd hx (h1 _ (by simp)))
    | (rename_i hx; rw [jb_sh_put (h1 _ (by simp))] at hx ⊢; refine Eq.trans ?_ (congrArg (Option.map (jb_pm L xs)) (if_pos hx)).symm; rfl)
    | (rename_i hx; rw [jb_sh_put (h1 _ (by simp))] at hx; refine Eq.trans ?_ (congrArg (Option.map (jb_pm L xs)) (if_neg hx)).symm; rfl)
end JbT
