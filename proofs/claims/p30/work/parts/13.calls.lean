/-! throws, calls, what is caught -/
theorem ib_txc_at {mi : Nat} : ∀ (l : List (Option ib_A)) (pc k : Nat) (q : ib_A), ib_txc mi pc l = true → l[k]? = some (some q) → (∃ idx, q.1 = .new idx) → 100 ≤ q.2.1 → ib_txin mi (pc + k) q.2.1 = true := by
  intro l
  induction l with
  | nil => intro pc k q _ h; simp at h
  | cons a r ih =>
    intro pc k q hc h hn hq
    cases k with
    | zero =>
      rw [List.getElem?_cons_zero] at h
      cases h
      obtain ⟨idx, hn⟩ := hn
      simp only [ib_txc, Bool.and_eq_true, hn, Bool.or_eq_true, decide_eq_true_eq] at hc
      rcases hc.1 with z | z
      · omega
      · exact z
    | succ k =>
      rw [List.getElem?_cons_succ] at h
      have h2 : ib_txc mi (pc + 1) r = true := by
        cases a with
        | none => exact hc
        | some z => simp only [ib_txc, Bool.and_eq_true] at hc; exact hc.2
      have := ih (pc + 1) k q h2 h hn hq
      rw [show pc + (k + 1) = pc + 1 + k by omega]
      exact this
theorem ib_txcs_at : ∀ (l : List ib_M) (i k : Nat) (M : ib_M), ib_txcs i l = true → l[k]? = some M → ib_txc (i + k) 0 M.2.2.2.2.2 = true := by
  intro l
  induction l with
  | nil => intro i k M _ h; simp at h
  | cons a r ih =>
    intro i k M hc h
    simp only [ib_txcs, Bool.and_eq_true] at hc
    cases k with
    | zero => rw [List.getElem?_cons_zero] at h; cases h; exact hc.1
    | succ k =>
      rw [List.getElem?_cons_succ] at h
      rw [show i + (k + 1) = i + 1 + k by omega]
      exact ih (i + 1) k M hc.2 h
theorem ib_tx_of {mi pc : Nat} {M : ib_M} {q : ib_A} (hM : ib_Ms mi = some M) (hq : M.2.2.2.2.2[pc]? = some (some q)) (hn : ∃ idx, q.1 = .new idx) (h1 : 100 ≤ q.2.1) : ∃ t, ib_txok t = true ∧ t.1 = mi ∧ t.2.1 = pc ∧ q.2.1 = 100 + t.2.2.2.2.2.1 := by
  have h := ib_txc_at _ 0 pc q (by have := ib_txcs_at _ 0 mi M ib_txcs_all hM; rw [Nat.zero_add] at this; exact this) hq hn h1
  rw [Nat.zero_add] at h
  unfold ib_txin at h
  rw [List.any_eq_true] at h
  obtain ⟨t, ht, h⟩ := h
  simp only [Bool.and_eq_true, decide_eq_true_eq] at h
  exact ⟨t, List.all_eq_true.mp ib_tx_all t ht, h.1.1, h.1.2, h.2⟩
theorem ib_xl_ok {own : String} {ic k : Nat} (h : (own, ic, k) ∈ ib_xl) : ib_xok own ic k = true := by
  unfold ib_xl at h
  simp only [List.mem_cons, Prod.mk.injEq, List.not_mem_nil, or_false] at h
  rcases h with ⟨rfl, rfl, rfl⟩ | ⟨rfl, rfl, rfl⟩ | ⟨rfl, rfl, rfl⟩
  · exact ib_xok0
  · exact ib_xok1
  · exact ib_xok2
/-! a method as a callee -/
theorem ib_moks_at : ∀ (l : List ib_M) (s : List (Nat × Nat × Nat × Nat × Nat)) (k : Nat) (q : Nat × Nat × Nat × Nat × Nat), ib_moks l s = true → s[k]? = some q → ∃ M, l[k]? = some M ∧ ib_mok M q = true := by
  intro l
  induction l with
  | nil => intro s k q h hq; cases s with
    | nil => simp at hq
    | cons a r => simp [ib_moks] at h
  | cons M r ih =>
    intro s k q h hq
    cases s with
    | nil => simp at hq
    | cons a t =>
      simp only [ib_moks, Bool.and_eq_true] at h
      cases k with
      | zero => rw [List.getElem?_cons_zero] at hq; cases hq; exact ⟨M, rfl, h.1⟩
      | succ k => rw [List.getElem?_cons_succ] at hq; rw [List.getElem?_cons_succ]; exact ih t k q h.2 hq
theorem ib_nolaw : ((ib_ms.take 154).all fun M => decide (M.1 ≠ yL_law)) = true ∧ ib_mi.length = 154 := by decide +kernel
theorem ib_cw_ok {k : Nat} {C : ib_M} (hk : k < 154) (hC : ib_Ms k = some C) : ib_cw C ∈ tables_1 := by
  have h1 : C ∈ ib_ms.take 154 := List.mem_of_getElem? (i := k) (by rw [List.getElem?_take, if_pos hk]; exact hC)
  have h2 := List.all_eq_true.mp ib_nolaw.1 C h1
  replace h2 := of_decide_eq_true h2
  have h3 : C ∈ ib_ms := List.mem_of_mem_take h1
  rw [ib_ms_eq] at h3
  simp only [List.mem_append, List.mem_singleton] at h3
  rcases h3 with h | h | h | h | h | h
  · exact ib_cwA0 C h
  · exact ib_cwA1 C h
  · exact ib_cwA2 C h
  · exact ib_cwA3 C h
  · exact ib_cwA4 C h
  · rw [h] at h2
    exact absurd rfl h2
theorem ib_cw_good (C : ib_M) : goodWord (ib_cw C) = true := by
  unfold ib_cw
  split <;> rfl
/-- what the tables say of a callee of kind kk -/
def ib_cal (C : ib_M) (kk : Nat) : Prop := plainName C.1.cls = true ∧ (∀ w ∈ ib_cw C :: ib_tG, w ∈ ib_tG) ∧ Cond.initialized C.1.cls ∈ ib_tG ∧ C.1.cls ≠ "java/lang/invoke/MethodHandle" ∧ C.1.cls ≠ "java/lang/invoke/VarHandle" ∧ ib_hok C = true ∧ (kk = 0 → Cond.static C.1 ∈ ib_tG) ∧ (kk ≠ 0 → Cond.instanceMethod C.1 ∈ ib_tG ∧ C.2.2.2.2.1 = []) ∧ (kk = 1 ∨ kk = 2 → Cond.selects C.1.cls C.1 C.1 ∈ ib_tG)
theorem ib_cal_of {a1 kk : Nat} {C : ib_M} (hC : ib_Ms a1 = some C) (hk : ib_kd a1 = kk) (h9 : kk ≠ 9) : ib_cal C kk := by
  unfold ib_kd at hk
  cases hq : ib_mi[a1]? with
  | none => rw [hq] at hk; exact absurd hk.symm h9
  | some q =>
    rw [hq] at hk
    have hk : q.2.2.2.1 = kk := hk
    have hlt : a1 < 154 := by
      have := (List.getElem?_eq_some_iff.mp hq).1
      rw [ib_nolaw.2] at this
      exact this
    obtain ⟨C', hC', ho⟩ := ib_moks_at _ _ a1 q ib_moks_all hq
    cases Option.some.inj (hC'.symm.trans hC)
    simp only [ib_mok, Bool.and_eq_true, Bool.or_eq_true, decide_eq_true_eq, hk] at ho
    obtain ⟨⟨⟨⟨⟨⟨⟨o1, o2⟩, o3⟩, o4⟩, o5⟩, o6⟩, o7⟩, o8⟩ := ho
    refine ⟨o1, fun w hw => ?_, ib_tG_wd o2, o3, o4, o5, fun e => ?_, fun e => ⟨?_, ?_⟩, fun e => ?_⟩
    · rcases List.mem_cons.mp hw with rfl | hw
      · exact ib_tG_of (ib_cw_ok hlt hC) (ib_cw_good _)
      · exact hw
    · rw [if_pos e] at o6; exact ib_tG_wd o6
    · rw [if_neg e] at o6; exact ib_tG_wd o6
    · rcases o8 with z | z
      · exact absurd z e
      · exact List.isEmpty_iff.mp z
    · rcases e with e | e
      · rw [if_pos e] at o7; exact ib_tG_wd o7
      · rw [if_neg (by omega), if_pos e, Bool.and_eq_true] at o7
        have h1 := of_decide_eq_true o7.1
        cases hp : lw_privs[q.2.2.2.2]? with
        | none => rw [hp] at h1; cases h1
        | some z =>
          rw [hp] at h1
          have h2 : z.1 = C.1 := Option.some.inj h1
          refine List.mem_filter.mpr ⟨?_, o7.2⟩
          unfold lw_tbl k2_sels
          refine List.mem_append_left _ (List.mem_map.mpr ⟨z, List.mem_of_getElem? hp, ?_⟩)
          rw [h2]
theorem ib_kc_at : ∀ (l : List (Option ib_A)) (k : Nat) (q : ib_A), ib_kc l = true → l[k]? = some (some q) → (match q.1 with | .invokevirtual _ => decide (ib_kd q.2.1 = 1) || decide (ib_kd q.2.1 = 2) | .invokestatic _ => decide (ib_kd q.2.1 = 0) | .invokespecial _ => decide (q.2.1 = 1000) || decide (ib_kd q.2.1 = 3) | _ => true) = true := by
  intro l
  induction l with
  | nil => intro k q _ h; simp at h
  | cons a r ih =>
    intro k q hc h
    cases k with
    | zero =>
      rw [List.getElem?_cons_zero] at h
      cases h
      rw [ib_kc, Bool.and_eq_true] at hc
      exact hc.1
    | succ k =>
      rw [List.getElem?_cons_succ] at h
      refine ih k q ?_ h
      cases a with
      | none => exact hc
      | some z => rw [ib_kc, Bool.and_eq_true] at hc; exact hc.2
