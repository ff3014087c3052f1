/-! MARK: the record, the class -/
theorem jmk_g {K : jc_K} {G : jg_G} {N x q len : Nat} {fld : Int} (h : jB K G N x q) (hf : (fld = 11 ∧ len = 4) ∨ (fld = 12 ∧ len = 24)) : ∃ K0 a, ((jc_p K q fld = a ∧ a ≠ 0 ∧ K0 = K) ∨ (jc_p K q fld = 0 ∧ a = K.1.1 ∧ K0 = jc_up (jc_na K len) q fld K.1.1)) ∧ jB K0 G N x q ∧ jk_b K K0 N ∧ jc_p K0 q fld = a ∧ jc_ta K0 a len ∧ jo_w K0 N a ∧ (∀ i, i ≠ fld → jc_p K0 q i = jc_p K q i) ∧ (∀ n i, n < K.1.1 → jc_i K0 n i = jc_i K n i) ∧ jc_rc (jc_na K len) q ∧ q ≠ a := by
  have hqe := h.2.2.2.2.1.1
  have hq := h.2.2.2.2.1.2
  have hN := h.2.2.2.2.2
  obtain ⟨d1, ⟨τ, d2⟩, d3⟩ := h.2.2.2.1.1
  have q120 := hq.1
  by_cases z : jc_p K q fld = 0
  · obtain ⟨b1, b2, b3, b4, b5, b6⟩ := h.arr hf z
    have e : jc_p (jc_up (jc_na K len) q fld K.1.1) q fld = K.1.1 := by rw [b5, if_pos ⟨rfl, rfl⟩]
    refine ⟨_, K.1.1, Or.inr ⟨z, rfl, rfl⟩, b1, b2, e, b4, ?_, fun i hi => by rw [b5, if_neg (fun y => hi y.2), if_neg (by omega)], fun n i hn => by rw [b6, if_neg (by omega)], b3, by omega⟩
    have e64 := b1.2.2.2.2.1.1
    refine ⟨by rw [e64]; omega, Or.inr (Or.inr ?_)⟩
    rw [e64]
    rcases hf with ⟨f, _⟩ | ⟨f, _⟩
    · subst f; exact Or.inl ⟨by rw [e]; omega, e.symm⟩
    · subst f; exact Or.inr ⟨by rw [e]; omega, e.symm⟩
  · have gna : jk_g (fun _ => False) K (jc_na K len) := ⟨Nat.le_add_right _ 1, fun n hn => if_neg (by omega), fun n i hn _ => if_neg (by omega), fun n i hn _ => if_neg (by omega)⟩
    have dd := (d2 N (by omega) (by omega)).resolve_left (by rw [hqe]; omega)
    rw [hqe] at dd
    obtain ⟨⟨y1, y2⟩, z1, z2, z3, z4⟩ := dd
    have ta : jc_ta K (jc_p K q fld) len ∧ τ (jc_p K q fld) = N := by
      rcases hf with ⟨f, f'⟩ | ⟨f, f'⟩
      · subst f; subst f'; exact z3.resolve_left z
      · subst f; subst f'; exact z4.resolve_left z
    refine ⟨K, jc_p K q fld, Or.inl ⟨rfl, z, rfl⟩, h, jk_b.refl K N, rfl, ta.1, ⟨by rw [hqe]; omega, Or.inr (Or.inr ?_)⟩, fun _ _ => rfl, fun _ _ _ => rfl, gna.rc hq (fun z => z), ?_⟩
    · rw [hqe]
      rcases hf with ⟨f, _⟩ | ⟨f, _⟩
      · subst f; exact Or.inl ⟨z, rfl⟩
      · subst f; exact Or.inr ⟨z, rfl⟩
    · intro e
      have s1 := hq.2.1.1
      have s2 := ta.1.2.2
      rw [← e, s1] at s2
      rcases hf with ⟨_, f'⟩ | ⟨_, f'⟩ <;> (subst f'; exact absurd s2 (by decide))
theorem jmk_c {K : jc_K} {G : jg_G} {N x q : Nat} (h : jB K G N x q) (hb : ∀ f, 0 ≤ f → f < 4 → jc_i K 68 f < 24) (hu : ∀ f f', 0 ≤ f → f < 4 → 0 ≤ f' → f' < 4 → 0 ≤ jc_i K 68 f → jc_i K 68 f = jc_i K 68 f' → f = f') : ∃ K1 K2, fc67 K q = some (K1, 0) ∧ fc10 K1 q = some (K2, 0) ∧ jB K2 G N x q ∧ jk_b K K2 N ∧ (∀ i, jc_i K2 q i = jc_i K q i) ∧ (jc_ta K2 (jc_p K2 q 11) 4 ∧ ∀ t, 0 ≤ t → t < 4 → jc_i K2 (jc_p K2 q 11) t = if jc_i K 58 t = 0 then 0 else jc_i K 59 t) ∧ jc_ta K2 (jc_p K2 q 12) 24 ∧ (∀ f, 0 ≤ f → f < 4 → 0 ≤ jc_i K 68 f → jc_i K2 (jc_p K2 q 12) (jc_i K 68 f) = jc_i K 70 f) ∧ ∀ p, 0 ≤ p → p < 24 → (∀ f, 0 ≤ f → f < 4 → jc_i K 68 f ≠ p) → jc_i K2 (jc_p K2 q 12) p = 0 := by
  have hq := h.2.2.2.2.1.2
  have n120 := h.2.2.2.1.1.1
  have q120 := hq.1
  obtain ⟨K0, a, a0, a1, a2, a3, a4, a5, a6, a7, a8, a9⟩ := jmk_g h (Or.inl ⟨rfl, rfl⟩)
  have rc0 := a1.2.2.2.2.1.2
  obtain ⟨K1, b1, b2, b3, b4⟩ := jk_67l jo_N 0 K0 (by decide) (by decide) (by unfold jo_N; omega) rc0 a3 a4
  have e67 : fc67 K q = some (K1, 0) := by
    unfold fc67
    rw [if_pos hq, jo_lne]
    rcases a0 with ⟨c1, c2, c3⟩ | ⟨c1, c2, c3⟩
    · rw [c1, if_neg c2, ← c3]; exact b1
    · rw [if_pos c1, jo_lne, if_pos a8, ← c3]; exact b1
  have B1 : jB K1 G N x q := a1.s b2 (fun n e => by rw [e]; exact a5) (jr_b.refl _ _)
  have p1 : ∀ n i, jc_p K1 n i = jc_p K0 n i := fun n i => by unfold jc_p; rw [b2.1.2.2]
  have kb1 : jk_b K K1 N := a2.trans ⟨(jk_g.s b2).mono (fun n e => by rw [e]; exact a5), fun n hn => Or.inl (by unfold jo_w at *; simp only [p1] at hn; exact hn)⟩
  have q0 : q < K.1.1 := by omega
  have n0 : K.1.1 ≤ K0.1.1 := a2.1.1
  have n1 : K0.1.1 = K1.1.1 := by rw [b2.1.1]
  have i1 : ∀ n i, n < K.1.1 → n ≠ a → jc_i K1 n i = jc_i K n i := fun n i hn ha => by rw [b2.2 n ha, a7 n i hn]
  have sm : ∀ n i, n < 98 → jc_i K1 n i = jc_i K n i := fun n i hn => i1 n i (by omega) (by have := a4.1; omega)
  obtain ⟨K0', a', a0', a1', a2', a3', a4', a5', a6', a7', a8', a9'⟩ := jmk_g B1 (Or.inr ⟨rfl, rfl⟩)
  have rc0' := a1'.2.2.2.2.1.2
  have e68 : ∀ f, jc_i K0' 68 f = jc_i K 68 f := fun f => by rw [a7' 68 f (by omega), sm 68 f (by decide)]
  have e70 : ∀ f, jc_i K0' 70 f = jc_i K 70 f := fun f => by rw [a7' 70 f (by omega), sm 70 f (by decide)]
  obtain ⟨K2, d1, d2, d3, d4⟩ := jk_17l jo_N 0 K0' (by decide) (by decide) (by unfold jo_N; omega) rc0' a3' a4' (fun f f0 f1 => by rw [e68]; exact hb f f0 f1) (fun f f' f0 f1 g0 g1 hz hw => by
    rw [e68] at hz
    rw [e68, e68] at hw
    exact hu f f' f0 f1 g0 g1 hz hw) (fun p p0 p1 => by omega)
  simp only [e68, e70] at d3 d4
  have e10 : fc10 K1 q = some (K2, 0) := by
    unfold fc10
    rw [if_pos B1.2.2.2.2.1.2, jo_lne]
    rcases a0' with ⟨c1, c2, c3⟩ | ⟨c1, c2, c3⟩
    · rw [c1, if_neg c2, ← c3]; exact d1
    · rw [if_pos c1, jo_lne, if_pos a8', ← c3]; exact d1
  have B2 : jB K2 G N x q := a1'.s d2 (fun n e => by rw [e]; exact a5') (jr_b.refl _ _)
  have p2 : ∀ n i, jc_p K2 n i = jc_p K0' n i := fun n i => by unfold jc_p; rw [d2.1.2.2]
  have kb2 : jk_b K1 K2 N := a2'.trans ⟨(jk_g.s d2).mono (fun n e => by rw [e]; exact a5'), fun n hn => Or.inl (by unfold jo_w at *; simp only [p2] at hn; exact hn)⟩
  have e11 : jc_p K2 q 11 = a := by rw [p2, a6' 11 (by decide), p1, a3]
  have e12 : jc_p K2 q 12 = a' := by rw [p2, a3']
  have ta1 : jc_ta K1 a 4 := (jk_g.s b2).ta a4
  have ta2 : jc_ta K2 a 4 := (jk_g.s d2).ta (a2'.1.ta ta1)
  have ta3 : jc_ta K2 a' 24 := (jk_g.s d2).ta a4'
  have ne : a ≠ a' := fun e => by
    have s1 := ta2.2.2
    have s2 := ta3.2.2
    rw [e, s2] at s1
    exact absurd s1 (by decide)
  refine ⟨K1, K2, e67, e10, B2, kb1.trans kb2, fun i => ?_, ⟨by rw [e11]; exact ta2, fun t t0 t1 => ?_⟩, by rw [e12]; exact ta3, fun f f0 f1 hf => by rw [e12]; exact d3 f f0 f1 hf, fun p p0 p1 hp => by rw [e12]; exact d4 p p0 p1 hp⟩
  · rw [d2.2 q a9', a7' q i (by omega), b2.2 q a9, a7 q i q0]
  · rw [e11, d2.2 a ne, a7' a t (by have := a4.2.1; omega), b3 t t0 t1, a7 58 t (by omega), a7 59 t (by omega)]
