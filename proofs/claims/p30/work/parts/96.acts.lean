/-! A SMALL ACTION'S RECORD, class and reference alike -/
theorem jr_I.same {K : jc_K} {G : jg_G} {q : Nat} {r m : Int} {c c' : Int → jp_C} {P : Int → Prop} (h : jI K q m c P) (h' : jr_I G r m c' P) (hm : m ≤ 3) : ∀ k, 0 ≤ k → k < m → jc_i K (q + 1) k = G 106 (3 * r + k) := by
  have s := h.2.2.1
  have s' := h'.2.2.1
  have e : ∀ k, 0 ≤ k → k < m → ∃ j, 0 ≤ j ∧ j < m ∧ G 106 (3 * r + j) = jc_i K (q + 1) k := fun k k0 k1 => h'.2.2.2 _ (h.2.1 k k0 k1).2.2
  have s0 := s 0 (by omega)
  have s1 := s 1 (by omega)
  have s0' := s' 0 (by omega)
  have s1' := s' 1 (by omega)
  rw [show (0 : Int) + 1 = 1 by omega] at s0 s0'
  rw [show (1 : Int) + 1 = 2 by omega] at s1 s1'
  have v : ∀ k, 0 ≤ k → k < m → (jc_i K (q + 1) k = G 106 (3 * r + 0)) ∨ (1 < m ∧ jc_i K (q + 1) k = G 106 (3 * r + 1)) ∨ (2 < m ∧ jc_i K (q + 1) k = G 106 (3 * r + 2)) := fun k k0 k1 => by
    obtain ⟨j, j0, j1, j2⟩ := e k k0 k1
    rcases (show j = 0 ∨ j = 1 ∨ j = 2 by omega) with z | z | z <;> subst z
    · exact Or.inl j2.symm
    · exact Or.inr (Or.inl ⟨j1, j2.symm⟩)
    · exact Or.inr (Or.inr ⟨j1, j2.symm⟩)
  have e' : ∀ k, 0 ≤ k → k < m → ∃ j, 0 ≤ j ∧ j < m ∧ jc_i K (q + 1) j = G 106 (3 * r + k) := fun k k0 k1 => h.2.2.2 _ (h'.2.1 k k0 k1).2.2
  have v' : ∀ k, 0 ≤ k → k < m → (G 106 (3 * r + k) = jc_i K (q + 1) 0) ∨ (1 < m ∧ G 106 (3 * r + k) = jc_i K (q + 1) 1) ∨ (2 < m ∧ G 106 (3 * r + k) = jc_i K (q + 1) 2) := fun k k0 k1 => by
    obtain ⟨j, j0, j1, j2⟩ := e' k k0 k1
    rcases (show j = 0 ∨ j = 1 ∨ j = 2 by omega) with z | z | z <;> subst z
    · exact Or.inl j2.symm
    · exact Or.inr (Or.inl ⟨j1, j2.symm⟩)
    · exact Or.inr (Or.inr ⟨j1, j2.symm⟩)
  intro k k0 k1
  have v0 := v 0 (by omega) (by omega)
  have v0' := v' 0 (by omega) (by omega)
  rcases (show m = 1 ∨ m = 2 ∨ m = 3 by omega) with z | z | z
  · subst z
    have : k = 0 := by omega
    subst this
    omega
  · subst z
    have v1 := v 1 (by omega) (by omega)
    have v1' := v' 1 (by omega) (by omega)
    have t0 := s0 (by omega)
    have t0' := s0' (by omega)
    rcases (show k = 0 ∨ k = 1 by omega) with z | z <;> subst z <;> omega
  · subst z
    have v1 := v 1 (by omega) (by omega)
    have v1' := v' 1 (by omega) (by omega)
    have v2 := v 2 (by omega) (by omega)
    have v2' := v' 2 (by omega) (by omega)
    have t0 := s0 (by omega)
    have t0' := s0' (by omega)
    have t1 := s1 (by omega)
    have t1' := s1' (by omega)
    rcases (show k = 0 ∨ k = 1 ∨ k = 2 by omega) with z | z | z <;> subst z <;> omega
theorem ja_rec {K : jc_K} {G : jg_G} {N x q : Nat} {m w : Int} {c c' : Int → jp_C} {P : Int → Prop} (h : jB K G N x q) (hI : jI K q m c P) (hr : jr_I G ((N : Int) + 1) m c' P) (hm : 0 ≤ m ∧ m ≤ 3) (hw : 5 ≤ w ∧ w ≤ 7) (hce : ∀ y, P y → jp_e (c y) (c' y) ∧ jp_w (c' y)) (hf : jc_i K q 0 = (N : Int) + 1 ∧ jc_i K q 1 = w ∧ jc_i K q 2 = -1 ∧ jc_i K q 3 = -1 ∧ jc_i K q 6 = 0 ∧ jc_i K q 7 = -1) (hg : G 98 ((N : Int) + 1) = w ∧ G 99 ((N : Int) + 1) = -1 ∧ G 100 ((N : Int) + 1) = 0 ∧ G 101 ((N : Int) + 1) = -1 ∧ G 104 ((N : Int) + 1) = -1) : jg_rec K G ((N : Int) + 1) q ∧ jl_v G (N + 1) := by
  have ec : (((N + 1 : Nat) : Nat) : Int) = (N : Int) + 1 := by omega
  have same := jr_I.same hI hr hm.2
  obtain ⟨f0, f1, f2, f3, f6, f7⟩ := hf
  obtain ⟨g98, g99, g100, g101, g104⟩ := hg
  have row : ∀ k, 0 ≤ k → k < m → jp_e (c' (G 106 (3 * ((N : Int) + 1) + k))) (jh_row G (54 + 3 * ((N : Int) + 1 - 1) + k)) := fun k k0 k1 => by
    obtain ⟨w1, w2, w3⟩ := hr.2.1 k k0 k1
    have w5 := (hce _ w3).2.1.2
    exact w2.e2 (jh_row_r (by rw [w2.2.1]; exact w5))
  have hk : ∀ k, 0 ≤ k → k < m → jh_k G ((N : Int) + 1) (G 106 (3 * ((N : Int) + 1) + k)) = k := fun k k0 k1 => by
    have s := hr.2.2.1
    have s0 := s 0 (by omega)
    have s1 := s 1 (by omega)
    rw [show (0 : Int) + 1 = 1 by omega] at s0
    rw [show (1 : Int) + 1 = 2 by omega] at s1
    have z0 : 3 * ((N : Int) + 1) + 0 = 3 * ((N : Int) + 1) := by omega
    rw [z0] at s0
    unfold jh_k
    rw [hr.1]
    rcases (show k = 0 ∨ k = 1 ∨ k = 2 by omega) with e | e | e <;> subst e
    · rw [z0, if_pos ⟨by omega, rfl⟩]
    · have := s0 (by omega)
      rw [if_neg (fun z => by have := z.2; omega), if_pos ⟨by omega, rfl⟩]
    · have := s0 (by omega)
      have := s1 (by omega)
      rw [if_neg (fun z => by have := z.2; omega), if_neg (fun z => by have := z.2; omega), if_pos ⟨by omega, rfl⟩]
  refine ⟨⟨h.2.2.2.2.1.2, ⟨f0, by rw [f1, g98], by rw [f2, g99], by rw [f3, g101], by rw [f6, g100], by rw [f7, g104], by rw [hI.1, hr.1]⟩, fun z => by omega, fun z => by omega, fun k k0 k1 => ?_, fun _ k k0 k1 => ?_, fun z => by omega⟩, ?_⟩
  · rw [hr.1] at k1; exact same k k0 k1
  · rw [hr.1] at k1
    obtain ⟨w1, w2, w3⟩ := hI.2.1 k k0 k1
    rw [same k k0 k1] at w2 w3
    refine ⟨w1, (w2.e (hce _ w3).1).e (row k k0 k1)⟩
  · unfold jl_v
    rw [ec, g98, hr.1]
    refine ⟨by omega, hm, fun k k0 k1 => ⟨(hr.2.1 k k0 k1).1, hk k k0 k1⟩, fun z => by omega, fun _ _ => hw.1, fun p p0 p1 => ?_⟩
    have wp := (h.seen ⟨p0, p1⟩).2.2.2.2.2
    show jp_w (if jh_k G ((N : Int) + 1) p = -1 then jh G N p else if G 98 ((N : Int) + 1) ≤ 1 then _ else jh_row G (54 + 3 * (N : Int) + jh_k G ((N : Int) + 1) p))
    by_cases e : jh_k G ((N : Int) + 1) p = -1
    · rw [if_pos e]; exact wp
    · rw [if_neg e, if_neg (by omega)]
      have b := jh_k_b G ((N : Int) + 1) p
      have b2 := b.2.2 (by omega)
      rw [hr.1] at b2
      have := row _ (by omega) b2.1
      rw [b2.2, show (54 : Int) + 3 * ((N : Int) + 1 - 1) = 54 + 3 * (N : Int) by omega] at this
      have w3 := (hr.2.1 _ (by omega) b2.1).2.2
      rw [b2.2] at w3
      exact (hce _ w3).2.e this
