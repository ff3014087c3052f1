/-! MARK: the places of its numbers -/
theorem jB.arr {K : jc_K} {G : jg_G} {N x q len : Nat} {fld : Int} (h : jB K G N x q) (hf : (fld = 11 ∧ len = 4) ∨ (fld = 12 ∧ len = 24)) (hz : jc_p K q fld = 0) : jB (jc_up (jc_na K len) q fld K.1.1) G N x q ∧ jk_b K (jc_up (jc_na K len) q fld K.1.1) N ∧ jc_rc (jc_na K len) q ∧ jc_ta (jc_up (jc_na K len) q fld K.1.1) K.1.1 len ∧ (∀ n i, jc_p (jc_up (jc_na K len) q fld K.1.1) n i = if n = q ∧ i = fld then K.1.1 else if n = K.1.1 then 0 else jc_p K n i) ∧ ∀ n i, jc_i (jc_up (jc_na K len) q fld K.1.1) n i = if n = K.1.1 then 0 else jc_i K n i := by
  have hq := h.2.2.2.2.1.2
  have hqe := h.2.2.2.2.1.1
  have hD := h.2.2.2.1.1
  have hR := h.2.2.2.1.2
  have hN := h.2.2.2.2.2
  have own := h.own
  have h120 := hD.1
  have q2 := hq.1
  have e1 : (jc_na K len).1 = (K.1.1 + 1, K.1.2.1 + 1, K.1.2.2 + len) := rfl
  have sh : ∀ n, (jc_na K len).2.1 n = if n = K.1.1 then (100, len) else K.2.1 n := fun n => rfl
  have pt : ∀ n i, jc_p (jc_na K len) n i = if n = K.1.1 then 0 else jc_p K n i := fun n i => rfl
  have it : ∀ n i, jc_i (jc_na K len) n i = if n = K.1.1 then 0 else jc_i K n i := fun n i => rfl
  have gna : jk_g (fun _ => False) K (jc_na K len) := ⟨by rw [e1]; exact Nat.le_add_right _ 1, fun n hn => by rw [sh, if_neg (by omega)], fun n i hn _ => by rw [pt, if_neg (by omega)], fun n i hn _ => by rw [it, if_neg (by omega)]⟩
  have rc1 : jc_rc (jc_na K len) q := gna.rc hq (fun z => z)
  have g : jk_g (jo_w K N) K (jc_up (jc_na K len) q fld K.1.1) := (gna.mono (fun n z => z.elim)).trans (jk_g.up (Or.inl own.1))
  have up : ∀ n i, jc_p (jc_up (jc_na K len) q fld K.1.1) n i = if n = q ∧ i = fld then K.1.1 else if n = K.1.1 then 0 else jc_p K n i := fun n i => rfl
  have ui : ∀ n i, jc_i (jc_up (jc_na K len) q fld K.1.1) n i = if n = K.1.1 then 0 else jc_i K n i := fun n i => rfl
  have p64 : ∀ i, jc_p (jc_up (jc_na K len) q fld K.1.1) 64 i = jc_p K 64 i := fun i => by rw [up, if_neg (by omega), if_neg (by omega)]
  have pq : ∀ i, jc_p (jc_up (jc_na K len) q fld K.1.1) q i = if i = fld then K.1.1 else jc_p K q i := fun i => by
    rw [up]
    by_cases e : i = fld
    · rw [if_pos ⟨rfl, e⟩, if_pos e]
    · rw [if_neg (fun z => e z.2), if_neg e, if_neg (by omega)]
  have pq2 : ∀ i, jc_p (jc_up (jc_na K len) q fld K.1.1) (q + 2) i = jc_p K (q + 2) i := fun i => by rw [up, if_neg (by omega), if_neg (by omega)]
  have nx : (jc_up (jc_na K len) q fld K.1.1).1 = (K.1.1 + 1, K.1.2.1 + 1, K.1.2.2 + len) := rfl
  have rc2 : jc_rc (jc_up (jc_na K len) q fld K.1.1) q := by
    obtain ⟨a, b, c, d⟩ := rc1
    refine ⟨a, b, ?_, ?_⟩
    · show jc_p (jc_up (jc_na K len) q fld K.1.1) q 9 = q + 1
      rw [pq, if_neg (by omega)]
      exact hq.2.2.1
    · show jc_p (jc_up (jc_na K len) q fld K.1.1) q 10 = q + 2
      rw [pq, if_neg (by omega)]
      exact hq.2.2.2
  have ta1 : jc_ta (jc_up (jc_na K len) q fld K.1.1) K.1.1 len := ⟨h120, by rw [nx]; show K.1.1 < K.1.1 + 1; omega, by show (jc_na K len).2.1 K.1.1 = _; rw [sh, if_pos rfl]⟩
  have ta2 : ∀ p n, jc_ta K p n → jc_ta (jc_up (jc_na K len) q fld K.1.1) p n := fun p n hp => g.ta hp
  have pg2 : ∀ p, jc_pg K p → jc_pg (jc_up (jc_na K len) q fld K.1.1) p := fun p hp => jc_pg_k (gna.pg hp (fun z => z)) rfl rfl (by
    have ne : p ≠ q := fun e => by
      have := hp.2.1.1
      rw [e, hq.2.1.1] at this
      exact absurd this (by decide)
    rw [up, if_neg (fun z => ne z.1), pt])
  generalize jc_up (jc_na K len) q fld K.1.1 = Kp at g p64 pq pq2 nx rc2 ta1 ta2 up ui pg2 ⊢
  have kb : jk_b K Kp N := by
    refine ⟨g, fun n hn => ?_⟩
    obtain ⟨n0, n1⟩ := hn
    rw [p64, hqe] at n0 n1
    rw [pq, pq] at n1
    simp only [pq2] at n1
    rcases n1 with w | ⟨k, k0, k1, k2, w⟩ | w | w
    · exact Or.inl ⟨by rw [hqe]; exact n0, Or.inl (by rw [hqe]; exact w)⟩
    · exact Or.inl ⟨by rw [hqe]; exact n0, Or.inr (Or.inl ⟨k, k0, k1, by rw [hqe]; exact k2, by rw [hqe]; exact w⟩)⟩
    · by_cases e : (11 : Int) = fld
      · rw [if_pos e] at w; exact Or.inr (by omega)
      · rw [if_neg e] at w; exact Or.inl ⟨by rw [hqe]; exact n0, Or.inr (Or.inr (Or.inl (by rw [hqe]; exact w)))⟩
    · by_cases e : (12 : Int) = fld
      · rw [if_pos e] at w; exact Or.inr (by omega)
      · rw [if_neg e] at w; exact Or.inl ⟨by rw [hqe]; exact n0, Or.inr (Or.inr (Or.inr (by rw [hqe]; exact w)))⟩
  have dd : jD Kp := by
    refine hD.step hN g (by rw [hqe]; omega) (fun τ d => ?_) ?_
    · rw [hqe] at d ⊢
      obtain ⟨⟨y1, y2⟩, z1, z2, z3, z4⟩ := d
      refine ⟨⟨rc2, (if_pos (by omega)).trans y2⟩, fun k k0 k1 => ?_, fun k k' k0 k1 k0' k1' hne hz' => ?_, ?_, ?_⟩
      · rw [pq2]
        rcases z1 k k0 k1 with w | ⟨w1, w2, w3⟩
        · exact Or.inl w
        · exact Or.inr ⟨w1, pg2 _ w2, (if_pos (by have := w2.1; omega)).trans w3⟩
      · rw [pq2] at hz' ⊢
        rw [pq2]
        exact z2 k k' k0 k1 k0' k1' hne hz'
      · rw [pq]
        by_cases e : (11 : Int) = fld
        · rw [if_pos e]
          exact Or.inr ⟨by rw [show len = 4 by omega] at ta1; exact ta1, if_neg (by omega)⟩
        · rw [if_neg e]
          exact z3.imp id (fun w => ⟨ta2 _ _ w.1, (if_pos w.1.2.1).trans w.2⟩)
      · rw [pq]
        by_cases e : (12 : Int) = fld
        · rw [if_pos e]
          exact Or.inr ⟨by rw [show len = 24 by omega] at ta1; exact ta1, if_neg (by omega)⟩
        · rw [if_neg e]
          exact z4.imp id (fun w => ⟨ta2 _ _ w.1, (if_pos w.1.2.1).trans w.2⟩)
    · rw [nx]
      unfold jw_p
      have hne : ¬ K.1.1 = 0 := by omega
      have q0 : ¬ q = 0 := by omega
      rw [p64, hqe, if_neg q0, if_neg q0, pq, pq, pq2, pq2, pq2]
      rcases hf with ⟨e, _⟩ | ⟨e, _⟩ <;> subst e <;> rw [hz] <;> simp [hne] <;> omega
  refine ⟨h.step kb dd ⟨?_, ?_⟩ rc2 (jr_b.refl _ _), kb, rc1, ta1, up, ui⟩
  · have h1 := hR.1
    rw [nx]; show K.1.2.1 + 1 ≤ K.1.1 + 1 + x; omega
  · have h2 := hR.2
    rw [nx]; show K.1.2.2 + len ≤ 324816 + 32 * (K.1.1 + 1) + 6 * x; omega
