/-! owners and room, when a record in building grows -/
theorem jD_i.g2 {K K' : jc_K} {τ τ' : Nat → Int} {i : Int} {S : Nat → Prop} (h : jD_i K τ i (jc_p K 64 i)) (h0 : jc_p K 64 i ≠ 0) (g : jk_g S K K') (hb : ∀ n, jo_w K i n → n < K.1.1 ∧ ¬ S n) (hτ : ∀ n, n < K.1.1 → τ' n = τ n) : jD_i K' τ' i (jc_p K 64 i) := by
  obtain ⟨⟨a1, a2⟩, b, c, d, e⟩ := h
  have o0 := hb _ ⟨h0, Or.inl (Or.inl rfl)⟩
  have o1 := hb _ ⟨h0, Or.inl (Or.inr (Or.inl rfl))⟩
  have o2 := hb _ ⟨h0, Or.inl (Or.inr (Or.inr rfl))⟩
  have oi : ∀ k, 0 ≤ k → k < 3 → jc_p K (jc_p K 64 i + 2) k ≠ 0 → (jc_p K (jc_p K 64 i + 2) k < K.1.1 ∧ ¬ S (jc_p K (jc_p K 64 i + 2) k)) := fun k k0 k1 k2 => hb _ ⟨h0, Or.inr (Or.inl ⟨k, k0, k1, k2, Or.inl rfl⟩)⟩
  refine ⟨⟨g.rc a1 o0.2, by rw [hτ _ o0.1]; exact a2⟩, fun k k0 k1 => ?_, fun k k' k0 k1 k0' k1' hne hz => ?_, ?_, ?_⟩
  · rw [g.2.2.1 _ _ o2.1 o2.2]
    rcases b k k0 k1 with h | ⟨h1, h2, h3⟩
    · exact Or.inl h
    · obtain ⟨w1, w2⟩ := oi k k0 k1 (by omega)
      exact Or.inr ⟨h1, g.pg h2 w2, by rw [hτ _ w1]; exact h3⟩
  · rw [g.2.2.1 _ _ o2.1 o2.2] at hz ⊢
    rw [g.2.2.1 _ _ o2.1 o2.2]
    exact c k k' k0 k1 k0' k1' hne hz
  · rw [g.2.2.1 _ _ o0.1 o0.2]
    rcases d with h | ⟨h1, h2⟩
    · exact Or.inl h
    · exact Or.inr ⟨g.ta h1, by rw [hτ _ h1.2.1]; exact h2⟩
  · rw [g.2.2.1 _ _ o0.1 o0.2]
    rcases e with h | ⟨h1, h2⟩
    · exact Or.inl h
    · exact Or.inr ⟨g.ta h1, by rw [hτ _ h1.2.1]; exact h2⟩
theorem jw_p_g2 {K K' : jc_K} {i : Int} {S : Nat → Prop} (g : jk_g S K K') (hb : ∀ n, jo_w K i n → n < K.1.1 ∧ ¬ S n) (he : jc_p K' 64 i = jc_p K 64 i) : jw_p K' i = jw_p K i := by
  unfold jw_p
  rw [he]
  by_cases h0 : jc_p K 64 i = 0
  · rw [if_pos h0, if_pos h0]
  · have o0 := hb _ ⟨h0, Or.inl (Or.inl rfl)⟩
    have o2 := hb _ ⟨h0, Or.inl (Or.inr (Or.inr rfl))⟩
    rw [g.2.2.1 _ _ o2.1 o2.2, g.2.2.1 _ _ o2.1 o2.2, g.2.2.1 _ _ o2.1 o2.2, g.2.2.1 _ _ o0.1 o0.2, g.2.2.1 _ _ o0.1 o0.2]
theorem jD.step {K K' : jc_K} {N : Nat} (hD : jD K) (hN : N < 1100) (g : jk_g (jo_w K N) K K') (h0 : jc_p K 64 N ≠ 0) (hn : ∀ τ : Nat → Int, jD_i K τ N (jc_p K 64 N) → jD_i K' (fun n => if n < K.1.1 then τ n else N) N (jc_p K 64 N)) (hs : K'.1.1 + jw_p K' N = K.1.1 + jw_p K N) : jD K' := by
  have hb : ∀ i : Int, 0 ≤ i → i < 1100 → i ≠ N → ∀ n, jo_w K i n → n < K.1.1 ∧ ¬ jo_w K N n := fun i i0 i1 hne n hn => ⟨(hD.own_b ⟨i0, i1⟩ hn).2, fun z => hD.own ⟨i0, i1⟩ (by omega) hne hn z⟩
  have h64 : ∀ i, jc_p K' 64 i = jc_p K 64 i := fun i => g.2.2.1 64 i (by have := hD.1; omega) (fun z => by have := hD.own_b (by omega) z; omega)
  obtain ⟨a, ⟨τ, b⟩, c⟩ := hD
  refine ⟨Nat.le_trans a g.1, ⟨fun n => if n < K.1.1 then τ n else N, fun i i0 i1 => ?_⟩, ?_⟩
  · rw [h64]
    by_cases e : i = N
    · subst e
      exact Or.inr (hn τ ((b _ i0 i1).resolve_left h0))
    · by_cases z : jc_p K 64 i = 0
      · exact Or.inl z
      · exact Or.inr (((b i i0 i1).resolve_left z).g2 z g (hb i i0 i1 e) (fun n hn => if_pos hn))
  · have e : ∀ i : Nat, i < 1100 → i ≠ N → jw_p K' i = jw_p K i := fun i hi hne => jw_p_g2 g (hb i (by omega) (by omega) (by omega)) (h64 i)
    by_cases le : jw_p K' N ≤ jw_p K N
    · have := jw_sum_u (K := K) (K' := K') (j := N) (d := jw_p K N - jw_p K' N) (by omega) 1100 hN e
      omega
    · have := jw_sum_u (K := K') (K' := K) (j := N) (d := jw_p K' N - jw_p K N) (by omega) 1100 hN (fun i hi hne => (e i hi hne).symm)
      have := g.1
      omega
/-- a place for an image is there, or is made -/
theorem jB.place {K : jc_K} {G : jg_G} {N x q : Nat} {m : Int} (h : jB K G N x q) (hm : 0 ≤ m ∧ m < 3) (hz : jc_p K (q + 2) m = 0) : jB (jc_up (jc_np K) (q + 2) m K.1.1) G N x q ∧ jk_b K (jc_up (jc_np K) (q + 2) m K.1.1) N ∧ jc_pg (jc_np K) K.1.1 ∧ jk_g (fun _ => False) K (jc_np K) := by
  have hq := h.2.2.2.2.1.2
  have hqe := h.2.2.2.2.1.1
  have hD := h.2.2.2.1.1
  have hR := h.2.2.2.1.2
  have hN := h.2.2.2.2.2
  have own := h.own
  have h120 := hD.1
  have q2 := hq.1
  have e1 : (jc_np K).1 = (K.1.1 + 2, K.1.2.1 + 2, K.1.2.2 + 36) := rfl
  have sh : ∀ n, (jc_np K).2.1 n = if n = K.1.1 + 1 then (100, 32) else if n = K.1.1 then (4, 0) else K.2.1 n := fun n => rfl
  have pt : ∀ n i, jc_p (jc_np K) n i = if n = K.1.1 ∧ i = 3 then K.1.1 + 1 else if n = K.1.1 + 1 then 0 else if n = K.1.1 then 0 else jc_p K n i := fun n i => rfl
  have it : ∀ n i, jc_i (jc_np K) n i = if n = K.1.1 + 1 then 0 else if n = K.1.1 then 0 else jc_i K n i := fun n i => rfl
  have gnp : jk_g (fun _ => False) K (jc_np K) := ⟨by rw [e1]; exact Nat.le_add_right _ 2, fun n hn => by rw [sh, if_neg (by omega), if_neg (by omega)], fun n i hn _ => by rw [pt, if_neg (by omega), if_neg (by omega), if_neg (by omega)], fun n i hn _ => by rw [it, if_neg (by omega), if_neg (by omega)]⟩
  have pg1 : jc_pg (jc_np K) K.1.1 := by
    refine ⟨⟨by omega, by rw [e1]; show K.1.1 + 1 < K.1.1 + 2; omega⟩, ⟨by rw [sh, if_neg (by omega), if_pos rfl], by rw [sh, if_pos rfl]⟩, ?_, Or.inr h120⟩
    show jc_p (jc_np K) K.1.1 3 = _
    rw [pt, if_pos ⟨rfl, rfl⟩]
  have g : jk_g (jo_w K N) K (jc_up (jc_np K) (q + 2) m K.1.1) := (gnp.mono (fun n z => z.elim)).trans (jk_g.up (Or.inl own.2.2))
  have up : ∀ n i, jc_p (jc_up (jc_np K) (q + 2) m K.1.1) n i = if n = q + 2 ∧ i = m then K.1.1 else jc_p (jc_np K) n i := fun n i => rfl
  have p64 : ∀ i, jc_p (jc_up (jc_np K) (q + 2) m K.1.1) 64 i = jc_p K 64 i := fun i => by rw [up, if_neg (by omega), pt, if_neg (by omega), if_neg (by omega), if_neg (by omega)]
  have pq : ∀ i, jc_p (jc_up (jc_np K) (q + 2) m K.1.1) q i = jc_p K q i := fun i => by rw [up, if_neg (by omega), pt, if_neg (by omega), if_neg (by omega), if_neg (by omega)]
  have pq2 : ∀ i, jc_p (jc_up (jc_np K) (q + 2) m K.1.1) (q + 2) i = if i = m then K.1.1 else jc_p K (q + 2) i := fun i => by
    rw [up]
    by_cases e : i = m
    · rw [if_pos ⟨rfl, e⟩, if_pos e]
    · rw [if_neg (fun z => e z.2), if_neg e, pt, if_neg (by omega), if_neg (by omega), if_neg (by omega)]
  have nx : (jc_up (jc_np K) (q + 2) m K.1.1).1 = (K.1.1 + 2, K.1.2.1 + 2, K.1.2.2 + 36) := rfl
  have rc2 : jc_rc (jc_up (jc_np K) (q + 2) m K.1.1) q := jc_rc_k (gnp.rc hq (fun z => z)) rfl rfl (fun i => by rw [up, if_neg (by omega)])
  have pg2 : ∀ p, jc_pg (jc_np K) p → p ≠ q + 2 → jc_pg (jc_up (jc_np K) (q + 2) m K.1.1) p := fun p hp hne => jc_pg_k hp rfl rfl (by rw [up, if_neg (by omega)])
  have ta2 : ∀ p n, jc_ta K p n → jc_ta (jc_up (jc_np K) (q + 2) m K.1.1) p n := fun p n hp => g.ta hp
  generalize jc_up (jc_np K) (q + 2) m K.1.1 = Kp at g p64 pq pq2 nx rc2 pg2 ta2 ⊢
  have hne2 : ∀ p, jc_pg K p → p ≠ q + 2 := fun p hp e => by
    have := hp.2.1.1
    rw [e, hq.2.1.2.2] at this
    exact absurd this (by decide)
  have dd : jD Kp := by
    refine hD.step hN g (by rw [hqe]; omega) (fun τ d => ?_) ?_
    · rw [hqe] at d ⊢
      obtain ⟨⟨y1, y2⟩, z1, z2, z3, z4⟩ := d
      refine ⟨⟨rc2, (if_pos (by omega)).trans y2⟩, fun k k0 k1 => ?_, fun k k' k0 k1 k0' k1' hne hz' => ?_, ?_, ?_⟩
      · rw [pq2]
        by_cases e : k = m
        · rw [if_pos e]
          exact Or.inr ⟨h120, pg2 _ pg1 (by omega), if_neg (by omega)⟩
        · rw [if_neg e]
          rcases z1 k k0 k1 with w | ⟨w1, w2, w3⟩
          · exact Or.inl w
          · exact Or.inr ⟨w1, pg2 _ (gnp.pg w2 (fun z => z)) (hne2 _ w2), (if_pos (by have := w2.1; omega)).trans w3⟩
      · rw [pq2] at hz' ⊢
        rw [pq2]
        by_cases e : k = m
        · rw [if_pos e, if_neg (by omega)]
          rcases z1 k' k0' k1' with w | ⟨w1, w2, w3⟩
          · omega
          · have := w2.1; omega
        · rw [if_neg e] at hz' ⊢
          by_cases e' : k' = m
          · rw [if_pos e']
            rcases z1 k k0 k1 with w | ⟨w1, w2, w3⟩
            · exact absurd w hz'
            · have := w2.1; omega
          · rw [if_neg e']
            exact z2 k k' k0 k1 k0' k1' hne hz'
      · rw [pq]
        exact z3.imp id (fun w => ⟨ta2 _ _ w.1, (if_pos w.1.2.1).trans w.2⟩)
      · rw [pq]
        exact z4.imp id (fun w => ⟨ta2 _ _ w.1, (if_pos w.1.2.1).trans w.2⟩)
    · rw [nx]
      unfold jw_p
      have hne : ¬ K.1.1 = 0 := by omega
      have q0 : ¬ q = 0 := by omega
      rw [p64, hqe, if_neg q0, if_neg q0, pq, pq, pq2, pq2, pq2]
      rcases (show m = 0 ∨ m = 1 ∨ m = 2 by omega) with e | e | e <;> subst e <;> rw [hz] <;> simp [hne] <;> omega
  refine ⟨h.step ⟨g, fun n hn => ?_⟩ dd ?_ rc2 (jr_b.refl _ _), ⟨g, fun n hn => ?_⟩, pg1, gnp⟩
  rotate_left
  · have h1 := hR.1
    have h2 := hR.2
    refine ⟨?_, ?_⟩
    · rw [nx]; show K.1.2.1 + 2 ≤ K.1.1 + 2 + x; omega
    · rw [nx]; show K.1.2.2 + 36 ≤ 324816 + 32 * (K.1.1 + 2) + 6 * x; omega
  all_goals
    obtain ⟨n0, n1⟩ := hn
    rw [p64, hqe] at n0 n1
    rw [pq, pq] at n1
    rcases n1 with w | ⟨k, k0, k1, k2, w⟩ | w
    · exact Or.inl ⟨by rw [hqe]; exact n0, Or.inl (by rw [hqe]; exact w)⟩
    · rw [pq2] at k2 w
      by_cases e : k = m
      · rw [if_pos e] at w; right; omega
      · rw [if_neg e] at k2 w
        exact Or.inl ⟨by rw [hqe]; exact n0, Or.inr (Or.inl ⟨k, k0, k1, by rw [hqe]; exact k2, by rw [hqe]; exact w⟩)⟩
    · exact Or.inl ⟨by rw [hqe]; exact n0, Or.inr (Or.inr (by rw [hqe]; exact w))⟩
