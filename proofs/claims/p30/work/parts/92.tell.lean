/-! tellImage(), all of it -/
theorem jB.perm {K K2 : jc_K} {G : jg_G} {N x q a : Nat} {num m pos : Int} (h : jB K G N x q) (hm : 0 ≤ m ∧ m < 3) (ha : jc_p K (q + 2) m = a) (h27 : jk_27 K K2 q a num m pos) : jB K2 G N x q ∧ jk_b K K2 N := by
  obtain ⟨⟨e1, e2⟩, ei, ep, ein, epn, ⟨p0, p1⟩, _, _⟩ := h27
  have hq := h.2.2.2.2.1.2
  have hqe := h.2.2.2.2.1.1
  have hD := h.2.2.2.1.1
  have hR := h.2.2.2.1.2
  have hN := h.2.2.2.2.2
  have own := h.own
  have q2 := hq.1
  -- the places as they were
  have sg : ∀ j, ∃ s, jc_p K2 (q + 2) j = jc_p K (q + 2) s ∧ s = if j < pos then j else if j = pos then m else if j ≤ m then j - 1 else j := fun j => by
    rw [epn]
    by_cases c1 : j < pos
    · exact ⟨j, by rw [if_pos c1], by rw [if_pos c1]⟩
    · rw [if_neg c1, if_neg c1]
      by_cases c2 : j = pos
      · exact ⟨m, by rw [if_pos c2, ha], by rw [if_pos c2]⟩
      · rw [if_neg c2, if_neg c2]
        by_cases c3 : j ≤ m
        · exact ⟨j - 1, by rw [if_pos c3], by rw [if_pos c3]⟩
        · exact ⟨j, by rw [if_neg c3], by rw [if_neg c3]⟩
  have sb : ∀ j s, 0 ≤ j → j < 3 → (s = if j < pos then j else if j = pos then m else if j ≤ m then j - 1 else j) → 0 ≤ s ∧ s < 3 := fun j s j0 j1 e => by
    rw [e]; split <;> try split <;> try split
    all_goals omega
  have si : ∀ j j' s s', 0 ≤ j → j < 3 → 0 ≤ j' → j' < 3 → j ≠ j' → (s = if j < pos then j else if j = pos then m else if j ≤ m then j - 1 else j) → (s' = if j' < pos then j' else if j' = pos then m else if j' ≤ m then j' - 1 else j') → s ≠ s' := fun j j' s s' j0 j1 j0' j1' hne e e' => by
    rw [e, e']
    split <;> split <;> (try split) <;> (try split) <;> (try split) <;> (try split) <;> omega
  have g : jk_g (jo_w K N) K K2 := ⟨by rw [e1]; exact Nat.le_refl _, fun n _ => by rw [e2], fun n i hn hs => ep n i (fun z => hs (by rw [z]; exact own.2.2)), fun n i hn hs => ei n i (fun z => hs (by rw [z]; exact own.2.1)) (Or.inl (fun z => hs (by rw [z]; exact own.1)))⟩
  have p64 : ∀ i, jc_p K2 64 i = jc_p K 64 i := fun i => ep 64 i (by omega)
  have pq : ∀ i, jc_p K2 q i = jc_p K q i := fun i => ep q i (by omega)
  have rc2 : jc_rc K2 q := jc_rc_k hq e1 e2 pq
  have hne2 : ∀ p, jc_pg K p → p ≠ q + 2 := fun p hp e => by
    have := hp.2.1.1
    rw [e, hq.2.1.2.2] at this
    exact absurd this (by decide)
  have dd : jD K2 := by
    refine hD.step hN g (by rw [hqe]; omega) (fun τ d => ?_) ?_
    · rw [hqe] at d ⊢
      obtain ⟨⟨y1, y2⟩, z1, z2, z3, z4⟩ := d
      refine ⟨⟨rc2, (if_pos (by omega)).trans y2⟩, fun k k0 k1 => ?_, fun k k' k0 k1 k0' k1' hne hz' => ?_, ?_, ?_⟩
      · obtain ⟨s, s1, s2⟩ := sg k
        obtain ⟨b0, b1⟩ := sb k s k0 k1 s2
        rw [s1]
        rcases z1 s b0 b1 with w | ⟨w1, w2, w3⟩
        · exact Or.inl w
        · exact Or.inr ⟨w1, jc_pg_k w2 e1 e2 (ep _ _ (hne2 _ w2)), (if_pos (by have := w2.1; omega)).trans w3⟩
      · obtain ⟨s, s1, s2⟩ := sg k
        obtain ⟨b0, b1⟩ := sb k s k0 k1 s2
        obtain ⟨s', s1', s2'⟩ := sg k'
        obtain ⟨b0', b1'⟩ := sb k' s' k0' k1' s2'
        rw [s1] at hz' ⊢
        rw [s1']
        exact z2 s s' b0 b1 b0' b1' (si k k' s s' k0 k1 k0' k1' hne s2 s2') hz'
      · rw [pq]
        exact z3.imp id (fun w => ⟨g.ta w.1, (if_pos w.1.2.1).trans w.2⟩)
      · rw [pq]
        exact z4.imp id (fun w => ⟨g.ta w.1, (if_pos w.1.2.1).trans w.2⟩)
    · rw [e1]
      unfold jw_p
      have q0 : ¬ q = 0 := by omega
      rw [p64, hqe, if_neg q0, if_neg q0, pq, pq, epn, epn, epn]
      rcases (show (m = 0 ∧ pos = 0) ∨ (m = 1 ∧ pos = 0) ∨ (m = 1 ∧ pos = 1) ∨ (m = 2 ∧ pos = 0) ∨ (m = 2 ∧ pos = 1) ∨ (m = 2 ∧ pos = 2) by omega) with ⟨e, f⟩ | ⟨e, f⟩ | ⟨e, f⟩ | ⟨e, f⟩ | ⟨e, f⟩ | ⟨e, f⟩ <;> subst e <;> subst f <;> rw [ha] <;> simp <;> omega
  have hown : ∀ n, jo_w K2 N n → jo_w K N n ∨ K.1.1 ≤ n := fun n hn => by
    obtain ⟨n0, n1⟩ := hn
    rw [p64, hqe] at n0 n1
    rw [pq, pq] at n1
    rcases n1 with w | ⟨k, k0, k1, k2, w⟩ | w
    · exact Or.inl ⟨by rw [hqe]; exact n0, Or.inl (by rw [hqe]; exact w)⟩
    · obtain ⟨s, s1, s2⟩ := sg k
      obtain ⟨b0, b1⟩ := sb k s k0 k1 s2
      rw [s1] at k2 w
      exact Or.inl ⟨by rw [hqe]; exact n0, Or.inr (Or.inl ⟨s, b0, b1, by rw [hqe]; exact k2, by rw [hqe]; exact w⟩)⟩
    · exact Or.inl ⟨by rw [hqe]; exact n0, Or.inr (Or.inr (by rw [hqe]; exact w))⟩
  exact ⟨h.step ⟨g, hown⟩ dd (by unfold jR at *; rw [e1]; exact hR) rc2 (jr_b.refl _ _), g, hown⟩
/-- the images told so far: m of them, of the pages P, by rising numbers; c: what they hold -/
def jI (K : jc_K) (q : Nat) (m : Int) (c : Int → jp_C) (P : Int → Prop) : Prop := jc_i K q 8 = m ∧ (∀ k, 0 ≤ k → k < m → 98 ≤ jc_p K (q + 2) k ∧ jp_k K (jc_p K (q + 2) k) (c (jc_i K (q + 1) k)) ∧ P (jc_i K (q + 1) k)) ∧ (∀ k, 0 ≤ k → k + 1 < m → jc_i K (q + 1) k < jc_i K (q + 1) (k + 1)) ∧ ∀ y, P y → ∃ k, 0 ≤ k ∧ k < m ∧ jc_i K (q + 1) k = y
def jp_0 : jp_C := (0, 0, (fun _ => 0), fun _ => 0)
/-- an image's page is beside all other images -/
theorem jB.ptr {K : jc_K} {G : jg_G} {N x q : Nat} (h : jB K G N x q) {k k' : Int} (hk : 0 ≤ k ∧ k < 3) (hk' : 0 ≤ k' ∧ k' < 3) (hne : k ≠ k') (h0 : jc_p K (q + 2) k ≠ 0) : jc_p K (q + 2) k ≠ jc_p K (q + 2) k' := by
  have hqe := h.2.2.2.2.1.1
  have hq := h.2.2.2.2.1.2
  have hN := h.2.2.2.2.2
  obtain ⟨_, ⟨τ, d⟩, _⟩ := h.2.2.2.1.1
  have dN := (d N (by omega) (by omega)).resolve_left (by rw [hqe]; have := hq.1.1; omega)
  rw [hqe] at dN
  exact dN.2.2.1 k k' hk.1 hk.2 hk'.1 hk'.2 hne h0
theorem jc_pg_a {K : jc_K} {p p' : Nat} (h : jc_pg K p) (h' : jc_pg K p') (hne : p ≠ p') : jk_a p p' := by
  refine ⟨hne, fun e => ?_, fun e => ?_⟩
  · have := h.2.1.1
    rw [e, h'.2.1.2] at this
    exact absurd this (by decide)
  · have := h'.2.1.1
    rw [← e, h.2.1.2] at this
    exact absurd this (by decide)
theorem jI.put {K K' : jc_K} {G : jg_G} {N x q a : Nat} {m y : Int} {c : Int → jp_C} {P : Int → Prop} {c' : jp_C} (h : jB K G N x q) (hI : jI K q m c P) (hm : m ≤ 3) {k : Int} (hk : 0 ≤ k ∧ k < m) (hy : jc_i K (q + 1) k = y) (ha : jc_p K (q + 2) k = a) (hf : jk_f K K' a) (hc : jp_k K' a c') : jB K' G N x q ∧ jk_b K K' N ∧ jI K' q m (fun z => if z = y then c' else c z) P ∧ (jc_i K' (q + 1) k = y ∧ jc_p K' (q + 2) k = a) ∧ ∀ i, jc_i K' q i = jc_i K q i := by
  have hqe := h.2.2.2.2.1.1
  have hq := h.2.2.2.2.1.2
  have a120 := (hI.2.1 k hk.1 hk.2).1
  have apg := (hI.2.1 k hk.1 hk.2).2.1.1
  rw [ha] at a120 apg
  have own : jo_w K N a ∧ jo_w K N (a + 1) := ⟨⟨by rw [hqe]; have := hq.1.1; omega, Or.inr (Or.inl ⟨k, hk.1, by omega, by rw [hqe, ha]; omega, Or.inl (by rw [hqe, ha])⟩)⟩, ⟨by rw [hqe]; have := hq.1.1; omega, Or.inr (Or.inl ⟨k, hk.1, by omega, by rw [hqe, ha]; omega, Or.inr (by rw [hqe, ha])⟩)⟩⟩
  have s : jk_s (fun n => n = a ∨ n = a + 1) K K' := ⟨hf.1, fun n hn i => hf.2 n (fun z => hn (Or.inl z)) (fun z => hn (Or.inr z)) i⟩
  have hSo : ∀ n, (n = a ∨ n = a + 1) → jo_w K N n := fun n e => e.elim (fun e => by rw [e]; exact own.1) (fun e => by rw [e]; exact own.2)
  have pp : ∀ n j, jc_p K' n j = jc_p K n j := fun n j => by unfold jc_p; rw [hf.1.2.2]
  have b' := h.s s hSo (jr_b.refl _ _)
  have shq := hq.2.1
  have sha := apg.2.1
  have nq : q ≠ a ∧ q ≠ a + 1 := ⟨fun e => by rw [← e, shq.1] at sha; exact absurd sha.1 (by decide), fun e => by rw [← e, shq.1] at sha; exact absurd sha.2 (by decide)⟩
  have nq1 : q + 1 ≠ a ∧ q + 1 ≠ a + 1 := ⟨fun e => by rw [← e, shq.2.1] at sha; exact absurd sha.1 (by decide), fun e => nq.1 (by omega)⟩
  have iq : ∀ i, jc_i K' q i = jc_i K q i := fun i => hf.2 q nq.1 nq.2 i
  have iq1 : ∀ i, jc_i K' (q + 1) i = jc_i K (q + 1) i := fun i => hf.2 (q + 1) nq1.1 nq1.2 i
  refine ⟨b', ⟨(jk_g.s s).mono hSo, fun n hn => Or.inl ?_⟩, ⟨(iq 8).trans hI.1, fun j j0 j1 => ?_, fun j j0 j1 => ?_, fun z hz => ?_⟩, ⟨(iq1 k).trans hy, (pp _ _).trans ha⟩, iq⟩
  · unfold jo_w at *
    simp only [pp] at hn
    exact hn
  · obtain ⟨w1, w2, w3⟩ := hI.2.1 j j0 j1
    rw [pp, iq1]
    refine ⟨w1, ?_, w3⟩
    have hsort : ∀ (n : Nat) (i : Int), 0 ≤ i → i + n + 1 < m → jc_i K (q + 1) i < jc_i K (q + 1) (i + n + 1) := by
      intro n
      induction n with
      | zero => intro i i0 i1; have := hI.2.2.1 i i0 (by omega); simpa using this
      | succ n ih =>
        intro i i0 i1
        have t1 := ih i i0 (by omega)
        have t2 := hI.2.2.1 (i + n + 1) (by omega) (by omega)
        rw [show i + ((n + 1 : Nat) : Int) + 1 = i + n + 1 + 1 by omega]
        omega
    by_cases e : j = k
    · rw [e, hy, ha]
      show jp_k K' a (if y = y then c' else c y)
      rw [if_pos rfl]; exact hc
    · have hny : jc_i K (q + 1) j ≠ y := by
        rcases Int.lt_or_gt_of_ne e with lt | gt
        · have := hsort (k - j - 1).toNat j j0 (by omega)
          rw [show j + ((k - j - 1).toNat : Int) + 1 = k by omega, hy] at this
          omega
        · have := hsort (j - k - 1).toNat k hk.1 (by omega)
          rw [show k + ((j - k - 1).toNat : Int) + 1 = j by omega, hy] at this
          omega
      show jp_k K' _ (if jc_i K (q + 1) j = y then c' else c (jc_i K (q + 1) j))
      rw [if_neg hny]
      refine hf.k (jc_pg_a apg w2.1 ?_) w2
      rw [← ha]
      exact h.ptr ⟨hk.1, by omega⟩ ⟨j0, by omega⟩ (fun z => e z.symm) (by rw [ha]; omega)
  · rw [iq1, iq1]; exact hI.2.2.1 j j0 j1
  · obtain ⟨k, a, b, d⟩ := hI.2.2.2 z hz
    exact ⟨k, a, b, (iq1 k).trans d⟩
