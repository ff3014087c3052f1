/-! tellImage() told -/
theorem jp_k_u {K K' : jc_K} {p : Nat} {c : jp_C} (h : jp_k K p c) (hp : jc_pg K' p) (h0 : ∀ i, jc_i K' p i = jc_i K p i) (h1 : ∀ i, jc_i K' (p + 1) i = jc_i K (p + 1) i) : jp_k K' p c := ⟨hp, (h0 0).trans h.2.1, (h0 2).trans h.2.2.1, fun i i0 i1 => (h1 i).trans (h.2.2.2 i i0 i1)⟩
theorem jI.tail {K K2 : jc_K} {G : jg_G} {N x q a : Nat} {num m pos : Int} {c : Int → jp_C} {P : Int → Prop} (h : jB K G N x q) (hI : jI K q m c P) (hm : 0 ≤ m ∧ m < 3) (hn : ¬ P num) (ha : jc_p K (q + 2) m = a) (a0 : 98 ≤ a) (apg : jc_pg K a) (h27 : jk_27 K K2 q a num m pos) (h8 : jc_i K2 q 8 = m + 1) : ∃ K' k, fc34 K2 a 0 = some (K', 0) ∧ jB K' G N x q ∧ jk_b K K' N ∧ jI K' q (m + 1) (fun z => if z = num then jp_0 else c z) (fun z => P z ∨ z = num) ∧ ((0 ≤ k ∧ k < m + 1) ∧ jc_i K' (q + 1) k = num ∧ jc_p K' (q + 2) k = a) ∧ ∀ i, i ≠ 8 → jc_i K' q i = jc_i K q i := by
  obtain ⟨b2, k2⟩ := h.perm hm ha h27
  obtain ⟨⟨e1, e2⟩, ei, ep, ein, epn, ⟨p0, p1⟩, o1, o2⟩ := h27
  have hq := h.2.2.2.2.1.2
  have shq := hq.2.1
  have pgne : ∀ p, jc_pg K p → (p ≠ q ∧ p ≠ q + 1 ∧ p ≠ q + 2) ∧ (p + 1 ≠ q ∧ p + 1 ≠ q + 1) := fun p hp => by
    have sp := hp.2.1
    refine ⟨⟨fun e => ?_, fun e => ?_, fun e => ?_⟩, fun e => ?_, fun e => ?_⟩
    · have := sp.1; rw [e, shq.1] at this; exact absurd this (by decide)
    · have := sp.1; rw [e, shq.2.1] at this; exact absurd this (by decide)
    · have := sp.1; rw [e, shq.2.2] at this; exact absurd this (by decide)
    · have := sp.2; rw [e, shq.1] at this; exact absurd this (by decide)
    · have := sp.2; rw [e, shq.2.1] at this; exact absurd this (by decide)
  have kk : ∀ p c', jp_k K p c' → jp_k K2 p c' := fun p c' hp => by
    obtain ⟨⟨n1, n2, n3⟩, n4, n5⟩ := pgne p hp.1
    exact jp_k_u hp (jc_pg_k hp.1 e1 e2 (ep p 3 n3)) (fun i => ei p i n2 (Or.inl n1)) (fun i => ei (p + 1) i n5 (Or.inl n4))
  have apg2 : jc_pg K2 a := jc_pg_k apg e1 e2 (ep a 3 (pgne a apg).1.2.2)
  have old : ∀ k, 0 ≤ k → k < m → jc_i K (q + 1) k ≠ num := fun k k0 k1 e => hn (by rw [← e]; exact (hI.2.1 k k0 k1).2.2)
  -- with whatever the page holds
  have i2 : jI K2 q (m + 1) (fun z => if z = num then (jc_i K2 a 0, jc_i K2 a 2, (fun _ => 0), fun i => jc_i K2 (a + 1) i) else c z) (fun z => P z ∨ z = num) := by
    refine ⟨h8, fun k k0 k1 => ?_, fun k k0 k1 => ?_, fun y hy => ?_⟩
    · rw [epn, ein]
      by_cases c1 : k < pos
      · rw [if_pos c1, if_pos c1]
        obtain ⟨w1, w2, w3⟩ := hI.2.1 k k0 (by omega)
        refine ⟨w1, ?_, Or.inl w3⟩
        show jp_k K2 _ (if jc_i K (q + 1) k = num then _ else _)
        rw [if_neg (old k k0 (by omega))]
        exact kk _ _ w2
      · rw [if_neg c1, if_neg c1]
        by_cases c2 : k = pos
        · rw [if_pos c2, if_pos c2]
          refine ⟨a0, ?_, Or.inr rfl⟩
          show jp_k K2 a (if num = num then _ else _)
          rw [if_pos rfl]
          exact ⟨apg2, rfl, rfl, fun i _ _ => by show jc_i K2 (a + 1) i = jp_un _ * 0 + jc_i K2 (a + 1) i; rw [Int.mul_zero, Int.zero_add]⟩
        · rw [if_neg c2, if_neg c2, if_pos (by omega), if_pos (by omega)]
          obtain ⟨w1, w2, w3⟩ := hI.2.1 (k - 1) (by omega) (by omega)
          refine ⟨w1, ?_, Or.inl w3⟩
          show jp_k K2 _ (if jc_i K (q + 1) (k - 1) = num then _ else _)
          rw [if_neg (old (k - 1) (by omega) (by omega))]
          exact kk _ _ w2
    · rw [ein, ein]
      by_cases c1 : k < pos
      · rw [if_pos c1]
        by_cases c2 : k + 1 < pos
        · rw [if_pos c2]; exact hI.2.2.1 k k0 (by omega)
        · rw [if_neg c2, if_pos (by omega)]
          have := o1 (by omega)
          have ne := old k k0 (by omega)
          rw [show pos - 1 = k by omega] at this
          omega
      · rw [if_neg c1]
        by_cases c2 : k = pos
        · rw [if_pos c2, if_neg (by omega), if_neg (by omega), if_pos (by omega), show k + 1 - 1 = k by omega]
          exact o2 k (by omega) (by omega)
        · rw [if_neg c2, if_pos (by omega), if_neg (by omega), if_neg (by omega), if_pos (by omega)]
          have := hI.2.2.1 (k - 1) (by omega) (by omega)
          rw [show k - 1 + 1 = k by omega] at this
          rw [show k + 1 - 1 = k by omega]
          exact this
    · rcases hy with hy | hy
      · obtain ⟨k, k0, k1, k2⟩ := hI.2.2.2 y hy
        by_cases c1 : k < pos
        · exact ⟨k, k0, by omega, by rw [ein, if_pos c1]; exact k2⟩
        · exact ⟨k + 1, by omega, by omega, by rw [ein, if_neg (by omega), if_neg (by omega), if_pos (by omega), show k + 1 - 1 = k by omega]; exact k2⟩
      · exact ⟨pos, p0, by omega, by rw [ein, if_neg (by omega), if_pos rfl]; exact hy.symm⟩
  obtain ⟨K', f1, f2, f3, _⟩ := jk_fc34 0 apg2
  have hp1 : jc_i K2 (q + 1) pos = num := by rw [ein, if_neg (by omega), if_pos rfl]
  have hp2 : jc_p K2 (q + 2) pos = a := by rw [epn, if_neg (by omega), if_pos rfl]
  obtain ⟨g1, g2, g3, ⟨g4, g5⟩, g6⟩ := i2.put b2 (by omega) (k := pos) ⟨p0, by omega⟩ hp1 hp2 f2 f3
  refine ⟨K', pos, f1, g1, k2.trans g2, ?_, ⟨⟨p0, by omega⟩, g4, g5⟩, fun i hi => (g6 i).trans (ei q i (by omega) (Or.inr hi))⟩
  have e : (fun z => if z = num then ((0, 0, (fun _ => 0), fun _ => 0) : jp_C) else (fun z => if z = num then ((jc_i K2 a 0, jc_i K2 a 2, (fun _ => 0), fun i => jc_i K2 (a + 1) i) : jp_C) else c z) z) = fun z => if z = num then jp_0 else c z := funext fun z => by
    by_cases e : z = num
    · rw [if_pos e, if_pos e]; rfl
    · rw [if_neg e, if_neg e]
      show (if z = num then _ else _) = _
      rw [if_neg e]
  rw [e] at g3
  exact g3
theorem jI.tell {K : jc_K} {G : jg_G} {N x q : Nat} {num m : Int} {c : Int → jp_C} {P : Int → Prop} (h : jB K G N x q) (hI : jI K q m c P) (hm : 0 ≤ m ∧ m < 3) (hn : ¬ P num) : ∃ K' a k, fc27 K q num = some (K', a) ∧ jB K' G N x q ∧ jk_b K K' N ∧ jI K' q (m + 1) (fun z => if z = num then jp_0 else c z) (fun z => P z ∨ z = num) ∧ ((0 ≤ k ∧ k < m + 1) ∧ jc_i K' (q + 1) k = num ∧ jc_p K' (q + 2) k = a) ∧ ∀ i, i ≠ 8 → jc_i K' q i = jc_i K q i := by
  have hq := h.2.2.2.2.1.2
  have hqe := h.2.2.2.2.1.1
  have hN := h.2.2.2.2.2
  have shq := hq.2.1
  have typed : ∀ j, 0 ≤ j → j < 3 → jc_p K (q + 2) j = 0 ∨ (98 ≤ jc_p K (q + 2) j ∧ jc_pg K (jc_p K (q + 2) j)) := fun j j0 j1 => by
    obtain ⟨_, ⟨τ, d⟩, _⟩ := h.2.2.2.1.1
    have dN := (d N (by omega) (by omega)).resolve_left (by rw [hqe]; have := hq.1.1; omega)
    rw [hqe] at dN
    exact (dN.2.1 j j0 j1).imp id (fun w => ⟨w.1, w.2.1⟩)
  unfold fc27
  rw [if_pos hq, hI.1, if_neg (by omega), if_pos hm, jo_lne]
  by_cases z : jc_p K (q + 2) m = 0
  · rw [if_pos z, jo_lne]
    obtain ⟨b1, k1, pg1, gnp⟩ := h.place hm z
    have q2 := hq.1
    have npne : ∀ p, jc_pg K p → p ≠ q + 2 := fun p hp e => by
      have := hp.2.1.1; rw [e, shq.2.2] at this; exact absurd this (by decide)
    have up : ∀ n i, jc_p (jc_up (jc_np K) (q + 2) m K.1.1) n i = if n = q + 2 ∧ i = m then K.1.1 else jc_p (jc_np K) n i := fun n i => rfl
    have pnp : ∀ n i, n < K.1.1 → jc_p (jc_np K) n i = jc_p K n i := fun n i hn => gnp.2.2.1 n i hn (fun z => z)
    have inp : ∀ n i, n < K.1.1 → jc_i (jc_np K) n i = jc_i K n i := fun n i hn => gnp.2.2.2 n i hn (fun z => z)
    have ui : ∀ n i, jc_i (jc_up (jc_np K) (q + 2) m K.1.1) n i = jc_i (jc_np K) n i := fun n i => rfl
    obtain ⟨pos, K2, f1, f2, f3⟩ := jk_fc27_l (q := q) (a := K.1.1) (num := num) hm jo_N m (jc_np K) (gnp.rc hq (fun z => z)) hm.1 hm.2 (by unfold jo_N; omega) pg1 (fun j j0 j1 => by
      rw [pnp _ _ (by omega)]
      exact (typed j j0 (by omega)).imp id (fun w => gnp.pg w.2 (fun z => z))) ((inp q 8 (by omega)).trans hI.1)
    have f1' : jk_27 (jc_up (jc_np K) (q + 2) m K.1.1) K2 q K.1.1 num m pos := by
      obtain ⟨y1, y2, y3, y4, y5, ⟨y6, y7⟩, y8, y9⟩ := f1
      refine ⟨y1, fun n i a b => (y2 n i a b), fun n i a => (y3 n i a).trans (by rw [up, if_neg (by omega)]), y4, fun j => ?_, ⟨y6, y7⟩, y8, y9⟩
      rw [y5, up, up]
      by_cases c1 : j < pos
      · rw [if_pos c1, if_pos c1, if_neg (by omega)]
      · rw [if_neg c1, if_neg c1]
        by_cases c2 : j = pos
        · rw [if_pos c2, if_pos c2]
        · rw [if_neg c2, if_neg c2]
          by_cases c3 : j ≤ m
          · rw [if_pos c3, if_pos c3, if_neg (by omega)]
          · rw [if_neg c3, if_neg c3, if_neg (by omega)]
    have i1 : jI (jc_up (jc_np K) (q + 2) m K.1.1) q m c P := by
      refine ⟨(ui _ _).trans ((inp q 8 (by omega)).trans hI.1), fun k k0 k1 => ?_, fun k k0 k1 => ?_, fun y hy => ?_⟩
      · obtain ⟨w1, w2, w3⟩ := hI.2.1 k k0 k1
        rw [up, if_neg (by omega), pnp _ _ (by omega), ui, inp _ _ (by omega)]
        have wb := w2.1.1.2
        refine ⟨w1, jp_k_u w2 (jc_pg_k (gnp.pg w2.1 (fun z => z)) rfl rfl (by rw [up, if_neg (by have := npne _ w2.1; omega)])) (fun i => by rw [ui]; exact inp _ _ (by omega)) (fun i => by rw [ui]; exact inp _ _ (by omega)), w3⟩
      · rw [ui, ui, inp _ _ (by omega), inp _ _ (by omega)]; exact hI.2.2.1 k k0 k1
      · obtain ⟨k, k0, k1, k2⟩ := hI.2.2.2 y hy
        exact ⟨k, k0, k1, by rw [ui, inp _ _ (by omega)]; exact k2⟩
    have apg := jc_pg_k (K' := jc_up (jc_np K) (q + 2) m K.1.1) pg1 rfl rfl (by rw [up, if_neg (by omega)])
    obtain ⟨K', k, g1, g2, g3, g4, g5, g6⟩ := i1.tail b1 hm hn (by rw [up, if_pos ⟨rfl, rfl⟩]) h.2.2.2.1.1.1 apg f1' f2
    refine ⟨K', K.1.1, k, ?_, g2, k1.trans g3, g4, g5, fun i hi => (g6 i hi).trans ((ui _ _).trans (inp q i (by omega)))⟩
    rw [f3, g1, jo_bs]
  · rw [if_neg z, jo_lne]
    obtain ⟨a0, apg⟩ := (typed m hm.1 hm.2).resolve_left z
    obtain ⟨pos, K2, f1, f2, f3⟩ := jk_fc27_l (q := q) (a := jc_p K (q + 2) m) (num := num) hm jo_N m K hq hm.1 hm.2 (by unfold jo_N; omega) apg (fun j j0 j1 => (typed j j0 (by omega)).imp id (fun w => w.2)) hI.1
    obtain ⟨K', k, g1, g2, g3, g4, g5, g6⟩ := hI.tail h hm hn rfl a0 apg f1 f2
    refine ⟨K', jc_p K (q + 2) m, k, ?_, g2, g3, g4, g5, g6⟩
    rw [f3, g1, jo_bs]
