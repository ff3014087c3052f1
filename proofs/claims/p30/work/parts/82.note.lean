/-! A RECORD BEGUN, A RECORD DONE -/
theorem fr_nr_o {G : jg_G} {w t : Int} {n : Nat} {j : Int} (h1 : ¬ (n = 92 ∧ j = 12)) (h2 : ¬ ((n = 98 ∨ n = 99 ∨ n = 100 ∨ n = 101 ∨ n = 104 ∨ n = 105) ∧ j = G 92 12 + 1)) : fr_nr G w t n j = G n j := by
  unfold fr_nr
  simp only [jg_u]
  rw [if_neg (by omega), if_neg (by omega), if_neg (by omega), if_neg (by omega), if_neg (by omega), if_neg (by omega), if_neg (by omega)]
theorem fr_no_o {G : jg_G} {w t : Int} {n : Nat} {j : Int} (h1 : ¬ (n = 92 ∧ j = 12)) (h2 : ¬ ((n = 98 ∨ n = 99 ∨ n = 100 ∨ n = 101 ∨ n = 104 ∨ n = 105) ∧ j = G 92 12 + 1)) (h3 : ¬ ((n = 108 ∨ n = 109) ∧ j = t)) : fr_no G w t n j = G n j := by
  unfold fr_no
  by_cases e : t = -1
  · rw [if_pos e]; exact fr_nr_o h1 h2
  · rw [if_neg e]
    simp only [jg_u]
    rw [if_neg (by omega), if_neg (by omega)]
    exact fr_nr_o h1 h2
theorem fr_no_is {G : jg_G} {w t : Int} (ht : -1 ≤ t ∧ t < 4) : fr_no G w t 92 12 = G 92 12 + 1 ∧ fr_no G w t 98 (G 92 12 + 1) = w ∧ fr_no G w t 99 (G 92 12 + 1) = t ∧ fr_no G w t 100 (G 92 12 + 1) = (if t = -1 then 0 else G 108 t) ∧ fr_no G w t 101 (G 92 12 + 1) = -1 ∧ fr_no G w t 104 (G 92 12 + 1) = -1 ∧ fr_no G w t 105 (G 92 12 + 1) = 0 ∧ (0 ≤ t → fr_no G w t 108 t = G 92 12 + 1 ∧ fr_no G w t 109 t = jb_m (G 109 t + 1)) := by
  unfold fr_no fr_nr
  by_cases e : t = -1
  · simp [e, jg_u]
  · simp [e, jg_u]
theorem jB.start {K : jc_K} {G : jg_G} {N x : Nat} {w t : Int} (h : jY K G N x) (hN : N < 1100) (ht : -1 ≤ t ∧ t < 4) : ∃ K' q, fc20 K w t = some (K', q) ∧ jB K' (fr_no G w t) N x q ∧ jk_g (jA_S q) K K' ∧ (jc_i K' q 0 = (N : Int) + 1 ∧ jc_i K' q 1 = w ∧ jc_i K' q 2 = t ∧ jc_i K' q 3 = -1 ∧ jc_i K' q 4 = -1 ∧ jc_i K' q 5 = -1 ∧ jc_i K' q 6 = (if t = -1 then 0 else G 108 t) ∧ jc_i K' q 7 = -1 ∧ jc_i K' q 8 = 0) ∧ ∀ i : Int, i ≠ N → jc_p K' 64 i = jc_p K 64 i := by
  obtain ⟨n1, ⟨z1, z2⟩, lt, hD, hR⟩ := h
  have h12 : G 92 12 = N := n1.2.1.2.2.1
  obtain ⟨K', q, a1, ⟨a2, a3, a4⟩, a5, a6, a7, ⟨a8, a9, a10⟩, a11, a12, a13, a14⟩ := jA_append (w := w) hD hR z1 hN ht
  have is := fr_no_is (G := G) (w := w) ht
  have o := fun (n : Nat) (j : Int) => fr_no_o (G := G) (w := w) (t := t) (n := n) (j := j)
  rw [h12] at is
  simp only [h12] at o
  generalize fr_no G w t = G' at is o ⊢
  have hl0 : jl_a G G' N := fun m j e => o m j (by omega) (by omega) (by omega)
  have hl : jl_a G (jg_u G' 92 12 N) N := fun m j e => by rw [jg_uN (by omega)]; exact hl0 m j e
  have own : ∀ n, n < K.1.1 → jA_S q n → n < 98 ∨ (N < 1100 ∧ jo_w K N n) := fun n hn e => by
    unfold jA_S at e
    rcases a6 with w | w
    · omega
    · by_cases e' : n = q
      · right
        have q120 : 98 ≤ q := a2.1.1
        exact ⟨hN, by rw [← w]; omega, Or.inl (Or.inl (e'.trans w))⟩
      · omega
  refine ⟨K', q, a1, ⟨⟨?_, is.1⟩, ⟨a8, ?_⟩, fun u u0 u1 => ?_, ⟨a11, a12⟩, ⟨a3, a2⟩, hN⟩, a5, ?_, a4⟩
  · have ev : (fun p => jv G' p N) = fun p => jv G p N := funext fun p => hl0.v p N (Int.le_refl _)
    rw [ev]
    refine (n1.grow a5 (fun n hn z => ?_) hD.1).ref (Nat.le_refl _) (by omega) jg_uH (fun i hi => ?_) (fun n hn j => ?_) (fun j hj => ?_) hl
    · have q120 : 98 ≤ q := a2.1.1
      unfold jN_k at hn; unfold jA_S at z; omega
    · rw [jg_uI (by omega)]; exact o 92 i (by omega) (by omega) (by omega)
    · rw [jg_uN (by omega)]; exact o n j (by omega) (by omega) (by omega)
    · rw [jg_uN (by decide)]; exact o 93 j (by omega) (by omega) (by omega)
  · exact z2.g (by omega) a5 own hD hl0 (fun i i0 i1 => a4 i (by omega))
  · rw [o 107 u (by omega) (by omega) (by omega)]
    by_cases e : u = t
    · have x1 := a10 (by omega)
      have x2 := is.2.2.2.2.2.2.2 (by omega)
      rw [e, x1.1, x1.2, x2.1, x2.2]
      refine ⟨rfl, fun z => ?_⟩
      rw [(lt t (by omega) (by omega)).2 z]
    · have x1 := a9 u e
      rw [x1.1, x1.2, o 108 u (by omega) (by omega) (by omega), o 109 u (by omega) (by omega) (by omega)]
      exact lt u u0 u1
  · refine ⟨a7.1, a7.2.1, a7.2.2.1, a7.2.2.2.1, a7.2.2.2.2.1, a7.2.2.2.2.2.1, ?_, a7.2.2.2.2.2.2.2.1, a7.2.2.2.2.2.2.2.2⟩
    rw [a7.2.2.2.2.2.2.1]
    by_cases e : t = -1
    · rw [if_pos e, if_pos (by omega)]
    · rw [if_neg e, if_neg (by omega)]
      exact (lt t (by omega) (by omega)).1
theorem jD.s {K K' : jc_K} {S : Nat → Prop} (h : jD K) (s : jk_s S K K') : jD K' := by
  obtain ⟨a, ⟨τ, b⟩, c⟩ := h
  have pp : ∀ n j, jc_p K' n j = jc_p K n j := fun n j => by unfold jc_p; rw [s.1.2.2]
  have rc : ∀ q, jc_rc K q → jc_rc K' q := fun q h => by
    have e1 : K'.1 = K.1 := s.1.1
    have e2 : K'.2.1 = K.2.1 := s.1.2.1
    have e3 : K'.2.2.2 = K.2.2.2 := s.1.2.2
    unfold jc_rc at *
    rw [e1, e2, e3]; exact h
  have pg : ∀ q, jc_pg K q → jc_pg K' q := fun q h => by
    have e1 : K'.1 = K.1 := s.1.1
    have e2 : K'.2.1 = K.2.1 := s.1.2.1
    have e3 : K'.2.2.2 = K.2.2.2 := s.1.2.2
    unfold jc_pg at *
    rw [e1, e2, e3]; exact h
  have ta : ∀ q n, jc_ta K q n → jc_ta K' q n := fun q n z => by unfold jc_ta at *; rw [s.1.1, s.1.2.1]; exact z
  refine ⟨by rw [s.1.1]; exact a, ⟨τ, fun i i0 i1 => ?_⟩, ?_⟩
  · rw [pp]
    rcases b i i0 i1 with h | ⟨⟨y1, y2⟩, z1, z2, z3, z4⟩
    · exact Or.inl h
    · right
      refine ⟨⟨rc _ y1, y2⟩, fun k k0 k1 => ?_, fun k k' k0 k1 k0' k1' hne hz => ?_, ?_, ?_⟩
      · rw [pp]; exact (z1 k k0 k1).imp id (fun h => ⟨h.1, pg _ h.2.1, h.2.2⟩)
      · rw [pp] at hz ⊢; rw [pp]; exact z2 k k' k0 k1 k0' k1' hne hz
      · rw [pp]; exact z3.imp id (fun h => ⟨ta _ _ h.1, h.2⟩)
      · rw [pp]; exact z4.imp id (fun h => ⟨ta _ _ h.1, h.2⟩)
  · rw [jw_sum_e (K := K) (K' := K') 1100 (fun i _ => by unfold jw_p; rw [pp, pp, pp, pp, pp, pp]), s.1.1]
    exact c
theorem jR.s {K K' : jc_K} {x : Nat} {S : Nat → Prop} (h : jR K x) (s : jk_s S K K') : jR K' x := by
  unfold jR at *
  rw [s.1.1]; exact h
theorem jZ.s {K K' : jc_K} {G G' : jg_G} {N : Nat} {S : Nat → Prop} (h : jZ K G N) (s : jk_s S K K') (hS : ∀ n, 98 ≤ n → ¬ S n) (hl : jl_a G G' N) : jZ K' G' N := fun r h1 h2 => by
  obtain ⟨a, b⟩ := h r h1 h2
  rw [show jc_p K' 64 ((r : Int) - 1) = jc_p K 64 ((r : Int) - 1) by unfold jc_p; rw [s.1.2.2]]
  exact ⟨a.s s hS (hl.le (by omega)) (by omega) b.2.1.2, b.b hl h1 h2⟩
