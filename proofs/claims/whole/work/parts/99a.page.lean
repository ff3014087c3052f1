/-! PAGE, ENTRY, RECORD -/
section Pe
variable {K : jc_K} {G : jg_G} {k : Nat}
theorem jIn.fa (h : jIn K G k) : jf_a K G := by
  rcases h.2 with ⟨h8, N, W, hW, hL⟩ | ⟨W, hW, hF, hM⟩
  · exact hL.1.1.2.2.1
  · obtain ⟨⟨_, ⟨_, _, e8, ef, _, _⟩, _, _, _, d3⟩, _, _, f1, f2, _, _⟩ := hF
    refine ⟨⟨f2.trans e8.symm, by rw [e8]; decide⟩, fun f f0 f4 => ?_, fun f f' f0 f4 g0 g4 hz => ?_⟩
    · obtain ⟨a1, a2, a3⟩ := f1 f f0 f4
      obtain ⟨b1, b2, b3⟩ := ef f f0 f4
      exact ⟨⟨a1.trans b1.symm, a2.trans b2.symm, a3.trans b3.symm⟩, Or.inl b2, by rw [b1]; decide, d3 f f0 f4⟩
    · rw [(ef f f0 f4).1] at hz
      exact absurd hz (by decide)
theorem jIn.page (h : jIn K G k) {p : Int} (hp : 0 ≤ p ∧ p < 24) : fc2 K p = some (K, fr_fo G p) ∧ (0 ≤ fr_ro G p ∧ fr_ro G p < 54) ∧ ((fc3 K p = some (K, 0) ∧ fr_to G p = 1) ∨ ∃ q c, fc3 K p = some (K, q) ∧ fr_to G p = 0 ∧ 0 < q ∧ jp_k K q c ∧ jc_i K q 1 = G 93 (67 * fr_ro G p + 1) ∧ jp_r G (fr_ro G p) c ∧ jp_w c) := by
  have e2 := jk_fc2 h.fa hp.1
  rcases h.2 with ⟨h8, N, W, hW, hL⟩ | ⟨W, hW, hF, hM⟩
  · obtain ⟨s1, s2, s3, s4, s5, s6, s7, s8, s9⟩ := jN_seen hL.1.1 hp
    exact ⟨e2, s5, Or.inr ⟨_, _, s1, s8, s2, s3, by rw [s4, s7], s6, s9⟩⟩
  · obtain ⟨⟨⟨dc, _⟩, ⟨_, _, e8, ef, _, _⟩, _, _, _, d3⟩, _, _, f1, f2, _, _⟩ := hF
    have c : fr_fo G p = -1 := by
      unfold fr_fo
      rw [(ef 3 (by decide) (by decide)).1, (ef 2 (by decide) (by decide)).1, (ef 1 (by decide) (by decide)).1, (ef 0 (by decide) (by decide)).1, if_neg (by omega), if_neg (by omega), if_neg (by omega), if_neg (by omega)]
    have er : fr_ro G p = 4 + 2 * p := by unfold fr_ro; rw [if_pos c]
    obtain ⟨p1, ⟨p2, p2'⟩, p3, p4, p5⟩ := dc.2.2 p hp.1 hp.2
    refine ⟨e2, by rw [er]; omega, ?_⟩
    by_cases un : G 94 (4 + 2 * p) = G 94 (5 + 2 * p)
    · have e15 : fc15 K p = some (K, 0) := by
        unfold fc15
        rw [if_neg (by omega), if_neg (by omega), if_pos hp, p1.1, p1.2, if_pos un]
      have n4 := p4 un
      obtain ⟨v, v1, v2, v3, v4, v5⟩ := p2
      refine Or.inr ⟨9 + 2 * p.toNat, jh G v p, ?_, ?_, by omega, ?_, by rw [p3.1, er, n4], by rw [er]; exact v5, v4⟩
      · unfold fc3
        rw [if_neg (by omega), if_pos hp.2, e2, jo_bs]
        dsimp only
        rw [c, if_pos (by decide), e15, jo_bs]
        dsimp only
        rw [if_pos rfl, if_pos hp]
      · unfold fr_to
        rw [if_neg (fun z => by
          have := z.2
          rw [show 4 + 2 * p + 1 = 5 + 2 * p by omega] at this
          exact this un)]
      · have := p3.2
        rw [← n4, v1, Int.toNat_natCast] at this
        exact this
    · have e15 : fc15 K p = some (K, 1) := by
        unfold fc15
        rw [if_neg (by omega), if_neg (by omega), if_pos hp, p1.1, p1.2, if_neg un]
      refine Or.inl ⟨?_, ?_⟩
      · unfold fc3
        rw [if_neg (by omega), if_pos hp.2, e2, jo_bs]
        dsimp only
        rw [c, if_pos (by decide), e15, jo_bs]
        dsimp only
        rw [if_neg (by decide)]
      · unfold fr_to
        rw [if_pos ⟨c, by rw [show 4 + 2 * p + 1 = 5 + 2 * p by omega]; exact un⟩]
theorem jIn.rec' (h : jIn K G k) {a : Int} (a1 : 1 ≤ a) (a2 : a ≤ G 92 12) : a ≤ 1100 ∧ ∃ q, fc19 K a = some (K, q) ∧ 120 ≤ q ∧ jg_rec K G a q := by
  have z : ∃ n : Nat, G 92 12 = n ∧ n ≤ 1100 ∧ jZ K G n := by
    rcases h.2 with ⟨h8, N, W, hW, hL⟩ | ⟨W, hW, hF, hM⟩
    · exact ⟨N, hL.1.h12, hL.1.1.2.1.2.2.2.1, hL.1.2.1.2⟩
    · obtain ⟨⟨_, ⟨_, e12, _⟩, ⟨z1, _, z3⟩, _⟩, _⟩ := hF
      obtain ⟨n, hn, _⟩ := hM
      exact ⟨(G 92 13).toNat, by omega, by omega, z1⟩
  obtain ⟨n, n1, n2, n3⟩ := z
  obtain ⟨r, hr⟩ : ∃ r : Nat, a = r := ⟨a.toNat, by omega⟩
  subst hr
  have R := (n3 r (by omega) (by omega)).1
  have h63 := h.n63
  refine ⟨by omega, _, ?_, R.1.1.1, R⟩
  unfold fc19
  rw [if_neg (by omega), if_neg (by omega), if_neg (by omega), if_pos (by omega)]
  rfl
theorem fr_fo_0 {v p : Int} : fr_fo (jg_u G 92 0 v) p = fr_fo G p := by
  have e : ∀ j, jg_u G 92 0 v 95 j = G 95 j := fun j => jg_uN (by decide)
  unfold fr_fo
  rw [e 3, e 2, e 1, e 0]
theorem fr_ro_0 {v p : Int} : fr_ro (jg_u G 92 0 v) p = fr_ro G p := by
  unfold fr_ro
  rw [fr_fo_0]
theorem fr_to_0 {v p : Int} : fr_to (jg_u G 92 0 v) p = fr_to G p := by
  have e : ∀ j, jg_u G 92 0 v 94 j = G 94 j := fun j => jg_uN (by decide)
  unfold fr_to
  rw [fr_fo_0, e (4 + 2 * p), e (4 + 2 * p + 1)]
/-- page -/
theorem jcase14 (h : jIn K G k) (a b e : Int) : ∃ K' G', js14 K G a b e = some (K', G') ∧ jIn K' G' (k + 1) := by
  unfold js14 fc121 fo214
  by_cases a0 : a < 0
  · rw [if_pos a0, if_pos a0, jo_bs, jo_bs]
    exact ⟨_, _, jl_cmp_r (mp := jl_m244) (by decide) jg_uH, h.thr 1⟩
  rw [if_neg a0, if_neg a0]
  by_cases a4 : a < 24
  case neg =>
    rw [if_neg a4, if_pos (show 23 < a by omega), jo_bs, jo_bs]
    exact ⟨_, _, jl_cmp_r (mp := jl_m244) (by decide) jg_uH, h.thr 1⟩
  have ha : 0 ≤ a ∧ a < 24 := ⟨by omega, a4⟩
  rw [if_pos a4, if_neg (show ¬ 23 < a by omega)]
  by_cases b0 : b < 0
  · rw [if_pos b0, if_pos b0, jo_bs, jo_bs]
    exact ⟨_, _, jl_cmp_r (mp := jl_m244) (by decide) jg_uH, h.thr 2⟩
  rw [if_neg b0, if_neg b0]
  by_cases b3 : b ≤ 3
  case neg =>
    rw [if_neg b3, if_pos (show 3 < b by omega), jo_bs, jo_bs]
    exact ⟨_, _, jl_cmp_r (mp := jl_m244) (by decide) jg_uH, h.thr 2⟩
  obtain ⟨p1, p2, p3⟩ := h.page ha
  rw [if_pos b3, if_neg (show ¬ 3 < b by omega), if_pos ha, jo_le, fr_ro_0, fr_fo_0, fr_to_0]
  by_cases c : b = 3
  · rw [if_pos c, if_pos c, p1, jo_bs, jo_le]
    dsimp only
    by_cases d : fr_fo G a = -1
    · rw [if_pos d, if_pos d, jo_bs, jo_bs]
      exact ⟨_, _, jl_cmp_l (mp := jl_m244) jg_uH rfl, h.ro 0⟩
    · rw [if_neg d, if_neg d, jo_bs, jo_bs]
      exact ⟨_, _, jl_cmp_l (mp := jl_m244) jg_uH rfl, h.ro 0⟩
  rw [if_neg c, if_neg c, jo_le]
  rcases p3 with ⟨q1, q2⟩ | ⟨q, cc, q1, q2, q3, q4, q5, q6, q7⟩
  · rw [q1, jo_bs, q2, if_neg (show ¬ (1 : Int) = 0 by decide)]
    dsimp only
    rw [if_pos rfl, jo_bs, jo_bs]
    exact ⟨_, _, jl_cmp_l (mp := jl_m244) jg_uH rfl, h.ro 0⟩
  · rw [q1, jo_bs, q2, if_pos (show (0 : Int) = 0 from rfl), if_pos (show 0 ≤ (67 * fr_ro G a) + b ∧ (67 * fr_ro G a) + b < 305118 by omega)]
    dsimp only
    rw [if_neg (show ¬ q = 0 by omega), if_pos q4.1, if_pos q4.1, if_pos q4.1]
    by_cases b00 : b = 0
    · subst b00
      rw [if_pos rfl, jo_bs, jo_bs]
      exact ⟨_, _, jl_cmp_l (mp := jl_m244) jg_uH (by rw [q4.2.1, Int.add_zero, q6.1]), h.ro 0⟩
    rw [if_neg b00]
    by_cases b11 : b = 1
    · subst b11
      rw [if_pos rfl, jo_bs, jo_bs]
      exact ⟨_, _, jl_cmp_l (mp := jl_m244) jg_uH q5, h.ro 0⟩
    rw [if_neg b11, jo_bs, jo_bs]
    have b22 : b = 2 := by omega
    subst b22
    exact ⟨_, _, jl_cmp_l (mp := jl_m244) jg_uH (by rw [q4.2.2.1, q6.2.1]), h.ro 0⟩
/-- record -/
theorem jcase18 (h : jIn K G k) (a b e : Int) : ∃ K' G', js18 K G a b e = some (K', G') ∧ jIn K' G' (k + 1) := by
  unfold js18 fc125 fo218
  have h63 := h.n63
  by_cases a1 : a < 1
  · have e19 : fc19 K a = some (K, 0) := by unfold fc19; rw [if_pos a1]
    rw [e19, jo_bs, if_pos a1]
    dsimp only
    rw [if_pos rfl, jo_bs, jo_bs]
    exact ⟨_, _, jl_cmp_r (mp := jl_m247) (by decide) jg_uH, h.thr 1⟩
  rw [if_neg a1]
  by_cases a2 : G 92 12 < a
  · have e19 : fc19 K a = some (K, 0) := by unfold fc19; rw [if_neg a1, if_pos (by omega)]
    rw [e19, jo_bs, if_pos a2]
    dsimp only
    rw [if_pos rfl, jo_bs, jo_bs]
    exact ⟨_, _, jl_cmp_r (mp := jl_m247) (by decide) jg_uH, h.thr 1⟩
  rw [if_neg a2]
  obtain ⟨a3, q, r1, r2, r3⟩ := h.rec' (a := a) (by omega) (by omega)
  obtain ⟨rc, ⟨i0, i1, i2, i3, i6, i7, i8⟩, _⟩ := r3
  have ha : 0 ≤ a ∧ a < 1501 := by omega
  rw [r1, jo_bs]
  dsimp only
  rw [if_neg (show ¬ q = 0 by omega)]
  by_cases b0 : b < 0
  · rw [if_neg (show ¬ b = 0 by omega), if_neg (show ¬ b = 1 by omega), if_neg (show ¬ b = 2 by omega), if_neg (show ¬ b = 3 by omega), if_neg (show ¬ b = 4 by omega), if_pos b0, jo_bs, jo_bs]
    exact ⟨_, _, jl_cmp_r (mp := jl_m247) (by decide) jg_uH, h.thr 2⟩
  rw [if_neg b0]
  by_cases b4 : 4 < b
  · rw [if_neg (show ¬ b = 0 by omega), if_neg (show ¬ b = 1 by omega), if_neg (show ¬ b = 2 by omega), if_neg (show ¬ b = 3 by omega), if_neg (show ¬ b = 4 by omega), if_pos b4, jo_bs, jo_bs]
    exact ⟨_, _, jl_cmp_r (mp := jl_m247) (by decide) jg_uH, h.thr 2⟩
  rw [if_neg b4]
  simp only [if_pos rc, if_pos ha]
  by_cases c0 : b = 0
  · rw [if_pos c0, if_pos c0, jo_bs, jo_bs]
    exact ⟨_, _, jl_cmp_l (mp := jl_m247) jg_uH i1, h.ro 0⟩
  rw [if_neg c0, if_neg c0]
  by_cases c1 : b = 1
  · rw [if_pos c1, if_pos c1, jo_bs, jo_bs]
    exact ⟨_, _, jl_cmp_l (mp := jl_m247) jg_uH i2, h.ro 0⟩
  rw [if_neg c1, if_neg c1]
  by_cases c2 : b = 2
  · rw [if_pos c2, if_pos c2, jo_bs, jo_bs]
    exact ⟨_, _, jl_cmp_l (mp := jl_m247) jg_uH i3, h.ro 0⟩
  rw [if_neg c2, if_neg c2]
  by_cases c3 : b = 3
  · rw [if_pos c3, if_pos c3, jo_bs, jo_bs]
    exact ⟨_, _, jl_cmp_l (mp := jl_m247) jg_uH i7, h.ro 0⟩
  rw [if_neg c3, if_neg c3, if_pos (show b = 4 by omega), jo_bs, jo_bs]
  exact ⟨_, _, jl_cmp_l (mp := jl_m247) jg_uH i8, h.ro 0⟩
end Pe
