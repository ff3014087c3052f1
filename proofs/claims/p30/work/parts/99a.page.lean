/-! THE CLASS AS IT IS SEEN, alive or fallen -/
section Pe
variable {K : jc_K} {G : jg_G} {k : Nat}
theorem jSt.I {N : Nat} {W : jZW} (h : jSt K G N k W) : jIn K G k := ⟨h.1, Or.inl ⟨h.2.1, N, W, h.2.2.1, h.2.2.2⟩⟩
theorem jIn.n63 (h : jIn K G k) : jc_i K 63 4 = G 92 12 := by
  rcases h.2 with ⟨h8, N, W, hW, hL⟩ | ⟨W, hW, hF, hM⟩
  · exact hL.1.2.1.1.trans hL.1.h12.symm
  · exact hF.2.2.1
theorem jIn.view (h : jIn K G k) : (jc_i K 3 8 = G 92 13 ∧ jc_i K 3 9 = G 92 5) ∧ jc_i K 66 5 = G 92 8 ∧ (∀ f, 0 ≤ f → f < 4 → (jc_i K 68 f = G 95 f ∧ jc_i K 69 f = G 96 f ∧ jc_i K 70 f = G 97 f) ∧ (G 96 f = 0 ∨ G 96 f = 1)) ∧ (∀ t, 0 ≤ t → t < 4 → jc_i K 61 t = G 110 t) ∧ ∀ j, 0 ≤ j → j < 32 → jc_i K 62 j = G 111 j := by
  rcases h.2 with ⟨h8, N, W, hW, hL⟩ | ⟨W, hW, hF, hM⟩
  · obtain ⟨⟨_, ⟨⟨n8, n9, _⟩, _⟩, _⟩, _, ca, _⟩ := hL.1.1
    exact ⟨⟨n8, n9⟩, ca.1.1, fun f f0 f1 => ⟨(ca.2.1 f f0 f1).1, (ca.2.1 f f0 f1).2.1⟩, fun t t0 t1 => (hL.2.2.2.1.1 t t0 t1).2.2.1, fun j j0 j1 => (hL.2.2.2.1.2 j j0 j1).1⟩
  · obtain ⟨⟨⟨_, ⟨⟨n8, n9, _⟩, _⟩, _⟩, ⟨_, _, e8, ef, et, eh⟩, _⟩, _, _, f1, f2, f3, f4⟩ := hF
    refine ⟨⟨n8, n9⟩, f2.trans e8.symm, fun f f0 f4 => ?_, fun t t0 t1 => ?_, fun j j0 j1 => (f4 j j0 j1).trans (eh j j0 j1).symm⟩
    · obtain ⟨a1, a2, a3⟩ := f1 f f0 f4
      obtain ⟨b1, b2, b3⟩ := ef f f0 f4
      exact ⟨⟨a1.trans b1.symm, a2.trans b2.symm, a3.trans b3.symm⟩, Or.inl b2⟩
    · exact (f3 t t0 t1).2.2.trans (et t t0 t1).2.2.2.symm
theorem jIn.fa (h : jIn K G k) : jf_a K G := by
  rcases h.2 with ⟨h8, N, W, hW, hL⟩ | ⟨W, hW, hF, hM⟩
  · exact hL.1.1.2.2.1
  · obtain ⟨⟨_, ⟨_, _, e8, ef, _, _⟩, _, _, _, d3⟩, _, _, f1, f2, _, _⟩ := hF
    refine ⟨⟨f2.trans e8.symm, by rw [e8]; decide⟩, fun f f0 f4 => ?_, fun f f' f0 f4 g0 g4 hz => ?_⟩
    · obtain ⟨a1, a2, a3⟩ := f1 f f0 f4
      obtain ⟨b1, b2, b3⟩ := ef f f0 f4
      exact ⟨⟨a1.trans b1.symm, a2.trans b2.symm, a3.trans b3.symm⟩, Or.inl b2, by rw [b1]; decide, d3 f f0 f4⟩
    · rw [(ef f f0 f4).1] at hz
      exact absurd hz (by decide)
theorem jIn.page (h : jIn K G k) {p : Int} (hp : 0 ≤ p ∧ p < 24) : fc2 K p = some (K, fr_fo G p) ∧ (0 ≤ fr_ro G p ∧ fr_ro G p < 54) ∧ ((fc3 K p = some (K, 0) ∧ fr_to G p = 1) ∨ ∃ q c, fc3 K p = some (K, q) ∧ fr_to G p = 0 ∧ 0 < q ∧ jp_k K q c ∧ jc_i K q 1 = G 93 (67 * fr_ro G p + 1) ∧ jp_r G (fr_ro G p) c ∧ jp_w c) := by
  have e2 := jk_fc2 h.fa hp.1
  rcases h.2 with ⟨h8, N, W, hW, hL⟩ | ⟨W, hW, hF, hM⟩
  · obtain ⟨s1, s2, s3, s4, s5, s6, s7, s8, s9⟩ := jN_seen hL.1.1 hp
    exact ⟨e2, s5, Or.inr ⟨_, _, s1, s8, s2, s3, by rw [s4, s7], s6, s9⟩⟩
  · obtain ⟨⟨⟨dc, _⟩, ⟨_, _, e8, ef, _, _⟩, _, _, _, d3⟩, _, _, f1, f2, _, _⟩ := hF
    have c : fr_fo G p = -1 := by
      unfold fr_fo
      rw [(ef 3 (by decide) (by decide)).1, (ef 2 (by decide) (by decide)).1, (ef 1 (by decide) (by decide)).1, (ef 0 (by decide) (by decide)).1, if_neg (by omega), if_neg (by omega), if_neg (by omega), if_neg (by omega)]
    have er : fr_ro G p = 4 + 2 * p := by unfold fr_ro; rw [if_pos c]
    obtain ⟨p1, ⟨p2, p2'⟩, p3, p4, p5⟩ := dc.2.2 p hp.1 hp.2
    refine ⟨e2, by rw [er]; omega, ?_⟩
    by_cases un : G 94 (4 + 2 * p) = G 94 (5 + 2 * p)
    · have e15 : fc15 K p = some (K, 0) := by
        unfold fc15
        rw [if_neg (by omega), if_neg (by omega), if_pos hp, p1.1, p1.2, if_pos un]
      have n4 := p4 un
      obtain ⟨v, v1, v2, v3, v4, v5⟩ := p2
      refine Or.inr ⟨9 + 2 * p.toNat, jh G v p, ?_, ?_, by omega, ?_, by rw [p3.1, er, n4], by rw [er]; exact v5, v4⟩
      · unfold fc3
        rw [if_neg (by omega), if_pos hp.2, e2, jo_bs]
        dsimp only
        rw [c, if_pos (by decide), e15, jo_bs]
        dsimp only
        rw [if_pos rfl, if_pos hp]
      · unfold fr_to
        rw [if_neg (fun z => by
          have := z.2
          rw [show 4 + 2 * p + 1 = 5 + 2 * p by omega] at this
          exact this un)]
      · have := p3.2
        rw [← n4, v1, Int.toNat_natCast] at this
        exact this
    · have e15 : fc15 K p = some (K, 1) := by
        unfold fc15
        rw [if_neg (by omega), if_neg (by omega), if_pos hp, p1.1, p1.2, if_neg un]
      refine Or.inl ⟨?_, ?_⟩
      · unfold fc3
        rw [if_neg (by omega), if_pos hp.2, e2, jo_bs]
        dsimp only
        rw [c, if_pos (by decide), e15, jo_bs]
        dsimp only
        rw [if_neg (by decide)]
      · unfold fr_to
        rw [if_pos ⟨c, by rw [show 4 + 2 * p + 1 = 5 + 2 * p by omega]; exact un⟩]
end Pe
