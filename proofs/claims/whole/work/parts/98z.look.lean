/-! CALLS THAT READ; crashAt, crash -/
section Rv
variable {K : jc_K} {G : jg_G} {k : Nat}
theorem jIn.view (h : jIn K G k) : (jc_i K 3 8 = G 92 13 ∧ jc_i K 3 9 = G 92 5) ∧ jc_i K 66 5 = G 92 8 ∧ (∀ f, 0 ≤ f → f < 4 → (jc_i K 68 f = G 95 f ∧ jc_i K 69 f = G 96 f ∧ jc_i K 70 f = G 97 f) ∧ (G 96 f = 0 ∨ G 96 f = 1)) ∧ (∀ t, 0 ≤ t → t < 4 → jc_i K 61 t = G 110 t) ∧ ∀ j, 0 ≤ j → j < 32 → jc_i K 62 j = G 111 j := by
  rcases h.2 with ⟨h8, N, W, hW, hL⟩ | ⟨W, hW, hF, hM⟩
  · obtain ⟨⟨_, ⟨⟨n8, n9, _⟩, _⟩, _⟩, _, ca, _⟩ := hL.1.1
    exact ⟨⟨n8, n9⟩, ca.1.1, fun f f0 f1 => ⟨(ca.2.1 f f0 f1).1, (ca.2.1 f f0 f1).2.1⟩, fun t t0 t1 => (hL.2.2.2.1.1 t t0 t1).2.2.1, fun j j0 j1 => (hL.2.2.2.1.2 j j0 j1).1⟩
  · obtain ⟨⟨⟨_, ⟨⟨n8, n9, _⟩, _⟩, _⟩, ⟨_, _, e8, ef, et, eh⟩, _⟩, _, _, f1, f2, f3, f4⟩ := hF
    refine ⟨⟨n8, n9⟩, f2.trans e8.symm, fun f f0 f4 => ?_, fun t t0 t1 => ?_, fun j j0 j1 => (f4 j j0 j1).trans (eh j j0 j1).symm⟩
    · obtain ⟨a1, a2, a3⟩ := f1 f f0 f4
      obtain ⟨b1, b2, b3⟩ := ef f f0 f4
      exact ⟨⟨a1.trans b1.symm, a2.trans b2.symm, a3.trans b3.symm⟩, Or.inl b2⟩
    · exact (f3 t t0 t1).2.2.trans (et t t0 t1).2.2.2.symm
/-- pass -/
theorem jcase13 (h : jIn K G k) (a b e : Int) : ∃ K' G', js13 K G a b e = some (K', G') ∧ jIn K' G' (k + 1) := by
  unfold js13 fc120 fo213
  by_cases a0 : a < 0
  · rw [if_pos a0, if_pos a0, jo_bs, jo_bs]
    exact ⟨_, _, jl_cmp_r (mp := jl_m243) (by decide) jg_uH, h.thr 1⟩
  rw [if_neg a0, if_neg a0]
  by_cases a4 : a < 4
  case neg =>
    rw [if_neg a4, if_pos (show 3 < a by omega), jo_bs, jo_bs]
    exact ⟨_, _, jl_cmp_r (mp := jl_m243) (by decide) jg_uH, h.thr 1⟩
  have ha : 0 ≤ a ∧ a < 4 := ⟨by omega, a4⟩
  rw [if_pos a4, if_neg (show ¬ 3 < a by omega), if_pos ha, if_pos ha, jo_bs, jo_bs]
  exact ⟨_, _, jl_cmp_l (mp := jl_m243) jg_uH (h.1 a ha.1 ha.2), h.ro 0⟩
/-- frame -/
theorem jcase16 (h : jIn K G k) (a b e : Int) : ∃ K' G', js16 K G a b e = some (K', G') ∧ jIn K' G' (k + 1) := by
  unfold js16 fc123 fo216
  by_cases a0 : a < 0
  · rw [if_pos a0, if_pos a0, jo_bs, jo_bs]
    exact ⟨_, _, jl_cmp_r (mp := jl_m246) (by decide) jg_uH, h.thr 1⟩
  rw [if_neg a0, if_neg a0]
  by_cases a4 : a < 4
  case neg =>
    rw [if_neg a4, if_pos (show 3 < a by omega), jo_bs, jo_bs]
    exact ⟨_, _, jl_cmp_r (mp := jl_m246) (by decide) jg_uH, h.thr 1⟩
  have ha : 0 ≤ a ∧ a < 4 := ⟨by omega, a4⟩
  rw [if_pos a4, if_neg (show ¬ 3 < a by omega)]
  by_cases b0 : b < 0
  · rw [if_pos b0, if_pos b0, jo_bs, jo_bs]
    exact ⟨_, _, jl_cmp_r (mp := jl_m246) (by decide) jg_uH, h.thr 2⟩
  rw [if_neg b0, if_neg b0]
  by_cases b2 : b ≤ 2
  case neg =>
    rw [if_neg b2, if_pos (show 2 < b by omega), jo_bs, jo_bs]
    exact ⟨_, _, jl_cmp_r (mp := jl_m246) (by decide) jg_uH, h.thr 2⟩
  rw [if_pos b2, if_neg (show ¬ 2 < b by omega)]
  obtain ⟨⟨v1, v2, v3⟩, v4⟩ := h.view.2.2.1 a ha.1 ha.2
  by_cases c0 : b = 0
  · rw [if_pos c0, if_pos c0, if_pos ha, if_pos ha, jo_bs, jo_bs]
    exact ⟨_, _, jl_cmp_l (mp := jl_m246) jg_uH v1, h.ro 0⟩
  rw [if_neg c0, if_neg c0]
  by_cases c1 : b = 1
  · rw [if_pos c1, if_pos c1, if_pos ha, if_pos ha, v2]
    rcases v4 with v | v
    · rw [if_pos v, if_pos v, jo_bs, jo_bs]
      exact ⟨_, _, jl_cmp_l (mp := jl_m246) jg_uH rfl, h.ro 0⟩
    · rw [if_neg (show ¬ G 96 a = 0 by omega), if_neg (show ¬ G 96 a = 0 by omega), jo_bs, jo_bs]
      exact ⟨_, _, jl_cmp_l (mp := jl_m246) jg_uH rfl, h.ro 0⟩
  rw [if_neg c1, if_neg c1, if_pos ha, if_pos ha, jo_bs, jo_bs]
  exact ⟨_, _, jl_cmp_l (mp := jl_m246) jg_uH v3, h.ro 0⟩
/-- hand, records, durable, writes -/
theorem jcase17 (h : jIn K G k) (a b e : Int) : ∃ K' G', js17 K G a b e = some (K', G') ∧ jIn K' G' (k + 1) := by
  unfold js17 fc124 fo217
  rw [jo_bs, jo_bs]
  dsimp only
  rw [if_pos h.view.2.1]
  exact ⟨_, _, rfl, h.ro 0⟩
theorem jcase19 (h : jIn K G k) (a b e : Int) : ∃ K' G', js19 K G a b e = some (K', G') ∧ jIn K' G' (k + 1) := by
  unfold js19 fc126 fo219
  rw [jo_bs, jo_bs]
  dsimp only
  rw [if_pos h.n63]
  exact ⟨_, _, rfl, h.ro 0⟩
theorem jcase20 (h : jIn K G k) (a b e : Int) : ∃ K' G', js20 K G a b e = some (K', G') ∧ jIn K' G' (k + 1) := by
  unfold js20 fc127 fo220
  rw [jo_bs, jo_bs]
  dsimp only
  rw [if_pos h.view.1.1]
  exact ⟨_, _, rfl, h.ro 0⟩
theorem jcase21 (h : jIn K G k) (a b e : Int) : ∃ K' G', js21 K G a b e = some (K', G') ∧ jIn K' G' (k + 1) := by
  unfold js21 fc128 fo221
  rw [jo_bs, jo_bs]
  dsimp only
  rw [if_pos h.view.1.2]
  exact ⟨_, _, rfl, h.ro 0⟩
/-- holder -/
theorem jcase22 (h : jIn K G k) (a b e : Int) : ∃ K' G', js22 K G a b e = some (K', G') ∧ jIn K' G' (k + 1) := by
  unfold js22 fc129 fo222
  by_cases a0 : a < 0
  · rw [if_pos a0, if_pos a0, jo_bs, jo_bs]
    exact ⟨_, _, jl_cmp_r (mp := jl_m248) (by decide) jg_uH, h.thr 1⟩
  rw [if_neg a0, if_neg a0]
  by_cases a4 : a < 32
  case neg =>
    rw [if_neg a4, if_pos (show 31 < a by omega), jo_bs, jo_bs]
    exact ⟨_, _, jl_cmp_r (mp := jl_m248) (by decide) jg_uH, h.thr 1⟩
  have ha : 0 ≤ a ∧ a < 32 := ⟨by omega, a4⟩
  rw [if_pos a4, if_neg (show ¬ 31 < a by omega), if_pos ha, if_pos ha, jo_bs, jo_bs]
  exact ⟨_, _, jl_cmp_l (mp := jl_m248) jg_uH (h.view.2.2.2.2 a ha.1 ha.2), h.ro 0⟩
/-- waitsFor -/
theorem jcase23 (h : jIn K G k) (a b e : Int) : ∃ K' G', js23 K G a b e = some (K', G') ∧ jIn K' G' (k + 1) := by
  unfold js23 fc130 fo223
  by_cases a0 : a < 0
  · rw [if_pos a0, if_pos a0, jo_bs, jo_bs]
    exact ⟨_, _, jl_cmp_r (mp := jl_m249) (by decide) jg_uH, h.thr 1⟩
  rw [if_neg a0, if_neg a0]
  by_cases a4 : a < 4
  case neg =>
    rw [if_neg a4, if_pos (show 3 < a by omega), jo_bs, jo_bs]
    exact ⟨_, _, jl_cmp_r (mp := jl_m249) (by decide) jg_uH, h.thr 1⟩
  have ha : 0 ≤ a ∧ a < 4 := ⟨by omega, a4⟩
  rw [if_pos a4, if_neg (show ¬ 3 < a by omega), if_pos ha, if_pos ha, jo_bs, jo_bs]
  exact ⟨_, _, jl_cmp_l (mp := jl_m249) jg_uH (h.view.2.2.2.1 a ha.1 ha.2), h.ro 0⟩
end Rv
