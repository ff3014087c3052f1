/-! READ, PUT, TAKE -/
theorem jLv.f {K K' : jc_K} {G G' : jg_G} {N N' x κ κ' B B' : Nat} {W : jZW} {S : Nat → Prop} (h : jLv K G N x κ W B) (hY : jY K' G' N' x) (hM : jM G' N' κ' W B') (hz : jT_z (fun z => jh G' N' z)) (s : jk_g S K K') (hS : ¬ S 58 ∧ ¬ S 61 ∧ ¬ S 62) (g : ∀ j, G' 107 j = G 107 j ∧ G' 110 j = G 110 j ∧ G' 111 j = G 111 j) (hj : ∀ s, 0 ≤ s → s < 4 → G 107 s = 0 → jt G' s N' = jt G s N) : jLv K' G' N' x κ' W B' :=
  ⟨hY, hM, hz, h.2.2.2.1.s s h.1.2.2.2.1.1 hS g, jwt_e h.2.2.2.2.1 g, fun s s0 s1 h0 => by
    rw [(g s).1] at h0
    rw [hj s s0 s1 h0]
    exact h.2.2.2.2.2 s s0 s1 h0⟩
theorem jw_f.tr {G G' : jg_G} (w : jw_f G G') : ∀ j, G' 107 j = G 107 j ∧ G' 110 j = G 110 j ∧ G' 111 j = G 111 j := fun j => ⟨w.1 107 (by decide) (by decide) j, w.1 110 (by decide) (by decide) j, w.1 111 (by decide) (by decide) j⟩
theorem jF_n3 : ¬ jF_n 58 ∧ ¬ jF_n 61 ∧ ¬ jF_n 62 := by
  refine ⟨?_, ?_, ?_⟩ <;> (intro h; unfold jF_n jS_n at h; omega)
theorem jQ3 : ¬ jQ 58 ∧ ¬ jQ 61 ∧ ¬ jQ 62 := by
  refine ⟨?_, ?_, ?_⟩ <;> (intro h; unfold jQ jS_n at h; omega)
theorem jQF3 : ¬ jQF 58 ∧ ¬ jQF 61 ∧ ¬ jQF 62 := by
  refine ⟨?_, ?_, ?_⟩ <;> (intro h; unfold jQF jF_n jQ jS_n at h; omega)
theorem jQ93 : ¬ jQ9 58 ∧ ¬ jQ9 61 ∧ ¬ jQ9 62 := by
  refine ⟨?_, ?_, ?_⟩ <;> (intro h; unfold jQ9 jQ jS_n at h; omega)
/-- the value at the end of the way -/
theorem jW.val {K : jc_K} {G : jg_G} {N x L : Nat} {key : Int} (hY : jY K G N x) (w : jW K G N key L) (hL : L < 24) : ∃ v kk, fc72 K key = some (K, v) ∧ (-1 ≤ v ∧ v < 1000) ∧ ((0 ≤ fr_ro G (G 112 L) ∧ fr_ro G (G 112 L) < 54) ∧ 0 ≤ G 93 (67 * fr_ro G (G 112 L) + 2) ∧ G 93 (67 * fr_ro G (G 112 L) + 2) ≤ 32) ∧ fr_pl G (fr_ro G (G 112 L)) key = kk ∧ ((0 ≤ kk ∧ kk < 32 ∧ G 93 (67 * fr_ro G (G 112 L) + 4 + 2 * kk) = v ∧ v ≠ -1) ∨ (kk < 0 ∧ v = -1)) := by
  have pb := (w.2.1 L (by omega) (Int.le_refl _)).2
  have wl := w.2.2.2.2
  obtain ⟨s1, s2, s3, s4, s5, s6⟩ := hY.seen pb
  obtain ⟨kc, vc, c1, c2⟩ := jk_fc42 (x := key) s6 wl s3
  obtain ⟨kr, d1, d2⟩ := jr_pl (x := key) s5 s6.1.1 s6.1.2
  have ekr : kr = kc := jp_pl_u d1 c2.1
  subst ekr
  have e72 : fc72 K key = some (K, vc) := by
    unfold fc72
    rw [w.end' hL, jo_bs]
    dsimp only
    rw [s1, jo_bs]
    dsimp only
    rw [if_neg (by omega), if_pos s3.1, c1, jo_bs]
  have k0 := d1.1
  have b32 := s6.1
  refine ⟨vc, _, e72, ?_, ⟨s4, by rw [s5.2.1]; exact s6.1⟩, d2, ?_⟩
  · rw [c2.2]
    split
    · rename_i h
      have := (jp_cell s6 (i := kr) k0.1 h.1).2
      rw [jp_leaf wl] at this
      omega
    · omega
  · by_cases h : kr < (jh G N (G 112 L)).2.1 ∧ (jh G N (G 112 L)).2.2.1 kr = key
    · have := (jp_cell s6 (i := kr) k0.1 h.1).2
      rw [if_pos h]
      have e := c2.2
      rw [if_pos h] at e
      exact Or.inl ⟨k0.1, by omega, by rw [(s5.2.2 kr k0.1 h.1).2, e], by omega⟩
    · rw [if_neg h]
      have e := c2.2
      rw [if_neg h] at e
      exact Or.inr ⟨by omega, e⟩
section Rd
variable {K : jc_K} {G : jg_G} {k : Nat}
theorem jcase3 (h : jIn K G k) (hk : k < 512) (a b e : Int) : ∃ K' G', js3 K G a b e = some (K', G') ∧ jIn K' G' (k + 1) := by
  unfold js3 fc110 fo195
  by_cases a0 : a < 0
  · rw [if_pos a0, if_pos a0, jo_bs, jo_bs]
    exact ⟨_, _, jl_cmp_r (mp := jl_m234) (by decide) jg_uH, h.thr 1⟩
  rw [if_neg a0, if_neg a0]
  by_cases a4 : a < 4
  case neg =>
    rw [if_neg a4, if_pos (show 3 < a by omega), jo_bs, jo_bs]
    exact ⟨_, _, jl_cmp_r (mp := jl_m234) (by decide) jg_uH, h.thr 1⟩
  rw [if_pos a4, if_neg (show ¬ 3 < a by omega)]
  by_cases b0 : b < 0
  · rw [if_pos b0, if_pos b0, jo_bs, jo_bs]
    exact ⟨_, _, jl_cmp_r (mp := jl_m234) (by decide) jg_uH, h.thr 1⟩
  rw [if_neg b0, if_neg b0]
  by_cases b4 : b < 32
  case neg =>
    rw [if_neg b4, if_pos (show 31 < b by omega), jo_bs, jo_bs]
    exact ⟨_, _, jl_cmp_r (mp := jl_m234) (by decide) jg_uH, h.thr 1⟩
  rw [if_pos b4, if_neg (show ¬ 31 < b by omega)]
  have ha : 0 ≤ a ∧ a < 4 := ⟨by omega, a4⟩
  have hb : 0 ≤ b ∧ b < 32 := ⟨by omega, b4⟩
  by_cases d : G 92 7 = 0
  case neg =>
    have d' : ¬ jc_i K 2 8 = 0 := fun z => d (h.down.1 z)
    rw [if_neg d', if_neg d, jo_bs, jo_bs]
    exact ⟨_, _, jl_cmp_r (mp := jl_m234) (by decide) jg_uH, h.thr 2⟩
  obtain ⟨N, W, hs⟩ := h.st d
  obtain ⟨o1, o2⟩ := hs.t ha
  rw [if_pos hs.2.1, if_pos ha, o1, if_pos d, if_pos ha]
  rcases o2 with o | o
  · rw [if_pos o, if_pos o, jo_bs, jo_bs]
    exact ⟨_, _, jl_cmp_r (mp := jl_m234) (by decide) jg_uH, h.thr 2⟩
  rw [if_neg (show ¬ G 107 a = 0 by omega), if_neg (show ¬ G 107 a = 0 by omega)]
  have hW : W.1 ≤ 2000000000 := by have := hs.2.2.1; omega
  have n120 : 120 ≤ K.1.1 := hs.2.2.2.1.2.2.2.1.1
  obtain ⟨K1, c, G1, r1, r2, r3, r4⟩ := jlock (hs.2.2.2.t 0) (by omega) (by decide) hW ha hb (by rw [jg_uN (by decide)]; exact o)
  rw [r1, jo_bs, r2, jo_bs]
  dsimp only
  have g1 : jk_g jQX K K1 := r3.mono (fun n e => Or.inl e)
  rcases r4 with ⟨ec, ⟨N1, hL1⟩, _⟩ | ⟨ec, N1, hL1⟩ | ⟨ec, hE, hMf, h62⟩
  · rw [if_pos ec, if_pos ec]
    obtain ⟨K2, G2, b1, u1, u2, u3, u4⟩ := jM_find hL1.1 hL1.2.1 (by omega) (by decide) hW hb hL1.2.2.1.pos
    have g2 : jk_g jQX K K2 := g1.trans ((jk_g.s u3).mono (fun n e => Or.inr (Or.inl e)))
    rw [u1, jo_bs, u2, jo_bs]
    dsimp only
    rcases u4 with ⟨e1, y1, y2, y3, L, w, hL⟩ | ⟨e1, y1, y2⟩
    · obtain ⟨v, kk, v1, v2, ⟨v3, v4⟩, v5, v6⟩ := w.val y1 hL
      have w29 : G2 92 29 - 1 = L := by rw [w.1.2]; omega
      have pb := (w.2.1 L (by omega) (Int.le_refl _)).2
      rw [if_neg (show ¬ b1 = 0 by omega), v1, jo_bs]
      dsimp only
      rw [jtold_a (show v ≠ -4 by omega), jo_bs, jo_bs]
      dsimp only
      obtain ⟨z1, z2⟩ := jfinA hs g2 ((hL1.f y1 y2 (hL1.2.2.1.same (fun z => y3.l.h N1 z)) (jk_g.s u3) jF_n3 y3.tr (fun s _ _ _ => y3.l.t s N1)).le (Nat.le_refl _) (by omega) (Nat.le_refl _))
      rw [if_pos y1.h7]
      simp only [w29]
      rw [if_pos (show 0 ≤ (L : Int) ∧ (L : Int) < 25 by omega), if_pos pb, jo_le, if_pos (show 0 ≤ fr_ro G2 (G2 112 L) ∧ fr_ro G2 (G2 112 L) < 4554 by omega), if_pos v4, jo_le, v5]
      rcases v6 with ⟨q1, q2, q3, q4⟩ | ⟨q1, q2⟩
      · rw [if_pos q1, if_pos (show 0 ≤ 67 * fr_ro G2 (G2 112 L) + 4 + 2 * kk ∧ 67 * fr_ro G2 (G2 112 L) + 4 + 2 * kk < 305118 by omega), jo_bs]
        exact ⟨_, _, jl_cmp_l (mp := jl_m234) z2 q3.symm, z1⟩
      · rw [if_neg (show ¬ 0 ≤ kk by omega), jo_bs]
        exact ⟨_, _, jl_cmp_l (mp := jl_m234) z2 q2, z1⟩
    · rw [if_pos e1, if_neg y1.h7]
      have h62 : ∀ j, 0 ≤ j → j < 32 → -1 ≤ jc_i K2 62 j ∧ jc_i K2 62 j < 4 := fun j j0 j1 => by
        rw [u3.2 62 jF_n3.2.2, (hL1.2.2.2.1.2 j j0 j1).1]
        exact (hL1.2.2.2.1.2 j j0 j1).2
      obtain ⟨⟨K3, z1, z2⟩, z3⟩ := jfinF hs g2 y1 (y2.le (by omega) (Nat.le_refl _)) h62
      rw [z1, jo_bs, jo_bs, jo_bs]
      exact ⟨_, _, jl_cmp_l (mp := jl_m234) z3 rfl, z2⟩
  · have cn : c ≠ 0 ∧ c ≠ -4 := by omega
    rw [if_neg cn.1, if_neg cn.1, jtold_a cn.2, jo_bs, jo_bs, jo_bs]
    obtain ⟨z1, z2⟩ := jfinA hs g1 hL1
    exact ⟨_, _, jl_cmp_l (mp := jl_m234) z2 rfl, z1⟩
  · subst ec
    obtain ⟨⟨K3, z1, z2⟩, z3⟩ := jfinF hs g1 hE hMf h62
    rw [if_neg (show ¬ (-4 : Int) = 0 by decide), if_neg (show ¬ (-4 : Int) = 0 by decide), z1, jo_bs, jo_bs, jo_bs]
    exact ⟨_, _, jl_cmp_l (mp := jl_m234) z3 rfl, z2⟩
end Rd
