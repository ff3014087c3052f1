/-! PUT, TAKE -/
section Pt
variable {K : jc_K} {G : jg_G} {k : Nat}
theorem jM.b {G : jg_G} {N κ B B' : Nat} {W : jZW} (h : jM G N κ W B) (hB : N ≤ B') : jM G N κ W B' := by
  obtain ⟨a, b, c, d, e, f⟩ := h
  have := jcw_all N (fun r r0 r1 => (a.1.1 r r0 r1).1)
  exact ⟨a, b, c, d, by omega, f⟩
theorem jcase1 (h : jIn K G k) (hk : k < 512) (a b e : Int) : ∃ K' G', js1 K G a b e = some (K', G') ∧ jIn K' G' (k + 1) := by
  unfold js1 fc108 fo193
  by_cases a0 : a < 0
  · rw [if_pos a0, if_pos a0, jo_bs, jo_bs]
    exact ⟨_, _, jl_cmp_r (mp := jl_m232) (by decide) jg_uH, h.thr 1⟩
  rw [if_neg a0, if_neg a0]
  by_cases a4 : a < 4
  case neg =>
    rw [if_neg a4, if_pos (show 3 < a by omega), jo_bs, jo_bs]
    exact ⟨_, _, jl_cmp_r (mp := jl_m232) (by decide) jg_uH, h.thr 1⟩
  rw [if_pos a4, if_neg (show ¬ 3 < a by omega)]
  by_cases b0 : b < 0
  · rw [if_pos b0, if_pos b0, jo_bs, jo_bs]
    exact ⟨_, _, jl_cmp_r (mp := jl_m232) (by decide) jg_uH, h.thr 1⟩
  rw [if_neg b0, if_neg b0]
  by_cases b4 : b < 32
  case neg =>
    rw [if_neg b4, if_pos (show 31 < b by omega), jo_bs, jo_bs]
    exact ⟨_, _, jl_cmp_r (mp := jl_m232) (by decide) jg_uH, h.thr 1⟩
  rw [if_pos b4, if_neg (show ¬ 31 < b by omega)]
  by_cases e0 : e < 0
  · rw [if_pos e0, if_pos e0, jo_bs, jo_bs]
    exact ⟨_, _, jl_cmp_r (mp := jl_m232) (by decide) jg_uH, h.thr 1⟩
  rw [if_neg e0, if_neg e0]
  by_cases e4 : e < 1000
  case neg =>
    rw [if_neg e4, if_pos (show 999 < e by omega), jo_bs, jo_bs]
    exact ⟨_, _, jl_cmp_r (mp := jl_m232) (by decide) jg_uH, h.thr 1⟩
  rw [if_pos e4, if_neg (show ¬ 999 < e by omega)]
  have ha : 0 ≤ a ∧ a < 4 := ⟨by omega, a4⟩
  have hb : 0 ≤ b ∧ b < 32 := ⟨by omega, b4⟩
  by_cases d : G 92 7 = 0
  case neg =>
    have d' : ¬ jc_i K 2 8 = 0 := fun z => d (h.down.1 z)
    rw [if_neg d', if_neg d, jo_bs, jo_bs]
    exact ⟨_, _, jl_cmp_r (mp := jl_m232) (by decide) jg_uH, h.thr 2⟩
  obtain ⟨N, W, hs⟩ := h.st d
  obtain ⟨o1, o2⟩ := hs.t ha
  have h63 : jc_i K 63 4 = N := hs.2.2.2.1.2.1.1
  have h12 : G 92 12 = N := hs.2.2.2.1.h12
  rw [if_pos hs.2.1, if_pos ha, o1, h63, if_pos d, if_pos ha, h12]
  rcases o2 with o | o
  · rw [if_pos o, if_pos o, jo_bs, jo_bs]
    exact ⟨_, _, jl_cmp_r (mp := jl_m232) (by decide) jg_uH, h.thr 2⟩
  rw [if_neg (show ¬ G 107 a = 0 by omega), if_neg (show ¬ G 107 a = 0 by omega)]
  by_cases n200 : (N : Int) < 200
  case neg =>
    rw [if_neg n200, if_neg n200, jo_bs, jo_bs]
    exact ⟨_, _, jl_cmp_r (mp := jl_m232) (by decide) jg_uH, h.thr 2⟩
  rw [if_pos n200, if_pos n200]
  have hW : W.1 ≤ 2000000000 := by have := hs.2.2.1; omega
  have n120 : 120 ≤ K.1.1 := hs.2.2.2.1.2.2.2.1.1
  obtain ⟨t1, t2, t3⟩ := hs.2.2.2.t 0
  obtain ⟨K1, c, G1, r1, r2, r3, r4⟩ := jlock (B := 199) (κ := k) ⟨t1, t2.b (by omega), t3⟩ (by omega) (by decide) hW ha hb (by rw [jg_uN (by decide)]; exact o)
  rw [r1, jo_bs, r2, jo_bs]
  dsimp only
  have g1 : jk_g jQX K K1 := r3.mono (fun n e => Or.inl e)
  rcases r4 with ⟨ec, ⟨N1, hL1⟩, o1'⟩ | ⟨ec, N1, hL1⟩ | ⟨ec, hE, hMf, h62⟩
  · subst ec
    rw [if_pos rfl, if_pos rfl]
    have nf1 := hL1.2.1.nf
    obtain ⟨K2, c2, q1, q2, q3⟩ := jput_l (κ := k) (W := (W.1, 0, W.2.2)) (by omega) hW hb a e 0 jo_N jo_N 0 K1 G1 N1 199 hL1.1 hL1.2.1 hL1.2.2.1 (by decide) (by omega) (by omega) (by unfold jo_N; omega) (by unfold jo_N; omega)
    have g2 : jk_g jQX K K2 := g1.trans (q2.mono (fun n e => Or.inr e))
    have n1201 : 120 ≤ K1.1.1 := hL1.1.2.2.2.1.1
    have k62 : ∀ K', jk_g jQF K1 K' → ∀ j, 0 ≤ j → j < 32 → -1 ≤ jc_i K' 62 j ∧ jc_i K' 62 j < 4 := fun K' g j j0 j1 => by
      rw [g.2.2.2 62 j (by omega) jQF3.2.2, (hL1.2.2.2.1.2 j j0 j1).1]
      exact (hL1.2.2.2.1.2 j j0 j1).2
    have e143 : fc143 K1 b = some (K2, c2) := q1
    rw [e143, jo_bs]
    dsimp only
    rcases q3 with ⟨ec2, G2, N2, B2, L, s1, s2, s3, s4, s5, s6, s7, s8, s9⟩ | ⟨ec2, G2, N2, B2, s1, s2, s3, s4, s5, s6, s7⟩ | ⟨ec2, G2, s1, s2, s3⟩
    · subst ec2
      rw [if_pos rfl, s1]
      have hL2 : jLv K2 G2 N2 k k (W.1, 0, W.2.2) B2 := hL1.f s2 s4 s6 q2 jQF3 s3.tr (fun s s0 s1 _ => by rw [← s4.2.1 s s0 s1, s9, hL1.2.1.2.1 s s0 s1])
      obtain ⟨K3, G3, b3, v1, v2, v3, v4⟩ := jM_change (key := b) (v := e) s2 s4 (by omega) (by omega) hW ha hb ⟨by omega, e4⟩ s7 s8 s6 (Or.inl (by rw [(s3.tr a).1]; exact o1'))
      have g3 : jk_g jQX K K3 := g2.trans (v3.mono (fun n e => Or.inr (Or.inr e)))
      unfold jfin
      rw [v1, jo_bs, v2, jo_bs]
      dsimp only
      rcases v4 with ⟨e3, x1, x2, x3, x4⟩ | ⟨e3, x1, x2, x3⟩
      · rw [if_neg (show ¬ b3 = 0 by omega), jtold_a (show (0 : Int) ≠ -4 by decide), jo_bs, if_pos x1.1.h7, jo_bs, jo_bs]
        have hz3 : jT_z (fun z => jh G3 (N2 + 1) z) := x2.z (x3 (by omega))
        obtain ⟨z1, z2⟩ := jfinA (N' := N2 + 1) hs g3 ((hL2.f x1.1 x1.2.2.1 hz3 v3 jQ3 x1.2.1.tr (fun s s0 s1 h0 => x4 s s0 s1 (fun z => by
          rw [z, (s3.tr a).1, o1'] at h0
          exact absurd h0 (by decide)))).le (B' := 223) (Nat.le_refl _) (Nat.le_refl _) (by omega))
        exact ⟨_, _, jl_cmp_l (mp := jl_m232) z2 rfl, z1⟩
      · rw [if_pos e3, if_neg x1.h7]
        have h62 := k62 K3 (q2.trans (v3.mono (fun n e => Or.inr e)))
        obtain ⟨⟨K4, z1, z2⟩, z3⟩ := jfinF hs g3 x1 (x2.le (Nat.le_refl _) (by omega)) h62
        rw [z1, jo_bs, jo_bs, jo_bs]
        exact ⟨_, _, jl_cmp_l (mp := jl_m232) z3 rfl, z2⟩
    · subst ec2
      rw [if_neg (show ¬ (-5 : Int) = 0 by decide), jtold_a (show (-5 : Int) ≠ -4 by decide), jo_bs, s1, jo_bs, jo_bs]
      have hL2 : jLv K2 G2 N2 k k (W.1, 0, W.2.2) B2 := hL1.f s2 s4 s6 q2 jQF3 s3.tr (fun s s0 s1 _ => by rw [← s4.2.1 s s0 s1, s7, hL1.2.1.2.1 s s0 s1])
      obtain ⟨z1, z2⟩ := jfinA hs g2 (hL2.le (Nat.le_refl _) (by omega) (by omega))
      exact ⟨_, _, jl_cmp_l (mp := jl_m232) z2 rfl, z1⟩
    · subst ec2
      obtain ⟨⟨K4, z1, z2⟩, z3⟩ := jfinF hs g2 s2 (s3.le (by omega) (Nat.le_refl _)) (k62 K2 q2)
      rw [if_neg (show ¬ (-4 : Int) = 0 by decide), z1, jo_bs, s1, jo_bs, jo_bs]
      exact ⟨_, _, jl_cmp_l (mp := jl_m232) z3 rfl, z2⟩
  · have cn : c ≠ 0 ∧ c ≠ -4 := by omega
    rw [if_neg cn.1, if_neg cn.1, jtold_a cn.2, jo_bs, jo_bs, jo_bs]
    obtain ⟨z1, z2⟩ := jfinA hs g1 (hL1.le (Nat.le_refl _) (Nat.le_refl _) (by decide))
    exact ⟨_, _, jl_cmp_l (mp := jl_m232) z2 rfl, z1⟩
  · subst ec
    obtain ⟨⟨K3, z1, z2⟩, z3⟩ := jfinF hs g1 hE (hMf.le (Nat.le_refl _) (by decide)) h62
    rw [if_neg (show ¬ (-4 : Int) = 0 by decide), if_neg (show ¬ (-4 : Int) = 0 by decide), z1, jo_bs, jo_bs, jo_bs]
    exact ⟨_, _, jl_cmp_l (mp := jl_m232) z3 rfl, z2⟩
theorem jk_sh_up : ∀ (s m : Nat) (K : jc_K) (st i : Int) (r : jc_K × Int), jk_sh s K st i = some r → s ≤ m → jk_sh m K st i = some r
  | 0, m, K, st, i, r, h, _ => by cases h
  | s + 1, 0, K, st, i, r, _, h2 => by omega
  | s + 1, m + 1, K, st, i, r, h, h2 => by
    unfold jk_sh at h ⊢
    by_cases h1 : 24 ≤ i
    · rw [if_pos h1] at h ⊢; exact h
    · rw [if_neg h1] at h ⊢
      by_cases h3 : st = 0
      · rw [if_pos h3] at h ⊢; exact h
      · rw [if_neg h3] at h ⊢
        cases h81 : fc81 K with
        | none => rw [h81] at h; cases h
        | some x =>
          rw [h81, jo_bs] at h
          rw [jo_bs]
          by_cases h4 : x.2 = 0
          · rw [if_pos h4] at h ⊢; exact h
          · rw [if_neg h4] at h ⊢
            cases h70 : fc70 x.1 with
            | none => rw [h70] at h; cases h
            | some y =>
              rw [h70, jo_bs] at h
              rw [jo_bs]
              cases h82 : fc82 y.1 with
              | none => rw [h82] at h; cases h
              | some z =>
                rw [h82, jo_bs] at h
                rw [jo_bs]
                cases h83 : fc83 z.1 y.2 z.2 with
                | none => rw [h83] at h; cases h
                | some w =>
                  rw [h83, jo_bs] at h
                  rw [jo_bs]
                  by_cases h5 : -2147483648 ≤ (i + 1) ∧ (i + 1) < 2147483648
                  · rw [if_pos h5] at h ⊢
                    exact jk_sh_up s m w.1 w.2 (i + 1) r h (by omega)
                  · rw [if_neg h5] at h
                    cases h
theorem jcase2 (h : jIn K G k) (hk : k < 512) (a b e : Int) : ∃ K' G', js2 K G a b e = some (K', G') ∧ jIn K' G' (k + 1) := by
  unfold js2 fc109 fo194
  by_cases a0 : a < 0
  · rw [if_pos a0, if_pos a0, jo_bs, jo_bs]
    exact ⟨_, _, jl_cmp_r (mp := jl_m233) (by decide) jg_uH, h.thr 1⟩
  rw [if_neg a0, if_neg a0]
  by_cases a4 : a < 4
  case neg =>
    rw [if_neg a4, if_pos (show 3 < a by omega), jo_bs, jo_bs]
    exact ⟨_, _, jl_cmp_r (mp := jl_m233) (by decide) jg_uH, h.thr 1⟩
  rw [if_pos a4, if_neg (show ¬ 3 < a by omega)]
  by_cases b0 : b < 0
  · rw [if_pos b0, if_pos b0, jo_bs, jo_bs]
    exact ⟨_, _, jl_cmp_r (mp := jl_m233) (by decide) jg_uH, h.thr 1⟩
  rw [if_neg b0, if_neg b0]
  by_cases b4 : b < 32
  case neg =>
    rw [if_neg b4, if_pos (show 31 < b by omega), jo_bs, jo_bs]
    exact ⟨_, _, jl_cmp_r (mp := jl_m233) (by decide) jg_uH, h.thr 1⟩
  rw [if_pos b4, if_neg (show ¬ 31 < b by omega)]
  have ha : 0 ≤ a ∧ a < 4 := ⟨by omega, a4⟩
  have hb : 0 ≤ b ∧ b < 32 := ⟨by omega, b4⟩
  by_cases d : G 92 7 = 0
  case neg =>
    have d' : ¬ jc_i K 2 8 = 0 := fun z => d (h.down.1 z)
    rw [if_neg d', if_neg d, jo_bs, jo_bs]
    exact ⟨_, _, jl_cmp_r (mp := jl_m233) (by decide) jg_uH, h.thr 2⟩
  obtain ⟨N, W, hs⟩ := h.st d
  obtain ⟨o1, o2⟩ := hs.t ha
  have h63 : jc_i K 63 4 = N := hs.2.2.2.1.2.1.1
  have h12 : G 92 12 = N := hs.2.2.2.1.h12
  rw [if_pos hs.2.1, if_pos ha, o1, h63, if_pos d, if_pos ha, h12]
  rcases o2 with o | o
  · rw [if_pos o, if_pos o, jo_bs, jo_bs]
    exact ⟨_, _, jl_cmp_r (mp := jl_m233) (by decide) jg_uH, h.thr 2⟩
  rw [if_neg (show ¬ G 107 a = 0 by omega), if_neg (show ¬ G 107 a = 0 by omega)]
  by_cases n200 : (N : Int) < 200
  case neg =>
    rw [if_neg n200, if_neg n200, jo_bs, jo_bs]
    exact ⟨_, _, jl_cmp_r (mp := jl_m233) (by decide) jg_uH, h.thr 2⟩
  rw [if_pos n200, if_pos n200]
  have hW : W.1 ≤ 2000000000 := by have := hs.2.2.1; omega
  have n120 : 120 ≤ K.1.1 := hs.2.2.2.1.2.2.2.1.1
  obtain ⟨t1, t2, t3⟩ := hs.2.2.2.t 0
  obtain ⟨K1, c, G1, r1, r2, r3, r4⟩ := jlock (B := 199) (κ := k) ⟨t1, t2.b (by omega), t3⟩ (by omega) (by decide) hW ha hb (by rw [jg_uN (by decide)]; exact o)
  rw [r1, jo_bs, r2, jo_bs]
  dsimp only
  have g1 : jk_g jQX K K1 := r3.mono (fun n e => Or.inl e)
  rcases r4 with ⟨ec, ⟨N1, hL1⟩, o1'⟩ | ⟨ec, N1, hL1⟩ | ⟨ec, hE, hMf, h62⟩
  · subst ec
    rw [if_pos rfl, if_pos rfl]
    have n1201 : 120 ≤ K1.1.1 := hL1.1.2.2.2.1.1
    have k62 : ∀ K', (∀ j, jc_i K' 62 j = jc_i K1 62 j) → ∀ j, 0 ≤ j → j < 32 → -1 ≤ jc_i K' 62 j ∧ jc_i K' 62 j < 4 := fun K' g j j0 j1 => by
      rw [g j, (hL1.2.2.2.1.2 j j0 j1).1]
      exact (hL1.2.2.2.1.2 j j0 j1).2
    obtain ⟨K2, G2, b1, u1, u2, u3, u4⟩ := jM_find hL1.1 hL1.2.1 (by omega) (by decide) hW hb hL1.2.2.1.pos
    have g2 : jk_g jQX K K2 := g1.trans ((jk_g.s u3).mono (fun n e => Or.inr (Or.inl e)))
    rw [u1, jo_bs, u2, jo_bs]
    dsimp only
    rcases u4 with ⟨e1, y1, y2, y3, L, w, hL⟩ | ⟨e1, y1, y2⟩
    · have hz2 := hL1.2.2.1.same (fun z => y3.l.h N1 z)
      have hL2 : jLv K2 G2 N1 k k (W.1, 0, W.2.2) 199 := hL1.f y1 y2 hz2 (jk_g.s u3) jF_n3 y3.tr (fun s _ _ _ => y3.l.t s N1)
      obtain ⟨v, kk, v1, v2, ⟨v3, v4⟩, v5, v6⟩ := w.val y1 hL
      have w29 : G2 92 29 - 1 = L := by rw [w.1.2]; omega
      have pb := (w.2.1 L (by omega) (Int.le_refl _)).2
      rw [if_neg (show ¬ b1 = 0 by omega), v1, jo_bs]
      dsimp only
      rw [if_pos y1.h7]
      simp only [w29]
      rw [if_pos (show 0 ≤ (L : Int) ∧ (L : Int) < 25 by omega), if_pos pb, jo_le, if_pos (show 0 ≤ fr_ro G2 (G2 112 L) ∧ fr_ro G2 (G2 112 L) < 4554 by omega), if_pos v4, jo_le, v5]
      rcases v6 with ⟨q1, q2, q3, q4⟩ | ⟨q1, q2⟩
      · rw [if_neg q4, if_pos q1, if_pos (show 0 ≤ 67 * fr_ro G2 (G2 112 L) + 4 + 2 * kk ∧ 67 * fr_ro G2 (G2 112 L) + 4 + 2 * kk < 305118 by omega), q3]
        obtain ⟨K3, G3, b3, x1, x2, x3, x4⟩ := jM_change (key := b) (v := -1) y1 y2 (by omega) (by decide) hW ha hb (by decide) w hL hz2 (Or.inl (by rw [(y3.tr a).1]; exact o1'))
        have g3 : jk_g jQX K K3 := g2.trans (x3.mono (fun n e => Or.inr (Or.inr e)))
        have n1202 : 120 ≤ K2.1.1 := y1.2.2.2.1.1
        have c62 : ∀ j, jc_i K3 62 j = jc_i K1 62 j := fun j => by rw [x3.2.2.2 62 j (by omega) jQ3.2.2, u3.2 62 jF_n3.2.2]
        rw [x1, jo_bs, x2, jo_bs, jk_sh_109]
        dsimp only
        rcases x4 with ⟨e3, p1, p2, p3, p4⟩ | ⟨e3, p1, p2, p29⟩
        · subst e3
          have nq : ∀ n, n = 79 ∨ n = 80 → ¬ jQ n := fun n hn z => by unfold jQ jS_n at z; omega
          have hd : jc_i K3 79 3 = L := by rw [x3.2.2.2 79 3 (by omega) (nq 79 (Or.inl rfl))]; exact w.1.1
          have hw : ∀ j : Int, 0 ≤ j → j ≤ L → jc_i K3 80 j = G3 112 j := fun j j0 j1 => by
            rw [x3.2.2.2 80 j (by omega) (nq 80 (Or.inr rfl)), p1.2.2.2.1]
            exact (w.2.1 j j0 j1).1
          have e183 : fo183 G3 = fo183_7 jo_N G3 L := by
            unfold fo183
            rw [p1.2.2.2.2, w29, if_pos (by omega)]
          obtain ⟨s, K4, G4, st, N4, ⟨z0, _⟩, z1, z2, z3, z4⟩ := jshr (κ := k + 1) (W := (W.1, 0, W.2.2)) (by omega) (B := 200) (by decide) hW L jo_N 0 K3 G3 (N1 + 1) p1.1 p1.2.2.1 hd hw p2 (by decide) (by omega) (by unfold jo_N; omega)
          have g4 : jk_g jQX K K4 := g3.trans (z3.mono (fun n e => Or.inl (Or.inl (Or.inl (by unfold jQ9 at e; unfold jQB; rcases e with e | e; exact Or.inl e; exact Or.inr (Or.inl e))))))
          rw [jk_sh_up s jo_N K3 1 0 (K4, st) z1 (by unfold jo_N; omega), jo_bs, e183, z2, jo_bs]
          dsimp only
          rcases z4 with ⟨es, m1, m2, m3⟩ | ⟨es, m1, m2⟩
          · rw [if_neg (show ¬ st = 0 by omega), jtold_a (show v ≠ -4 by omega), jo_bs, if_pos m1.1.h7, jo_bs, jo_bs]
            have hL4 : jLv K4 G4 N4 k (k + 1) (W.1, 0, W.2.2) 200 := hL2.f m1.1 m1.2.2.1 m2 ((x3.mono (fun n e => Or.inl e)).trans z3) jQ93 (fun j => ⟨((m1.2.1.tr j).1).trans (p1.2.1.tr j).1, ((m1.2.1.tr j).2.1).trans (p1.2.1.tr j).2.1, ((m1.2.1.tr j).2.2).trans (p1.2.1.tr j).2.2⟩) (fun s s0 s1 h0 => by
              rw [← m1.2.2.1.2.1 s s0 s1, m3, p1.2.2.1.2.1 s s0 s1]
              exact p4 s s0 s1 (fun z => by
                rw [z, (y3.tr a).1, o1'] at h0
                exact absurd h0 (by decide)))
            obtain ⟨f1, f2⟩ := jfinA hs g4 (hL4.le (Nat.le_refl _) (Nat.le_refl _) (by decide))
            exact ⟨_, _, jl_cmp_l (mp := jl_m233) f2 rfl, f1⟩
          · rw [if_pos es, if_neg m1.h7]
            have h62 := k62 K4 (fun j => by rw [z3.2.2.2 62 j (by have := p1.1.2.2.2.1.1; omega) jQ93.2.2, c62])
            obtain ⟨⟨K5, f1, f2⟩, f3⟩ := jfinF hs g4 m1 (m2.le (Nat.le_refl _) (by decide)) h62
            rw [f1, jo_bs, jo_bs, jo_bs]
            exact ⟨_, _, jl_cmp_l (mp := jl_m233) f3 rfl, f2⟩
        · subst e3
          have e183 : fo183 G3 = some (G3, 0) := by
            unfold fo183
            rw [p29, w29, if_pos (by omega), show jo_N = 3999 + 1 from rfl]
            unfold fo183_7
            rw [if_neg p1.h7]
          have esh : jk_sh jo_N K3 0 0 = some (K3, 0) := by
            rw [show jo_N = 3999 + 1 from rfl]
            unfold jk_sh
            rw [if_neg (by decide), if_pos rfl]
          rw [esh, jo_bs, e183, jo_bs]
          dsimp only
          rw [if_pos rfl, if_neg p1.h7]
          obtain ⟨⟨K5, f1, f2⟩, f3⟩ := jfinF hs g3 p1 (p2.le (Nat.le_refl _) (by decide)) (k62 K3 c62)
          rw [f1, jo_bs, jo_bs, jo_bs]
          exact ⟨_, _, jl_cmp_l (mp := jl_m233) f3 rfl, f2⟩
      · rw [if_pos q2, if_neg (show ¬ 0 ≤ kk by omega), jo_bs, jo_bs]
        obtain ⟨z1, z2⟩ := jfinA hs g2 (hL2.le (Nat.le_refl _) (by omega) (by decide))
        exact ⟨_, _, jl_cmp_l (mp := jl_m233) z2 rfl, z1⟩
    · rw [if_pos e1, if_neg y1.h7]
      have h62 := k62 K2 (fun j => u3.2 62 jF_n3.2.2 j)
      obtain ⟨⟨K3, z1, z2⟩, z3⟩ := jfinF hs g2 y1 (y2.le (by omega) (by decide)) h62
      rw [z1, jo_bs, jo_bs, jo_bs]
      exact ⟨_, _, jl_cmp_l (mp := jl_m233) z3 rfl, z2⟩
  · have cn : c ≠ 0 ∧ c ≠ -4 := by omega
    rw [if_neg cn.1, if_neg cn.1, jtold_a cn.2, jo_bs, jo_bs, jo_bs]
    obtain ⟨z1, z2⟩ := jfinA hs g1 (hL1.le (Nat.le_refl _) (Nat.le_refl _) (by decide))
    exact ⟨_, _, jl_cmp_l (mp := jl_m233) z2 rfl, z1⟩
  · subst ec
    obtain ⟨⟨K3, z1, z2⟩, z3⟩ := jfinF hs g1 hE (hMf.le (Nat.le_refl _) (by decide)) h62
    rw [if_neg (show ¬ (-4 : Int) = 0 by decide), if_neg (show ¬ (-4 : Int) = 0 by decide), z1, jo_bs, jo_bs, jo_bs]
    exact ⟨_, _, jl_cmp_l (mp := jl_m233) z3 rfl, z2⟩
end Pt
