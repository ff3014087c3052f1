/-! PUT, TAKE -/
section Pt
variable {K : jc_K} {G : jg_G} {N k : Nat} {W : jZW}
theorem jM.b {G : jg_G} {N κ B B' : Nat} {W : jZW} (h : jM G N κ W B) (hB : N ≤ B') : jM G N κ W B' := by
  obtain ⟨a, b, c, d, e, f⟩ := h
  have := jcw_all N (fun r r0 r1 => (a.1.1 r r0 r1).1)
  exact ⟨a, b, c, d, by omega, f⟩
theorem jput (hs : jSt K G N k W) (hk : k < 512) {a b e : Int} (ha : 0 ≤ a ∧ a < 4) (o : G 107 a = 1) (hb : 0 ≤ b ∧ b < 32) (he : 0 ≤ e ∧ e < 1000) (hN : N < 200) : ∃ K' c G', fc108 K a b e = some (K', .inl c) ∧ jRs K' G' k W c a b G N (fun Gl Nl G' N' => (c = 0 ∧ jzc Gl Nl G' N' a b e) ∨ (c = -5 ∧ jzs Gl Nl G' N')) := by
  obtain ⟨o1, _⟩ := hs.t ha
  have h63 : jc_i K 63 4 = N := hs.2.2.2.1.2.1.1
  have hW : W.1 ≤ 2000000000 := by have := hs.2.2.1; omega
  have n120 : 98 ≤ K.1.1 := hs.2.2.2.1.2.2.2.1.1
  obtain ⟨t1, t2, t3⟩ := hs.2.2.2.t 0
  obtain ⟨K1, c, G1, r1, r2, r3, r4⟩ := jlock (B := 199) (κ := k) ⟨t1, t2.b (by omega), t3⟩ (by omega) (by decide) hW ha hb (by rw [jg_uN (by decide)]; exact o)
  have f1 : jf6 G G1 := ((jf6.refl G).u (n := 92) (i := 0) (v := 0) (Or.inr (by decide))).trans (f6_190 _ _ _ _ r2)
  have h7 : G 92 7 = 0 := hs.2.2.2.1.h7
  have st : fc108 K a b e = ((fc142 K a b).bind fun x11 => if x11.2 = 0 then ((fc143 (x11.1) b).bind fun x16 => if x16.2 = 0 then ((fc144 (x16.1) a b e).bind fun x21 => if x21.2 = 0 then ((fc140 (x21.1) (-4)).bind fun x26 => some (x26.1, .inl (x26.2))) else ((fc140 (x21.1) (x16.2)).bind fun x24 => some (x24.1, .inl (x24.2)))) else ((fc140 (x16.1) (x16.2)).bind fun x19 => some (x19.1, .inl (x19.2)))) else ((fc140 (x11.1) (x11.2)).bind fun x14 => some (x14.1, .inl (x14.2)))) := by
    unfold fc108
    rw [if_neg (by omega), if_pos ha.2, if_neg (by omega), if_pos hb.2, if_neg (by omega), if_pos he.2, if_pos hs.2.1, if_pos ha, o1, if_neg (by omega), h63, if_pos (by omega)]
  rw [st, r1, jo_bs]
  dsimp only
  have g1 : jk_g jQX K K1 := r3.mono (fun n e => Or.inl e)
  rcases r4 with ⟨ec, ⟨N1, hL1, hk1⟩, o1', l1'⟩ | ⟨ec, N1, hL1, hk1⟩ | ⟨ec, hE, hMf, h62⟩
  · subst ec
    rw [if_pos rfl]
    have nf1 := hL1.2.1.nf
    obtain ⟨K2, c2, q1, q2, q3⟩ := jput_l (κ := k) (W := (W.1, 0, W.2.2)) (by omega) hW hb a e 0 jo_N jo_N 0 K1 G1 N1 199 hL1.1 hL1.2.1 hL1.2.2.1 (by decide) (by omega) (by omega) (by unfold jo_N; omega) (by unfold jo_N; omega)
    have F : jF6 G1 ((fo175 G1 b).bind fun y => fo193_s jo_N 97 (y.1) a b e 0 0) := jF6.bind (f6_175 _ _) (fun x hx => jF6.call hx (f6_193_s _ _ _ _ _ _ _ _))
    have g2 : jk_g jQX K K2 := g1.trans (q2.mono (fun n e => Or.inr e))
    have n1201 : 98 ≤ K1.1.1 := hL1.1.2.2.2.1.1
    have k62 : ∀ K', jk_g jQF K1 K' → ∀ j, 0 ≤ j → j < 32 → -1 ≤ jc_i K' 62 j ∧ jc_i K' 62 j < 4 := fun K' g j j0 j1 => by
      rw [g.2.2.2 62 j (by omega) jQF3.2.2, (hL1.2.2.2.1.2 j j0 j1).1]
      exact (hL1.2.2.2.1.2 j j0 j1).2
    have e143 : fc143 K1 b = some (K2, c2) := q1
    rw [e143, jo_bs]
    dsimp only
    rcases q3 with ⟨ec2, G2, N2, B2, L, s1, s2, s3, s4, s5, s6, s7, s8, s9, s10⟩ | ⟨ec2, G2, N2, B2, s1, s2, s3, s4, s5, s6, s7, s8⟩ | ⟨ec2, G2, s1, s2, s3⟩
    · subst ec2
      rw [if_pos rfl]
      have hL2 : jLv K2 G2 N2 k k (W.1, 0, W.2.2) B2 := hL1.f s2 s4 s6 q2 jQF3 s3.tr (fun s s0 s1 _ => by rw [← s4.2.1 s s0 s1, s9, hL1.2.1.2.1 s s0 s1])
      have l2' : G2 111 b = a := ((s3.tr b).2.2).trans l1'
      have zs : jzs G1 N1 G2 N2 := jzs.no hL1.2.1 s4 s3 s10 (fun t _ _ => s9 t)
      obtain ⟨K3, G3, b3, v1, v2, v3, v4⟩ := jM_change (key := b) (v := e) s2 s4 (by omega) (by omega) hW ha hb ⟨by omega, he.2⟩ s7 s8 s6 (Or.inl (by rw [(s3.tr a).1]; exact o1')) (fun _ => l2') (hL2.hot ha hb l2')
      have g3 : jk_g jQX K K3 := g2.trans (v3.mono (fun n e => Or.inr (Or.inr e)))
      have fin : jfin G2 a b e = if G3 92 7 = 0 then (some (G3, 0)) else (some (G3, (-4))) := by
        unfold jfin
        rw [v2, jo_bs]
      rw [fin] at s1
      rw [v1, jo_bs]
      dsimp only
      rcases v4 with ⟨e3, x1, x2, x3, x4, x5, x6, x7, x8, x9⟩ | ⟨e3, x1, x2, x3⟩
      · rw [if_neg (show ¬ b3 = 0 by omega), jtold_a (show (0 : Int) ≠ -4 by decide), jo_bs]
        have hz3 : jT_z (fun z => jh G3 (N2 + 1) z) := x2.z (x3 (by omega))
        have z := jfinA (N' := N2 + 1) hs g3 ((hL2.f x1.1 x1.2.2.1 hz3 v3 jQ3 x1.2.1.tr (fun s s0 s1 h0 => x4 s s0 s1 (fun z => by
          rw [z, (s3.tr a).1, o1'] at h0
          exact absurd h0 (by decide)))).le (B' := 223) (Nat.le_refl _) (Nat.le_refl _) (by omega))
        exact ⟨K3, 0, G3, rfl, Or.inr ⟨by decide, N2 + 1, 0, G1, N1, z, hk1, Or.inr ⟨rfl, Or.inl ⟨rfl, zs.c (jzc.of s4 x1.2.2.1 x1.2.1 ha x5 x6 x7 x8 x9) ha⟩⟩⟩⟩
      · rw [if_pos e3]
        rw [if_neg x1.h7] at s1
        have h62 := k62 K3 (q2.trans (v3.mono (fun n e => Or.inr e)))
        obtain ⟨K4, z1, z2⟩ := jfinF hs g3 x1 (x2.le (Nat.le_refl _) (by omega)) h62
        rw [z1, jo_bs]
        exact ⟨K4, -4, G3, rfl, Or.inl ⟨rfl, z2, (f1.trans (F _ s1)).2.1 h7 x1.h7⟩⟩
    · subst ec2
      rw [if_neg (show ¬ (-5 : Int) = 0 by decide), jtold_a (show (-5 : Int) ≠ -4 by decide), jo_bs]
      have hL2 : jLv K2 G2 N2 k k (W.1, 0, W.2.2) B2 := hL1.f s2 s4 s6 q2 jQF3 s3.tr (fun s s0 s1 _ => by rw [← s4.2.1 s s0 s1, s7, hL1.2.1.2.1 s s0 s1])
      have z := jfinA hs g2 (hL2.le (Nat.le_refl _) (by omega) (by omega))
      exact ⟨K2, -5, G2, rfl, Or.inr ⟨by decide, N2, 0, G1, N1, z, hk1, Or.inr ⟨rfl, Or.inr ⟨rfl, jzs.no hL1.2.1 s4 s3 s8 (fun t _ _ => s7 t)⟩⟩⟩⟩
    · subst ec2
      obtain ⟨K4, z1, z2⟩ := jfinF hs g2 s2 (s3.le (by omega) (Nat.le_refl _)) (k62 K2 q2)
      rw [if_neg (show ¬ (-4 : Int) = 0 by decide), z1, jo_bs]
      exact ⟨K4, -4, G2, rfl, Or.inl ⟨rfl, z2, (f1.trans (F _ s1)).2.1 h7 s2.h7⟩⟩
  · have cn : c ≠ 0 ∧ c ≠ -4 := by omega
    rw [if_neg cn.1, jtold_a cn.2, jo_bs]
    exact ⟨K1, c, G1, rfl, Or.inr ⟨cn.2, N1, c, G1, N1, jfinA hs g1 (hL1.le (Nat.le_refl _) (Nat.le_refl _) (by decide)), hk1, Or.inl ⟨by omega, rfl, rfl, rfl⟩⟩⟩
  · subst ec
    obtain ⟨K3, z1, z2⟩ := jfinF hs g1 hE (hMf.le (Nat.le_refl _) (by decide)) h62
    rw [if_neg (show ¬ (-4 : Int) = 0 by decide), z1, jo_bs]
    exact ⟨K3, -4, G1, rfl, Or.inl ⟨rfl, z2, f1.2.1 h7 hE.h7⟩⟩
theorem jk_sh_up : ∀ (s m : Nat) (K : jc_K) (st i : Int) (r : jc_K × Int), jk_sh s K st i = some r → s ≤ m → jk_sh m K st i = some r
  | 0, m, K, st, i, r, h, _ => by cases h
  | s + 1, 0, K, st, i, r, _, h2 => by omega
  | s + 1, m + 1, K, st, i, r, h, h2 => by
    unfold jk_sh at h ⊢
    by_cases h1 : 24 ≤ i
    · rw [if_pos h1] at h ⊢; exact h
    · rw [if_neg h1] at h ⊢
      by_cases h3 : st = 0
      · rw [if_pos h3] at h ⊢; exact h
      · rw [if_neg h3] at h ⊢
        cases h81 : fc81 K with
        | none => rw [h81] at h; cases h
        | some x =>
          rw [h81, jo_bs] at h
          rw [jo_bs]
          by_cases h4 : x.2 = 0
          · rw [if_pos h4] at h ⊢; exact h
          · rw [if_neg h4] at h ⊢
            cases h70 : fc70 x.1 with
            | none => rw [h70] at h; cases h
            | some y =>
              rw [h70, jo_bs] at h
              rw [jo_bs]
              cases h82 : fc82 y.1 with
              | none => rw [h82] at h; cases h
              | some z =>
                rw [h82, jo_bs] at h
                rw [jo_bs]
                cases h83 : fc83 z.1 y.2 z.2 with
                | none => rw [h83] at h; cases h
                | some w =>
                  rw [h83, jo_bs] at h
                  rw [jo_bs]
                  by_cases h5 : -2147483648 ≤ (i + 1) ∧ (i + 1) < 2147483648
                  · rw [if_pos h5] at h ⊢
                    exact jk_sh_up s m w.1 w.2 (i + 1) r h (by omega)
                  · rw [if_neg h5] at h
                    cases h
theorem jtake (hs : jSt K G N k W) (hk : k < 512) {a b : Int} (ha : 0 ≤ a ∧ a < 4) (o : G 107 a = 1) (hb : 0 ≤ b ∧ b < 32) (hN : N < 200) : ∃ K' c G', fc109 K a b = some (K', .inl c) ∧ jRs K' G' k W c a b G N (fun Gl Nl G' N' => c = jzA Gl b Nl ∧ ((c = -1 ∧ jzs Gl Nl G' N') ∨ (c ≠ -1 ∧ jzc Gl Nl G' N' a b (-1)))) := by
  obtain ⟨o1, _⟩ := hs.t ha
  have h63 : jc_i K 63 4 = N := hs.2.2.2.1.2.1.1
  have hW : W.1 ≤ 2000000000 := by have := hs.2.2.1; omega
  have n120 : 98 ≤ K.1.1 := hs.2.2.2.1.2.2.2.1.1
  obtain ⟨t1, t2, t3⟩ := hs.2.2.2.t 0
  obtain ⟨K1, c, G1, r1, r2, r3, r4⟩ := jlock (B := 199) (κ := k) ⟨t1, t2.b (by omega), t3⟩ (by omega) (by decide) hW ha hb (by rw [jg_uN (by decide)]; exact o)
  have f1 : jf6 G G1 := ((jf6.refl G).u (n := 92) (i := 0) (v := 0) (Or.inr (by decide))).trans (f6_190 _ _ _ _ r2)
  have h7 : G 92 7 = 0 := hs.2.2.2.1.h7
  have st : fc109 K a b = ((fc142 K a b).bind fun x9 => if x9.2 = 0 then ((fc71 (x9.1) b).bind fun x12 => if x12.2 = 0 then ((fc140 (x12.1) (-4)).bind fun x20 => some (x20.1, .inl (x20.2))) else ((fc72 (x12.1) b).bind fun x15 => if x15.2 = (-1) then (some (x15.1, .inl ((-1)))) else ((fc144 (x15.1) a b (-1)).bind fun x18 => fc109_82 jo_N (x18.1) a b (x9.2) (x15.2) (x18.2) 0))) else ((fc140 (x9.1) (x9.2)).bind fun x22 => some (x22.1, .inl (x22.2)))) := by
    unfold fc109
    rw [if_neg (by omega), if_pos ha.2, if_neg (by omega), if_pos hb.2, if_pos hs.2.1, if_pos ha, o1, if_neg (by omega), h63, if_pos (by omega)]
  rw [st, r1, jo_bs]
  dsimp only
  have g1 : jk_g jQX K K1 := r3.mono (fun n e => Or.inl e)
  rcases r4 with ⟨ec, ⟨N1, hL1, hk1⟩, o1', l1'⟩ | ⟨ec, N1, hL1, hk1⟩ | ⟨ec, hE, hMf, h62⟩
  · subst ec
    rw [if_pos rfl]
    have n1201 : 98 ≤ K1.1.1 := hL1.1.2.2.2.1.1
    have k62 : ∀ K', (∀ j, jc_i K' 62 j = jc_i K1 62 j) → ∀ j, 0 ≤ j → j < 32 → -1 ≤ jc_i K' 62 j ∧ jc_i K' 62 j < 4 := fun K' g j j0 j1 => by
      rw [g j, (hL1.2.2.2.1.2 j j0 j1).1]
      exact (hL1.2.2.2.1.2 j j0 j1).2
    obtain ⟨K2, G2, b1, u1, u2, u3, u4⟩ := jM_find hL1.1 hL1.2.1 (by omega) (by decide) hW hb hL1.2.2.1.pos
    have g2 : jk_g jQX K K2 := g1.trans ((jk_g.s u3).mono (fun n e => Or.inr (Or.inl e)))
    have f2 := f1.trans (f6_175 _ _ _ u2)
    rw [u1, jo_bs]
    dsimp only
    rcases u4 with ⟨e1, y1, y2, y3, L, w, hL⟩ | ⟨e1, y1, y2⟩
    · have hz2 := hL1.2.2.1.same (fun z => y3.l.h N1 z)
      have hL2 : jLv K2 G2 N1 k k (W.1, 0, W.2.2) 199 := hL1.f y1 y2 hz2 (jk_g.s u3) jF_n3 y3.tr (fun s _ _ _ => y3.l.t s N1)
      have l2' : G2 111 b = a := ((y3.tr b).2.2).trans l1'
      obtain ⟨v, kk, v1, v0, v2, ⟨v3, v4⟩, v5, v6⟩ := w.val y1 hL
      have vA : v = jzA G1 b N1 := by
        rw [v0, w.A y2 hL hb]
        exact (y3.l.a N1).zA b N1 (Int.le_refl _)
      have w29 : G2 92 29 - 1 = L := by rw [w.1.2]; omega
      rw [if_neg (show ¬ b1 = 0 by omega), v1, jo_bs]
      dsimp only
      rcases v6 with ⟨q1, q2, q3, q4⟩ | ⟨q1, q2⟩
      · rw [if_neg q4]
        obtain ⟨K3, G3, b3, x1, x2, x3, x4⟩ := jM_change (key := b) (v := -1) y1 y2 (by omega) (by decide) hW ha hb (by decide) w hL hz2 (Or.inl (by rw [(y3.tr a).1]; exact o1')) (fun _ => l2') (hL2.hot ha hb l2')
        have g3 : jk_g jQX K K3 := g2.trans (x3.mono (fun n e => Or.inr (Or.inr e)))
        have f3 := f2.trans (f6_192 _ _ _ _ _ x2)
        have n1202 : 98 ≤ K2.1.1 := y1.2.2.2.1.1
        have c62 : ∀ j, jc_i K3 62 j = jc_i K1 62 j := fun j => by rw [x3.2.2.2 62 j (by omega) jQ3.2.2, u3.2 62 jF_n3.2.2]
        rw [x1, jo_bs, jk_sh_109]
        dsimp only
        rcases x4 with ⟨e3, p1, p2, p3, p4, p5, p6, p7, p8, p9⟩ | ⟨e3, p1, p2, p29⟩
        · subst e3
          have nq : ∀ n, n = 79 ∨ n = 80 → ¬ jQ n := fun n hn z => by unfold jQ jS_n at z; omega
          have hd : jc_i K3 79 3 = L := by rw [x3.2.2.2 79 3 (by omega) (nq 79 (Or.inl rfl))]; exact w.1.1
          have hw : ∀ j : Int, 0 ≤ j → j ≤ L → jc_i K3 80 j = G3 112 j := fun j j0 j1 => by
            rw [x3.2.2.2 80 j (by omega) (nq 80 (Or.inr rfl)), p1.2.2.2.1]
            exact (w.2.1 j j0 j1).1
          obtain ⟨s, K4, G4, st, N4, ⟨z0, _⟩, z1, z2, z3, z4⟩ := jshr (κ := k + 1) (W := (W.1, 0, W.2.2)) (by omega) (B := 200) (by decide) hW L jo_N 0 K3 G3 (N1 + 1) p1.1 p1.2.2.1 hd hw p2 (by decide) (by omega) (by unfold jo_N; omega)
          have g4 : jk_g jQX K K4 := g3.trans (z3.mono (fun n e => Or.inl (Or.inl (Or.inl (by unfold jQ9 at e; unfold jQB; rcases e with e | e; exact Or.inl e; exact Or.inr (Or.inl e))))))
          have f4 := f3.trans (f6_183_7 _ _ _ _ z2)
          rw [jk_sh_up s jo_N K3 1 0 (K4, st) z1 (by unfold jo_N; omega), jo_bs]
          dsimp only
          rcases z4 with ⟨es, m1, m2, m3⟩ | ⟨es, m1, m2⟩
          · rw [if_neg (show ¬ st = 0 by omega), jtold_a (show v ≠ -4 by omega), jo_bs]
            have hL4 : jLv K4 G4 N4 k (k + 1) (W.1, 0, W.2.2) 200 := hL2.f m1.1 m1.2.2.1 m2 ((x3.mono (fun n e => Or.inl e)).trans z3) jQ93 (fun j => ⟨((m1.2.1.tr j).1).trans (p1.2.1.tr j).1, ((m1.2.1.tr j).2.1).trans (p1.2.1.tr j).2.1, ((m1.2.1.tr j).2.2).trans (p1.2.1.tr j).2.2⟩) (fun s s0 s1 h0 => by
              rw [← m1.2.2.1.2.1 s s0 s1, m3, p1.2.2.1.2.1 s s0 s1]
              exact p4 s s0 s1 (fun z => by
                rw [z, (y3.tr a).1, o1'] at h0
                exact absurd h0 (by decide)))
            have z := jfinA hs g4 (hL4.le (Nat.le_refl _) (Nat.le_refl _) (by decide))
            have zc : jzc G1 N1 G4 N4 a b (-1) := ((jzs.f y3).c (jzc.of y2 p1.2.2.1 p1.2.1 ha p5 p6 p7 p8 p9) ha).s (jzs.no p1.2.2.1 m1.2.2.1 m1.2.1 m1.2.2.2.2.2 (fun t _ _ => m3 t)) ha
            exact ⟨K4, v, G4, rfl, Or.inr ⟨by omega, N4, 0, G1, N1, z, hk1, Or.inr ⟨rfl, vA, Or.inr ⟨q4, zc⟩⟩⟩⟩
          · rw [if_pos es]
            have h62 := k62 K4 (fun j => by rw [z3.2.2.2 62 j (by have := p1.1.2.2.2.1.1; omega) jQ93.2.2, c62])
            obtain ⟨K5, y1', y2'⟩ := jfinF hs g4 m1 (m2.le (Nat.le_refl _) (by decide)) h62
            rw [y1', jo_bs]
            exact ⟨K5, -4, G4, rfl, Or.inl ⟨rfl, y2', f4.2.1 h7 m1.h7⟩⟩
        · subst e3
          have esh : jk_sh jo_N K3 0 0 = some (K3, 0) := by
            rw [show jo_N = 3999 + 1 from rfl]
            unfold jk_sh
            rw [if_neg (by decide), if_pos rfl]
          rw [esh, jo_bs]
          dsimp only
          rw [if_pos rfl]
          obtain ⟨K5, y1', y2'⟩ := jfinF hs g3 p1 (p2.le (Nat.le_refl _) (by decide)) (k62 K3 c62)
          rw [y1', jo_bs]
          exact ⟨K5, -4, G3, rfl, Or.inl ⟨rfl, y2', f3.2.1 h7 p1.h7⟩⟩
      · rw [if_pos q2]
        have z := jfinA hs g2 (hL2.le (Nat.le_refl _) (by omega) (by decide))
        exact ⟨K2, -1, G2, rfl, Or.inr ⟨by decide, N1, 0, G1, N1, z, hk1, Or.inr ⟨rfl, q2.symm.trans vA, Or.inl ⟨rfl, jzs.f y3⟩⟩⟩⟩
    · rw [if_pos e1]
      have h62 := k62 K2 (fun j => u3.2 62 jF_n3.2.2 j)
      obtain ⟨K3, z1, z2⟩ := jfinF hs g2 y1 (y2.le (by omega) (by decide)) h62
      rw [z1, jo_bs]
      exact ⟨K3, -4, G2, rfl, Or.inl ⟨rfl, z2, f2.2.1 h7 y1.h7⟩⟩
  · have cn : c ≠ 0 ∧ c ≠ -4 := by omega
    rw [if_neg cn.1, jtold_a cn.2, jo_bs]
    exact ⟨K1, c, G1, rfl, Or.inr ⟨cn.2, N1, c, G1, N1, jfinA hs g1 (hL1.le (Nat.le_refl _) (Nat.le_refl _) (by decide)), hk1, Or.inl ⟨by omega, rfl, rfl, rfl⟩⟩⟩
  · subst ec
    obtain ⟨K3, z1, z2⟩ := jfinF hs g1 hE (hMf.le (Nat.le_refl _) (by decide)) h62
    rw [if_neg (show ¬ (-4 : Int) = 0 by decide), z1, jo_bs]
    exact ⟨K3, -4, G1, rfl, Or.inl ⟨rfl, z2, f1.2.1 h7 hE.h7⟩⟩
end Pt
