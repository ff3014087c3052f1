/-! MARK: the call -/
section Mc
variable {K : jc_K} {G : jg_G} {k : Nat}
theorem jcase8 (h : jIn K G k) (hk : k < 512) (a b e : Int) : ∃ K' G', js8 K G a b e = some (K', G') ∧ jIn K' G' (k + 1) := by
  unfold js8 fc115 fo200
  by_cases d : G 92 7 = 0
  case neg =>
    have d' : ¬ jc_i K 2 8 = 0 := fun z => d (h.down.1 z)
    rw [if_neg d', if_neg d, jo_bs, jo_bs]
    exact ⟨_, _, jl_cmp_r (mp := jl_m239) (by decide) jg_uH, h.thr 1⟩
  obtain ⟨N, W, hs⟩ := h.st d
  have h63 : jc_i K 63 4 = N := hs.2.2.2.1.2.1.1
  have h12 : G 92 12 = N := hs.2.2.2.1.h12
  rw [if_pos hs.2.1, if_pos d, h63, h12]
  by_cases n200 : (N : Int) < 200
  case neg =>
    rw [if_neg n200, if_neg n200, jo_bs, jo_bs]
    exact ⟨_, _, jl_cmp_r (mp := jl_m239) (by decide) jg_uH, h.thr 1⟩
  rw [if_pos n200, if_pos n200]
  have hL := hs.2.2.2.t 0
  have hM := hL.2.1.b (B' := 199) (by omega)
  have g12 : jg_u G 92 0 0 92 12 = N := (jg_uI (by decide)).trans h12
  obtain ⟨K1, q, K2, K3, X, r1, r2, r3, r4, r5, r6, y, ⟨L, Mk⟩, xl, jtn, cw, hn, xo⟩ := jmarked hL.1 hM (by omega) hL.2.2.2.1 hL.2.2.2.2.2
  generalize jg_u G 92 0 0 = G0 at *
  have ec : (((N + 1 : Nat) : Nat) : Int) = (N : Int) + 1 := by omega
  have m7 : jP G0 ≤ W.1 + 3 * N := hM.2.2.2.2.2.1
  have m6 := hM.2.2.2.2.1
  have m5 := hM.2.2.2.1
  have m8 := hM.2.2.2.2.2.2
  have x107 : ∀ j, X 107 j = G0 107 j := fun j => xo 107 j (by omega) (by omega) (by omega)
  have x110 : ∀ j, X 110 j = G0 110 j := fun j => xo 110 j (by omega) (by omega) (by omega)
  have x111 : ∀ j, X 111 j = G0 111 j := fun j => xo 111 j (by omega) (by omega) (by omega)
  have x97 : ∀ j, X 97 j = G0 97 j := fun j => xo 97 j (by omega) (by omega) (by omega)
  have x108 : ∀ j, X 108 j = G0 108 j := fun j => xo 108 j (by omega) (by omega) (by omega)
  have x113 : ∀ j, X 113 j = G0 113 j := fun j => xo 113 j (by omega) (by omega) (by omega)
  have x0 : X 92 0 = G0 92 0 := xo 92 0 (by omega) (by omega) (by omega)
  have x3 : X 92 3 = G0 92 3 := xo 92 3 (by omega) (by omega) (by omega)
  have eph : jph X (N + 1) = jph G0 N := by
    have c2 := cw 2
    have c3 := cw 3
    rw [if_neg (by decide)] at c2 c3
    rw [jph_tm, jph_tm, c2, c3, jsum_e (f := jtm X (N + 1)) (g := jtm G0 N) 4 (fun i hi => by
      unfold jtm
      rw [jtn i (by omega) (by omega), x107, x110])]
    omega
  have c0 := cw 0
  have c5 := cw 5
  have c4 := cw 4
  rw [if_neg (by decide)] at c0 c5
  rw [if_pos rfl] at c4
  have d1 := y.1.1.2.1
  obtain ⟨K4, b1, s1, s2, s3⟩ := jhard (r := (N : Int) + 1) y (fun k k0 k1 => by rw [x111]; exact hM.2.2.1 k k0 k1) ⟨by omega, by omega⟩
  have g4 : jk_g jQ K K4 := r6.trans ((jk_g.s s2).mono (fun n e => by unfold jQ jS_n; omega))
  have gX : jk_g jQX K K4 := g4.mono (fun n e => Or.inr (Or.inr e))
  have e80 : fo200_80 1 X ((N : Int) + 1) (67 * (54 + 3 * (N : Int))) 24 = if fr_ha X ((N : Int) + 1) 92 7 = 0 then some (fr_ha X ((N : Int) + 1), (N : Int) + 1) else some (fr_ha X ((N : Int) + 1), -4) := by
    unfold fo200_80
    rw [if_pos (show (24 : Int) ≤ 24 by decide), if_pos (show 0 ≤ (N : Int) + 1 ∧ (N : Int) + 1 < 1501 by omega), if_pos d1.2.1, if_pos d1.2.2.1.1]
  rw [r1, jo_bs]
  dsimp only
  rw [if_neg r2, r3, jo_bs]
  dsimp only
  rw [r4, jo_bs]
  dsimp only
  rw [y.2.1.1, ec, s1, jo_bs, g12, if_pos (show (0 : Int) ≤ N ∧ (N : Int) < 1500 by omega), if_pos (show -1 ≤ (-1 : Int) ∧ (-1 : Int) < 4 by decide), jo_le]
  dsimp only
  rw [show 67 * (54 + 3 * ((N : Int) + 1 - 1) + 0) = 67 * (54 + 3 * (N : Int)) by omega, if_pos (show -2147483648 ≤ 67 * (54 + 3 * (N : Int)) ∧ 67 * (54 + 3 * (N : Int)) < 2147483648 by omega), r5, e80]
  rcases s3 with ⟨eb, yy, ai, an⟩ | ⟨eb, E, hl, hd, z3, z12, z0, z113⟩
  · generalize hG2 : fr_ha X ((N : Int) + 1) = G2 at *
    have hl : jl_a X G2 ((N + 1 : Nat) : Int) := fun m j e => an m (by omega) j
    have eph2 : jph G2 (N + 1) = jph X (N + 1) := by
      rw [jph_tm, jph_tm, hl.cw 2 (N + 1) (Int.le_refl _), hl.cw 3 (N + 1) (Int.le_refl _), jsum_e (f := jtm G2 (N + 1)) (g := jtm X (N + 1)) 4 (fun i hi => by
        unfold jtm
        rw [hl.t i (N + 1) (Int.le_refl _), an 107 (by decide), an 110 (by decide)])]
    have M2 : jM G2 (N + 1) (k + 1) (W.1, 0, W.2.2) 223 := by
      refine ⟨⟨L.a hl (Nat.le_refl _), Mk.a hl (jd_m.same (fun j _ _ => an 93 (by decide) j)) (Nat.le_refl _)⟩, fun t t0 t1 => ?_, fun j j0 j1 => ?_, by omega, ?_, ?_, (ai 0 (by decide) (by decide) (by decide)).trans (x0.trans m8.1), fun j => (an 113 (by decide) j).trans ((x113 j).trans (m8.2 j))⟩
      · rw [an 108 (by decide), x108, hl.t t (N + 1) (Int.le_refl _), jtn t t0 t1]; exact hM.2.1 t t0 t1
      · rw [an 111 (by decide), x111]; exact hM.2.2.1 j j0 j1
      · rw [hl.cw 0 (N + 1) (Int.le_refl _), hl.cw 5 (N + 1) (Int.le_refl _), hl.cw 4 (N + 1) (Int.le_refl _)]
        omega
      · have p1 : jP G2 = jP X := jP_same (fun i => an 97 (by decide) i) (ai 3 (by decide) (by decide) (by decide))
        have p2 : jP X = jP G0 := jP_same x97 x3
        show jP G2 ≤ (W.1 : Int) + 3 * ((N + 1 : Nat) : Int)
        omega
    obtain ⟨z1, z2⟩ := jfinA (N' := N + 1) hs gX (hL.f yy M2 (hL.2.2.1.same (fun z => by rw [hl.h z (N + 1) (Int.le_refl _), hn])) g4 jQ3 (fun j => ⟨(an 107 (by decide) j).trans (x107 j), (an 110 (by decide) j).trans (x110 j), (an 111 (by decide) j).trans (x111 j)⟩) (fun s s0' s1' _ => by rw [hl.t s (N + 1) (Int.le_refl _), jtn s s0' s1']))
    rw [eb]
    rw [if_neg (show ¬ (1 : Int) = 0 by decide), yy.2.1.1, ec, jtold_a (show (N : Int) + 1 ≠ -4 by omega), jo_bs, jo_bs, if_pos yy.h7, jo_bs]
    exact ⟨_, _, jl_cmp_l (mp := jl_m239) z2 rfl, z1⟩
  · obtain ⟨⟨K5, z1, z2⟩, z4⟩ := jfinF hs gX E (jMf.mk2 (N := N) (W := (W.1, 0, W.2.2)) ⟨L.a hl (Nat.le_refl _), Mk.a hl hd (Nat.le_refl _)⟩ (by
      rw [hl.ph0 (Int.le_refl _)]
      have := jph0_le X (N + 1)
      omega) (by
      rw [hl.cw 0 (N + 1) (Int.le_refl _), hl.cw 5 (N + 1) (Int.le_refl _), hl.cw 4 (N + 1) (Int.le_refl _)]
      omega) E (by omega) (by
      have := jP_ge G0
      show _ ≤ (W.1 : Int) + 3300
      omega) ⟨z0.trans (x0.trans m8.1), fun j => (z113 j).trans ((x113 j).trans (m8.2 j))⟩) (fun j j0 j1 => by
      rw [g4.2.2.2 62 j (by have := hL.1.2.2.2.1.1; omega) jQ3.2.2, (hL.2.2.2.1.2 j j0 j1).1]
      exact (hL.2.2.2.1.2 j j0 j1).2)
    rw [eb]
    rw [if_pos rfl, z1, jo_bs, jo_bs, if_neg E.h7, jo_bs]
    exact ⟨_, _, jl_cmp_l (mp := jl_m239) z4 rfl, z2⟩
end Mc
