/-! MARK: the call -/
section Mc
variable {K : jc_K} {G : jg_G} {N k : Nat} {W : jZW}
theorem jmark (hs : jSt K G N k W) (hk : k < 512) (n200 : (N : Int) < 200) : ∃ K' c G', fc115 K = some (K', .inl c) ∧ ((c = -4 ∧ jSf K' G' (k + 1) (W.1, 0, W.2.2) ∧ G' 92 6 = 0) ∨ (0 ≤ c ∧ jSt K' G' (N + 1) (k + 1) (W.1, 0, W.2.2) ∧ jzs G N G' (N + 1))) := by
  have h63 : jc_i K 63 4 = N := hs.2.2.2.1.2.1.1
  have h7 : G 92 7 = 0 := hs.2.2.2.1.h7
  have hL := hs.2.2.2.t 0
  have hM := hL.2.1.b (B' := 199) (by omega)
  have f0 : jf6 G (jg_u G 92 0 0) := (jf6.refl G).u (Or.inr (by decide))
  have z0 : jzs G N (jg_u G 92 0 0) N := jzs.t0
  obtain ⟨K1, q, K2, K3, X, r1, r2, r3, r4, r5, r6, y, ⟨L, Mk⟩, xl, jtn, cw, hn, xo'⟩ := jmarked hL.1 hM (by omega) hL.2.2.2.1 hL.2.2.2.2.2
  generalize jg_u G 92 0 0 = G0 at *
  have xo : ∀ n j, ¬ (n = 92 ∧ j = 12) → ¬ (98 ≤ n ∧ n ≤ 106) → ¬ (n = 93 ∧ 67 * 54 ≤ j) → X n j = G0 n j := fun n j h1 h2 h3 => (xo' n j h1 h2 h3).1
  have i98 := (xo' 107 0 (by omega) (by omega) (by omega)).2.1
  have i99 := (xo' 107 0 (by omega) (by omega) (by omega)).2.2
  have ec : (((N + 1 : Nat) : Nat) : Int) = (N : Int) + 1 := by omega
  have m7 : jP G0 ≤ W.1 + 3 * N := hM.2.2.2.2.2.1
  have m6 := hM.2.2.2.2.1
  have m5 := hM.2.2.2.1
  have m8 := hM.2.2.2.2.2.2.1
  have m9 := hM.2.2.2.2.2.2.2.1
  have m10 := hM.2.2.2.2.2.2.2.2
  have x107 : ∀ j, X 107 j = G0 107 j := fun j => xo 107 j (by omega) (by omega) (by omega)
  have x110 : ∀ j, X 110 j = G0 110 j := fun j => xo 110 j (by omega) (by omega) (by omega)
  have x111 : ∀ j, X 111 j = G0 111 j := fun j => xo 111 j (by omega) (by omega) (by omega)
  have x97 : ∀ j, X 97 j = G0 97 j := fun j => xo 97 j (by omega) (by omega) (by omega)
  have x108 : ∀ j, X 108 j = G0 108 j := fun j => xo 108 j (by omega) (by omega) (by omega)
  have x113 : ∀ j, X 113 j = G0 113 j := fun j => xo 113 j (by omega) (by omega) (by omega)
  have x109 : ∀ j, X 109 j = G0 109 j := fun j => xo 109 j (by omega) (by omega) (by omega)
  have x13 : X 92 13 = G0 92 13 := xo 92 13 (by omega) (by omega) (by omega)
  have x0 : X 92 0 = G0 92 0 := xo 92 0 (by omega) (by omega) (by omega)
  have x3 : X 92 3 = G0 92 3 := xo 92 3 (by omega) (by omega) (by omega)
  have eph : jph X (N + 1) = jph G0 N := by
    have c2 := cw 2
    have c3 := cw 3
    rw [if_neg (by decide)] at c2 c3
    rw [jph_tm, jph_tm, c2, c3, jsum_e (f := jtm X (N + 1)) (g := jtm G0 N) 4 (fun i hi => by
      unfold jtm
      rw [jtn i (by omega) (by omega), x107, x110])]
    omega
  have c0 := cw 0
  have c5 := cw 5
  have c4 := cw 4
  rw [if_neg (by decide)] at c0 c5
  rw [if_pos rfl] at c4
  have d1 := y.1.1.2.1
  have px : jPx X (N + 1) := m9.up xl (Int.le_of_eq x13.symm) (by omega) x113
  have xD := y.1.2.1.2.2.2.2
  obtain ⟨K4, b1, s1, s2, s3⟩ := jhard (r := (N : Int) + 1) y (fun k k0 k1 => by rw [x111]; exact hM.2.2.1 k k0 k1) ⟨by omega, by omega⟩
  have g4 : jk_g jQ K K4 := r6.trans ((jk_g.s s2).mono (fun n e => by unfold jQ jS_n; omega))
  have gX : jk_g jQX K K4 := g4.mono (fun n e => Or.inr (Or.inr e))
  have e80 : fo200_80 1 X ((N : Int) + 1) (67 * (54 + 3 * (N : Int))) 24 = if fr_ha X ((N : Int) + 1) 92 7 = 0 then some (fr_ha X ((N : Int) + 1), (N : Int) + 1) else some (fr_ha X ((N : Int) + 1), -4) := by
    unfold fo200_80
    rw [if_pos (show (24 : Int) ≤ 24 by decide), if_pos (show 0 ≤ (N : Int) + 1 ∧ (N : Int) + 1 < 1501 by omega), if_pos d1.2.1, if_pos d1.2.2.1.1]
  have st0 : fc115 K = ((fc20 K 4 (-1)).bind fun x3 => if x3.2 = 0 then ((fc140 (x3.1) (-4)).bind fun x17 => some (x17.1, .inl (x17.2))) else ((fc67 (x3.1) (x3.2)).bind fun x6 => (fc10 (x6.1) (x3.2)).bind fun x8 => (fc13 (x8.1) (jc_i (x8.1) 63 4)).bind fun x10 => if x10.2 = 0 then ((fc140 (x10.1) (-4)).bind fun x13 => some (x13.1, .inl (x13.2))) else ((fc140 (x10.1) (jc_i (x10.1) 63 4)).bind fun x15 => some (x15.1, .inl (x15.2))))) := by
    unfold fc115
    rw [if_pos hs.2.1, h63, if_pos n200]
  have f1 : jf6 G (fr_ha X ((N : Int) + 1)) := by
    refine (f0.trans ((jf6.refl G0).no (w := 4) (t := -1))).trans ?_
    by_cases z : fr_ha X ((N : Int) + 1) 92 7 = 0
    · exact f6_200_53 _ _ _ _ _ _ (r5.trans (e80.trans (if_pos z)))
    · exact f6_200_53 _ _ _ _ _ _ (r5.trans (e80.trans (if_neg z)))
  rw [st0, r1, jo_bs]
  dsimp only
  rw [if_neg r2, r3, jo_bs]
  dsimp only
  rw [r4, jo_bs]
  dsimp only
  rw [y.2.1.1, ec, s1, jo_bs]
  dsimp only
  rcases s3 with ⟨eb, yy, ai, an, aD⟩ | ⟨eb, E, hl, hd, z3, ⟨z12, _, z14⟩, z0', z113⟩
  · generalize hG2 : fr_ha X ((N : Int) + 1) = G2 at *
    have hl : jl_a X G2 ((N + 1 : Nat) : Int) := fun m j e => an m (by omega) j
    have eph2 : jph G2 (N + 1) = jph X (N + 1) := by
      rw [jph_tm, jph_tm, hl.cw 2 (N + 1) (Int.le_refl _), hl.cw 3 (N + 1) (Int.le_refl _), jsum_e (f := jtm G2 (N + 1)) (g := jtm X (N + 1)) 4 (fun i hi => by
        unfold jtm
        rw [hl.t i (N + 1) (Int.le_refl _), an 107 (by decide), an 110 (by decide)])]
    have M2 : jM G2 (N + 1) (k + 1) (W.1, 0, W.2.2) 223 := by
      refine ⟨⟨L.a hl (Nat.le_refl _), Mk.a hl (jd_m.same (fun j _ _ => an 93 (by decide) j)) (Nat.le_refl _)⟩, fun t t0 t1 => ?_, fun j j0 j1 => ?_, by omega, ?_, ?_, ⟨(ai 0 (by decide) (by decide) (by decide)).trans (x0.trans m8.1), fun j => (an 113 (by decide) j).trans ((x113 j).trans (m8.2 j))⟩, px.same hl (by omega) (fun j => an 113 (by decide) j), m10.up (fun t _ _ h => by rw [an 107 (by decide), x107] at h; exact h) (fun k _ _ => (an 111 (by decide) k).trans (x111 k)) (fun y t _ _ t0 _ h => by
          rw [hl.pp y t (N + 1) (Int.le_refl _), jpp_o (by omega), xl.pp y t N (Int.le_refl _)] at h
          exact h) (fun t t0 _ _ h9 => by rw [an 109 (by decide), x109, hl.zn t (N + 1) (Int.le_refl _), jzn_o (by omega), xl.zn t N (Int.le_refl _)]; exact h9)⟩
      · rw [an 108 (by decide), x108, hl.t t (N + 1) (Int.le_refl _), jtn t t0 t1]; exact hM.2.1 t t0 t1
      · rw [an 111 (by decide), x111]; exact hM.2.2.1 j j0 j1
      · rw [hl.cw 0 (N + 1) (Int.le_refl _), hl.cw 5 (N + 1) (Int.le_refl _), hl.cw 4 (N + 1) (Int.le_refl _)]
        omega
      · have p1 : jP G2 = jP X := jP_same (fun i => an 97 (by decide) i) (ai 3 (by decide) (by decide) (by decide))
        have p2 : jP X = jP G0 := jP_same x97 x3
        show jP G2 ≤ (W.1 : Int) + 3 * ((N + 1 : Nat) : Int)
        omega
    have z1 := jfinA (N' := N + 1) hs gX (hL.f yy M2 (hL.2.2.1.same (fun z => by rw [hl.h z (N + 1) (Int.le_refl _), hn])) g4 jQ3 (fun j => ⟨(an 107 (by decide) j).trans (x107 j), (an 110 (by decide) j).trans (x110 j), (an 111 (by decide) j).trans (x111 j)⟩) (fun s s0' s1' _ => by rw [hl.t s (N + 1) (Int.le_refl _), jtn s s0' s1']))
    rw [eb]
    rw [if_neg (show ¬ (1 : Int) = 0 by decide), yy.2.1.1, ec, jtold_a (show (N : Int) + 1 ≠ -4 by omega), jo_bs]
    have hl2 : jl_a G0 G2 N := xl.trans (hl.le (by omega))
    refine ⟨K4, (N : Int) + 1, G2, rfl, Or.inr ⟨by omega, z1, z0.trans ⟨fun y => ?_, fun t t0 _ => ?_, fun j => ⟨(an 107 (by decide) j).trans (x107 j), (an 110 (by decide) j).trans (x110 j), (an 111 (by decide) j).trans (x111 j)⟩, fun t _ _ _ => (an 109 (by decide) t).trans (x109 t), hl2, by omega, fun j => (an 113 (by decide) j).trans (x113 j), fun t _ _ => (an 108 (by decide) t).trans (x108 t)⟩⟩⟩
    · rw [hl.zA y (N + 1) (Int.le_refl _), jzA_o (by omega), xl.zA y N (Int.le_refl _)]
    · rw [hl.zL t (N + 1) (Int.le_refl _), jzL_o (by omega), xl.zL t N (Int.le_refl _)]
  · obtain ⟨K5, z1, z2⟩ := jfinF hs gX E (jMf.mk2 (N := N) (W := (W.1, 0, W.2.2)) ⟨L.a hl (Nat.le_refl _), Mk.a hl hd (Nat.le_refl _)⟩ (by
      rw [hl.ph0 (Int.le_refl _)]
      have := jph0_le X (N + 1)
      omega) (by
      rw [hl.cw 0 (N + 1) (Int.le_refl _), hl.cw 5 (N + 1) (Int.le_refl _), hl.cw 4 (N + 1) (Int.le_refl _)]
      omega) E (by omega) (by
      have := jP_ge G0
      show _ ≤ (W.1 : Int) + 3300
      omega) ⟨z0'.trans (x0.trans m8.1), fun j => (z113 j).trans ((x113 j).trans (m8.2 j))⟩ (px.same hl (by have := E.2.1.2.1; omega) z113)) (fun j j0 j1 => by
      rw [g4.2.2.2 62 j (by have := hL.1.2.2.2.1.1; omega) jQ3.2.2, (hL.2.2.2.1.2 j j0 j1).1]
      exact (hL.2.2.2.1.2 j j0 j1).2)
    rw [eb]
    rw [if_pos rfl, z1, jo_bs]
    exact ⟨K5, -4, _, rfl, Or.inl ⟨rfl, z2, f1.2.1 h7 E.h7⟩⟩
end Mc
