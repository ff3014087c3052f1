/-! MARK: the record is in the log -/
theorem jmarked {K : jc_K} {G : jg_G} {N x κ B : Nat} {W : jZW} (hY : jY K G N x) (hM : jM G N κ W B) (hN : N ≤ 925) (hTr : jTr K G) (hc : ∀ s, 0 ≤ s → s < 4 → G 107 s = 0 → jt G s N = 0) : ∃ K1 q K2 K3 X, fc20 K 4 (-1) = some (K1, q) ∧ q ≠ 0 ∧ fc67 K1 q = some (K2, 0) ∧ fc10 K2 q = some (K3, 0) ∧ fo200_53 jo_N (fr_no G 4 (-1)) ((N : Int) + 1) (67 * (54 + 3 * (N : Int))) 0 = fo200_80 1 X ((N : Int) + 1) (67 * (54 + 3 * (N : Int))) 24 ∧ jk_g jQ K K3 ∧ jY K3 X (N + 1) x ∧ (jLg X (N + 1) ∧ jMk X (N + 1)) ∧ jl_a G X N ∧ (∀ s, 0 ≤ s → s < 4 → jt X s (N + 1) = jt G s N) ∧ (∀ y, jcw X y (N + 1) = jcw G y N + (if (4 : Int) = y then 1 else 0)) ∧ (∀ z, jh X (N + 1) z = jh G N z) ∧ ∀ n j, ¬ (n = 92 ∧ j = 12) → ¬ (98 ≤ n ∧ n ≤ 106) → ¬ (n = 93 ∧ 67 * 54 ≤ j) → (X n j = G n j ∧ X 98 ((N : Int) + 1) = 4 ∧ X 99 ((N : Int) + 1) = -1) := by
  have ec : (((N + 1 : Nat) : Nat) : Int) = (N : Int) + 1 := by omega
  have h12 := hY.h12
  obtain ⟨⟨dc, _, _⟩, _, ca, c2, c3, c4⟩ := hY.1
  obtain ⟨⟨m1, m2⟩, m3, m4, m5, m6, m7, m8⟩ := id hM
  obtain ⟨lo, hi, rk, hTs⟩ := m1.2.1 N (Nat.le_refl _)
  obtain ⟨K1, q, a1, a2, a3, a4, a5⟩ := jB.start (w := 4) (t := -1) hY (by omega) (by decide)
  have q120 := a2.2.2.2.2.1.2.1.1
  have n120 := hY.2.2.2.1.1
  have o := fun (n : Nat) (j : Int) => fr_no_o (G := G) (w := 4) (t := -1) (n := n) (j := j)
  have is := fr_no_is (G := G) (w := 4) (t := -1) (by decide)
  rw [h12] at is
  simp only [h12] at o
  obtain ⟨i12, i98, i99, i100, i101, i104, i105, _⟩ := is
  rw [if_pos rfl] at i100
  have sm : ∀ n i, n = 58 ∨ n = 68 ∨ n = 70 → jc_i K1 n i = jc_i K n i := fun n i hn => a3.2.2.2 n i (by omega) (by unfold jA_S; omega)
  have f68 : ∀ f, 0 ≤ f → f < 4 → jc_i K1 68 f = G 95 f ∧ jc_i K1 70 f = G 97 f ∧ G 95 f < 24 := fun f f0 f1 => by
    obtain ⟨⟨u1, u2, u3⟩, u4, u5, u6⟩ := ca.2.1 f f0 f1
    exact ⟨(sm 68 f (by decide)).trans u1, (sm 70 f (by decide)).trans u3, u5.2⟩
  obtain ⟨K2, K3, b1, b2, b3, b4, b5, ⟨b6, b7⟩, b8, b9, b10⟩ := jmk_c a2 (fun f f0 f1 => by rw [(f68 f f0 f1).1]; exact (f68 f f0 f1).2.2) (fun f f' f0 f1 g0 g1 hz hw => by
    rw [(f68 f f0 f1).1] at hz
    rw [(f68 f f0 f1).1, (f68 f' g0 g1).1] at hw
    exact ca.2.2 f f' f0 f1 g0 g1 hz hw)
  have o108 : ∀ t, 0 ≤ t → fr_no G 4 (-1) 108 t = G 108 t := fun t t0 => o 108 t (by omega) (by omega) (by omega)
  have l59 : ∀ t, 0 ≤ t → t < 4 → jc_i K1 59 t = fr_no G 4 (-1) 108 t := fun t t0 t1 => (a2.2.2.1 t t0 t1).1
  have efo : ∀ p, fr_fo (fr_no G 4 (-1)) p = fr_fo G p := fun p => by
    have e : ∀ j, fr_no G 4 (-1) 95 j = G 95 j := fun j => o 95 j (by omega) (by omega) (by omega)
    unfold fr_fo
    rw [e 3, e 2, e 1, e 0]
  have o97 : ∀ f, fr_no G 4 (-1) 97 f = G 97 f := fun f => o 97 f (by omega) (by omega) (by omega)
  obtain ⟨X, r1, r2, r3, r4⟩ := jr_53l (r := (N : Int) + 1) (b := 67 * (54 + 3 * (N : Int))) ⟨by omega, by omega⟩ jo_N 0 (fr_no G 4 (-1)) (by decide) (by decide) (by unfold jo_N; omega)
  have x92 : ∀ n j, n ≠ 93 → X n j = fr_no G 4 (-1) n j := fun n j hn => r2 n j (fun z => hn z.1)
  have xo : ∀ n j, ¬ (n = 92 ∧ j = 12) → ¬ (98 ≤ n ∧ n ≤ 106) → ¬ (n = 93 ∧ 67 * 54 ≤ j) → ¬ ((n = 108 ∨ n = 109) ∧ j = -1) → X n j = G n j := fun n j h1 h2 h3 h4 => by
    rw [r2 n j (by omega)]
    exact o n j h1 (by omega) h4
  have xl : jl_a G X N := fun m j e => by
    rw [r2 m j (by omega)]
    exact o m j (by omega) (by omega) (by omega)
  have hd : jd_m G X := jd_m.same (fun j j0 j1 => by rw [r2 93 j (by omega)]; exact o 93 j (by omega) (by omega) (by omega))
  have B3 : jB K3 X N x q := b3.s (S := fun _ => False) jk_s.refl (fun _ z => z.elim) (fun m j y1 y2 y3 => r2 m j (by omega))
  rw [← x92 98 _ (by decide)] at i98
  rw [← x92 99 _ (by decide)] at i99
  rw [← x92 100 _ (by decide)] at i100
  rw [← x92 101 _ (by decide)] at i101
  rw [← x92 104 _ (by decide)] at i104
  rw [← x92 105 _ (by decide)] at i105
  have w108 : ∀ t, 0 ≤ t → t < 4 → X 93 (67 * (54 + 3 * (N : Int)) + t) = jt G t N := fun t t0 t1 => by
    rw [r3 t t0 t1, o108 t t0, m3 t t0 t1]
  have w97 : ∀ p, 0 ≤ p → p < 24 → X 93 (67 * (54 + 3 * (N : Int)) + 4 + p) = if fr_fo G p = -1 then 0 else G 97 (fr_fo G p) := fun p p0 p1 => by
    rw [r4 p p0 p1, efo, o97]
  have hh : ∀ z, jh X N z = jh G N z := fun z => xl.h z N (Int.le_refl _)
  have hn : ∀ z, jh X (N + 1) z = jh G N z := fun z => (jh_nop i105 z).trans (hh z)
  have eh : (fun z => jh X (N + 1) z) = fun z => jh G N z := funext hn
  have eh0 : (fun z => jh X N z) = fun z => jh G N z := funext hh
  have jtn : ∀ s, 0 ≤ s → s < 4 → jt X s (N + 1) = jt G s N := fun s s0 _ => by
    show (if X 99 ((N : Int) + 1) = s then (if X 98 ((N : Int) + 1) = 2 ∨ X 98 ((N : Int) + 1) = 3 then 0 else (N : Int) + 1) else jt X s N) = _
    rw [i99, if_neg (by omega)]
    exact xl.t s N (Int.le_refl _)
  have cw : ∀ y, jcw X y (N + 1) = jcw G y N + (if (4 : Int) = y then 1 else 0) := fun y => by
    show jcw X y N + (if X 98 ((N : Int) + 1) = y then 1 else 0) = _
    rw [i98, xl.cw y N (Int.le_refl _)]
  have B1 := m1.a xl (Nat.le_refl _)
  have j1 : jl_1 X (N + 1) := jl_1.sa (w := 4) (by decide) ⟨i98, i99, i100, i101⟩
  have j2 : jl_2 X (N + 1) := (B1.2.2 N (Nat.le_refl _)).sa B1.1 (w := 4) (by decide) i98 i99 (by rw [eh, eh0, if_neg (by decide), if_neg (by decide)]; exact Nat.le_refl _) (by rw [eh]; exact hM.q) (by rw [eh, show (fun x => jzA X x N) = fun x => jzA G x N from funext (fun x => xl.zA x N (Int.le_refl _))]; exact hM.1.1.E) (by rw [eh]; exact hM.1.1.D)
  have L : jLg X (N + 1) := m1.up xl j1 ⟨lo, hi, rk, by rw [eh]; exact hTs⟩ j2
  have ev : ∀ p, jv X p (N + 1) = jv G p N := fun p => by
    show (if jh_k X ((N : Int) + 1) p = -1 then jv X p N else N + 1) = _
    rw [if_pos (jhk0 i105)]
    exact xl.v p N (Int.le_refl _)
  have Mk : jMk X (N + 1) := fun r r0 r1 hr => by
    by_cases e : r = N + 1
    · subst e
      rw [show 67 * (54 + 3 * (((N + 1 : Nat) : Int) - 1)) = 67 * (54 + 3 * (N : Int)) by omega]
      refine ⟨fun t t0 t1 => by rw [w108 t t0 t1, jtn t t0 t1], fun p p0 p1 => ?_⟩
      have d93 : X 93 (67 * (5 + 2 * p) + 1) = G 93 (67 * (5 + 2 * p) + 1) := xo 93 _ (by omega) (by omega) (by omega) (by omega)
      rw [w97 p p0 p1, d93]
      have fr := fr_fo_r G p
      by_cases c : fr_fo G p = -1
      · refine ⟨0, by rw [if_pos c]; rfl, Nat.zero_le _, ?_⟩
        rw [if_pos rfl, ev, c4 p p0 p1 (fun f f0 f1 z => by
          have := fr_fo_is ca.2.2 p0 f0 f1 z
          omega)]
        exact Int.le_refl _
      · have e95 := fr.2.2 (by omega)
        obtain ⟨_, _, _, d⟩ := c2 (fr_fo G p) (by omega) fr.2.1 (by rw [e95]; exact p0)
        rw [e95] at d
        rcases d with ⟨z1, z2⟩ | ⟨d, z1, z2, z3, z4, z5, z6⟩
        · refine ⟨0, by rw [if_neg c, z1]; rfl, Nat.zero_le _, ?_⟩
          rw [if_pos rfl, ev, z2]
          exact Int.le_refl _
        · have dN : d ≤ N := Nat.le_trans z4 (jv_le G p N)
          refine ⟨d, by rw [if_neg c, z1], by omega, ?_⟩
          rw [if_neg (by omega), xl.v p (d - 1) (by omega)]
          by_cases g : (jv G p (d - 1) : Int) ≤ G 93 (67 * (5 + 2 * p) + 1)
          · exact g
          · exfalso
            have l1 := jv_le G p (d - 1)
            obtain ⟨v, v1, _⟩ := (dc.2.2 p p0 p1).2.1.2
            have nz := jv_k (G := G) (p := p) (n := d - 1) (by omega)
            exact nz (z6 _ (by omega) (by omega))
    · exact m2.a xl hd (Nat.le_refl _) r r0 (by omega) hr
  have rcd : jg_rec K3 X ((N : Int) + 1) q := by
    obtain ⟨y0, y1, y2, y3, y4, y5, y6, y7, y8⟩ := a4
    rw [if_pos rfl] at y6
    simp only [← b5] at y0 y1 y2 y3 y6 y7 y8
    refine ⟨B3.2.2.2.2.1.2, ⟨y0, by rw [y1, i98], by rw [y2, i99], by rw [y3, i101], by rw [y6, i100], by rw [y7, i104], by rw [y8, i105]⟩, fun z => by omega, fun z => by omega, fun k k0 k1 => by omega, fun z => by omega, fun _ => ⟨⟨b6, fun t t0 t1 => ?_⟩, b8, fun p p0 p1 => ?_⟩⟩
    · rw [show 67 * (54 + 3 * ((N : Int) + 1 - 1)) = 67 * (54 + 3 * (N : Int)) by omega, w108 t t0 t1, b7 t t0 t1, sm 58 t (by decide), l59 t t0 t1, o108 t t0, m3 t t0 t1, (hTr.1 t t0 t1).1]
      by_cases z : G 107 t = 0
      · rw [if_pos z, hc t t0 t1 z]
      · rw [if_neg z]
    · rw [show 67 * (54 + 3 * ((N : Int) + 1 - 1)) = 67 * (54 + 3 * (N : Int)) by omega, w97 p p0 p1]
      have fr := fr_fo_r G p
      by_cases c : fr_fo G p = -1
      · rw [if_pos c]
        exact b10 p p0 p1 (fun f f0 f1 z => by
          rw [(f68 f f0 f1).1] at z
          have := fr_fo_is ca.2.2 p0 f0 f1 z
          omega)
      · have e95 := fr.2.2 (by omega)
        obtain ⟨u1, u2, u3⟩ := f68 (fr_fo G p) (by omega) fr.2.1
        rw [if_neg c, ← u2]
        have := b9 (fr_fo G p) (by omega) fr.2.1 (by rw [u1, e95]; exact p0)
        rw [u1, e95] at this
        exact this
  have lv : jl_v X (N + 1) := by
    unfold jl_v
    rw [ec, i98, i105]
    exact ⟨by decide, by decide, fun k k0 k1 => by omega, fun z => by omega, fun z => absurd z (by decide), fun p p0 p1 => by rw [hn]; exact hTs.1.1 p p0 p1⟩
  refine ⟨K1, q, K2, K3, X, a1, by omega, b1, b2, r1, ?_, B3.nop rcd lv i105, ⟨L, Mk⟩, xl, jtn, cw, hn, fun n j h1 h2 h3 => ⟨?_, i98, i99⟩⟩
  · refine (a3.mono (fun n e => by unfold jA_S at e; unfold jQ; omega)).trans (b4.1.mono (fun n e => ?_))
    have := (a2.2.2.2.1.1.own_b (by omega) e).1
    unfold jQ
    omega
  · by_cases z : (n = 108 ∨ n = 109) ∧ j = -1
    · rw [r2 n j (by omega)]
      unfold fr_no fr_nr
      rw [if_pos rfl]
      simp only [jg_u]
      rw [if_neg (by omega), if_neg (by omega), if_neg (by omega), if_neg (by omega), if_neg (by omega), if_neg (by omega), if_neg (by omega)]
    · exact xo n j h1 h2 h3 z
