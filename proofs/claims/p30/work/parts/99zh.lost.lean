/-! RECOVER: the third pass, as a whole -/
section
variable {x κ B w1 : Nat}
theorem jlos_s (hκ : κ ≤ 513) (hB : B ≤ 223) (hW : w1 ≤ 2000000000) (u : Nat) (ih : ∀ v, v + 1 = u → jLs x κ B w1 v) : jLs x κ B w1 u := by
  intro m m' i t0 K G N r h h82 h0 hu ht0 i0 i1 f1 f2 e81 p0 p1
  have hN := h.2.1.len hκ hB
  obtain ⟨hY, hM, hz, hT, ⟨hc1, hc2⟩, hr⟩ := id h
  have h12 := hY.h12
  have n120 : 98 ≤ K.1.1 := hY.2.2.2.1.1
  obtain ⟨v, p1', p2, p3⟩ := jpick (K := K) (G := G) (r := r) (fun s s0 s1 => ⟨(hr s s0 s1).1, h82 s s0 s1⟩) 4 jo_N 0 (-1) (Int.le_refl _) (by decide) (by decide) (Or.inl rfl)
  have e93 : fc93 K 0 = some (K, v) := p1'
  obtain ⟨m, rfl⟩ : ∃ j, m = j + 1 := ⟨m - 1, by omega⟩
  have ref0 : fo211_s m' 27 G t0 0 = fo211_s (m' - 5) 43 G v 4 := by
    obtain ⟨a, rfl⟩ : ∃ j, m' = j + 4 + 1 := ⟨m' - 5, by omega⟩
    rw [show a + 4 + 1 - 5 = a by omega, ← p2 a]
    conv => lhs; unfold fo211_s
    rw [if_pos rfl, if_neg ht0, if_pos hY.h7]
  rw [ref0]
  rcases p3 with ⟨v1, _, v3⟩ | ⟨hv, hR⟩
  · -- none is left
    refine ⟨K, G, 1, ?_, ?_, jk_g.refl, e81, fun _ _ => rfl, Or.inl ⟨rfl, N, r, h, fun s s0 s1 => h0 s s0 s1 (v3 s s0 s1)⟩⟩
    · conv => lhs; unfold fc92_s
      rw [if_pos rfl, if_neg (by omega), e93, jo_bs]
      dsimp only
      rw [if_pos v1]
    · obtain ⟨a, rfl⟩ : ∃ j, m' = j + 7 := ⟨m' - 7, by omega⟩
      rw [show a + 7 - 5 = a + 1 + 1 by omega]
      conv => lhs; unfold fo211_s
      rw [if_neg (by decide), if_pos rfl, if_pos (by decide), if_pos v1]
      conv => lhs; unfold fo211_s
      rw [if_pos rfl, if_pos v1]
  -- v is looked at
  have L := hM.1.1
  obtain ⟨r115, hch, hpl, ho, hql⟩ := hr v hv.1 hv.2
  have ho := ho hR
  generalize eR : r v = R at hR r115 hch hpl hql
  have r1 : 1 ≤ R := by omega
  have rN := hch.1
  obtain ⟨c99, c98⟩ := hch.2 (by omega)
  have rcd := (hY.2.1.2 R r1 rN).1
  have q120 := rcd.1.1.1
  obtain ⟨y0, y1, y2, y3, y6, y7, y8⟩ := rcd.2.1
  have k82 : jc_i K 82 v = R := by
    rw [h82 v hv.1 hv.2]
    unfold jnx
    rw [eR, if_neg (by omega)]
  have head : ∀ nxt : Int, fc94 K (jc_p K 64 ((R : Int) - 1)) = some (K, nxt) → fc92_s (m + 1) 7 K 0 1 i 0 0 0 0 = (if G 98 R = 0 then jk_un m (jc_ui K 82 v nxt) (G 101 R) 0 1 i v (jc_p K 64 ((R : Int) - 1)) else (if -2147483648 ≤ (i + 1) ∧ (i + 1) < 2147483648 then fc92_s m 7 (jc_ui K 82 v nxt) 0 1 (i + 1) 0 0 0 0 else none)) := fun nxt h94 => by
    have ne : jc_p K 64 ((R : Int) - 1) ≠ 82 := by omega
    conv => lhs; unfold fc92_s
    rw [if_pos rfl, if_neg (by omega), e93, jo_bs]
    dsimp only
    rw [if_neg (by omega), if_pos hv, k82, if_neg (by omega), jk_fc19 hY (by omega) ⟨r1, rN⟩, jo_bs]
    dsimp only
    rw [if_neg (by omega), h94, jo_bs]
    dsimp only
    rw [if_pos rcd.1, jc_uN ne, jc_uN ne, y1, y3]
    rfl
  -- the state behind the look, whatever is next
  have state : ∀ r' : Nat, jch G N v r' → jpl G N R = jpl G N r' + (if G 98 R = 0 then 1 else 0) → (∀ n, n < 112 → ∀ j, jg_u G 115 v r' n j = G n j) ∧ jY (jc_ui K 82 v r') (jg_u G 115 v r') N x ∧ jM (jg_u G 115 v r') N κ (w1, 0, fun j => jg_u G 115 v r' 113 j) B ∧ jT_z (fun z => jh (jg_u G 115 v r') N z) ∧ jTr (jc_ui K 82 v r') (jg_u G 115 v r') ∧ jl_a G (jg_u G 115 v r') N := fun r' _ _ => by
    have hg : ∀ n, n < 112 → ∀ j, jg_u G 115 v r' n j = G n j := fun n hn j => jg_uN (by omega)
    have hl : jl_a G (jg_u G 115 v r') N := fun m j e => hg m (by omega) j
    exact ⟨hg, (hY.nx (Or.inr rfl)).hi hg, hM.hi hg (fun j _ => jg_uN (by decide)), hz.same (fun z => hl.h z N (Int.le_refl _)), (hT.s (jk_g.s (S := fun n => n = 82) (jk_s.u rfl)) n120 ⟨by decide, by decide, by decide⟩ (fun j => ⟨rfl, rfl, rfl⟩)).hi hg, hl⟩
  have g82 : ∀ w : Int, jk_g jQA K (jc_ui K 82 v w) := fun w => (jk_g.s (S := fun n => n = 82) (jk_s.u rfl)).mono (fun n e => Or.inl (Or.inr (Or.inr e)))
  have u0 : 1 ≤ jct G v R := by
    rcases c98 with k | k
    · have := jct_lt (G := G) (t := v) (n := 0) r1 (by omega) c99 k
      have e0 : jct G v 0 = 0 := rfl
      omega
    · obtain ⟨a, a1, a2, a3, a4, a5⟩ := (L.1 R r1 rN).2.2.2.2.1 k
      have := jct_lt (G := G) (t := v) (n := 0) a2 (by omega) (by rw [a5]; exact c99) a4
      have := jct_mono (G := G) (t := v) (n := a) (m := R) (by omega)
      have e0 : jct G v 0 = 0 := rfl
      omega
  have step : ∀ r' : Nat, jct G v r' + 1 ≤ jct G v R → jsm G (jup r v r') + 1 ≤ u := fun r' hc => by
    have := jsm_u (G := G) (r := r) hv (r' := r') (by rw [eR]; exact hc)
    omega
  rcases c98 with k | k
  · -- a CHANGE
    obtain ⟨r', e100, hc', lt'⟩ := jch.ah L hv.1 r1 rN c99
    have h94 : fc94 K (jc_p K 64 ((R : Int) - 1)) = some (K, (r' : Int)) := by
      unfold fc94
      rw [if_pos rcd.1, y1, k, if_neg (by decide), y6, e100]
    have un := jpl_un L r1 rN
    rw [if_pos k, e100] at un
    obtain ⟨hg, hY1, hM1, hz1, hT1, hl1⟩ := state r' hc' (by rw [if_pos k]; exact un)
    have dec := step r' (jct_lt r1 lt' c99 k)
    obtain ⟨w, ew⟩ : ∃ w, w + 1 = u := ⟨u - 1, by omega⟩
    have hP := ih w ew
    rw [head _ h94, if_pos k]
    have jt1 : ∀ s, jt (jg_u G 115 v r') s N = jt G s N := fun s => hl1.t s N (Int.le_refl _)
    have e98' : jg_u G 115 v r' 98 R = 0 := (hg 98 (by decide) _).trans k
    have e99' : jg_u G 115 v r' 99 R = v := (hg 99 (by decide) _).trans c99
    have e100' : jg_u G 115 v r' 100 R = r' := (hg 100 (by decide) _).trans e100
    have pj1 : ∀ y : Int, y ≤ N → jpl (jg_u G 115 v r') N y = jpl G N y := fun y hy => hl1.pl L.1 N y hy
    have jb := jt_b G v N
    obtain ⟨K2, G2, st, N2, j, q1, q2, q3, q4⟩ := jundoes hY1 hM1 hκ hB hW hz1 hv ⟨r1, rN⟩ e98' e99' (by rw [jt1, e100', pj1 _ (by omega), pj1 _ (by omega), hpl, un]) (by rw [jt1]; exact ho) (by rw [hl1.zL v N (Int.le_refl _), hl1.zL v (R - 1) (by omega), hql]; exact jLg.z0 (N := N) r1 c99 k) 0 1 i m (by omega)
    rw [show jc_p (jc_ui K 82 v r') 64 ((R : Int) - 1) = jc_p K 64 ((R : Int) - 1) from rfl, hg 101 (by decide)] at q1
    rw [q1]
    have nB : ∀ n, n = 58 ∨ n = 61 ∨ n = 62 ∨ n = 81 ∨ n = 82 → ¬ jQB n := fun n hn z => by unfold jQB jQ jS_n at z; omega
    have g2 : jk_g jQA K K2 := (g82 r').trans (q3.mono (fun n e => Or.inl (Or.inl e)))
    have k281 : jc_i K2 81 4 = G 113 2 := by rw [q3.2.2.2 81 4 (by show 81 < K.1.1; omega) (nB 81 (by decide)), jc_uN (by decide)]; exact e81
    have k282 : ∀ s, jc_i K2 82 s = jc_i (jc_ui K 82 v r') 82 s := fun s => q3.2.2.2 82 s (by show 82 < K.1.1; omega) (nB 82 (by decide))
    have g1113 : ∀ j, jg_u G 115 v r' 113 j = G 113 j := fun j => jg_uN (by decide)
    have m1' : jb_m (G 113 2 + 1) = G 113 2 + 1 := jb_m_e ⟨by omega, by omega⟩
    have m0' : jb_m (G 113 2) = G 113 2 := jb_m_e ⟨by omega, by omega⟩
    obtain ⟨a, ea⟩ : ∃ a, m' - 5 = a + 1 := ⟨m' - 6, by omega⟩
    rw [ea]
    have ref1 : fo211_s (a + 1) 43 G v 4 = (if G2 92 7 = 0 then (if G2 115 v = 0 then (if 0 ≤ (jg_u G2 113 2 (jb_m ((G2 113 2) + 1))) 92 12 ∧ (jg_u G2 113 2 (jb_m ((G2 113 2) + 1))) 92 12 < 1500 then (fo211_s a 27 (fr_cl (fr_no (jg_u G2 113 2 (jb_m ((G2 113 2) + 1))) (3 : Int) v) v) v 0) else none) else (fo211_s a 27 (jg_u G2 113 2 (jb_m ((G2 113 2) + 1))) v 0)) else (fo211_s a 27 (jg_u G2 113 2 (jb_m ((G2 113 2) + 0))) v 0)) := by
      conv => lhs; unfold fo211_s
      rw [if_neg (by decide), if_pos rfl, if_pos (by decide), if_neg (by omega), if_pos hv, r115, if_pos (by omega), if_neg (by omega), if_pos k, e100, q2, jo_bs]
      dsimp only
      rw [if_pos (show -1 ≤ v ∧ v < 4 by omega), jo_le, if_pos hv]
    rcases q4 with ⟨es, ⟨c1, c2⟩, x1, x2, x3, x4, x5, x6, x7, x8, x9, _⟩ | ⟨es, x1, x2⟩
    · have hN2 := x3.len hκ hB
      have hl2 := x2.1.1
      have g2113 : ∀ j, G2 113 j = G 113 j := fun j => (x3.2.2.2.2.2.2.1.2 j).trans (g1113 j)
      have g2115 : ∀ s, G2 115 s = jg_u G 115 v r' 115 s := fun s => x2.2.2.1 115 (by decide) s
      have hg3 : ∀ n, n < 112 → ∀ j, jg_u G2 113 2 (G 113 2 + 1) n j = G2 n j := fun n hn j => jg_uN (by omega)
      have hl3 : jl_a G2 (jg_u G2 113 2 (G 113 2 + 1)) N2 := fun m j e => hg3 m (by omega) j
      have Y3 : jY (jc_ui K2 81 4 (G 113 2 + 1)) (jg_u G2 113 2 (G 113 2 + 1)) N2 x := (x1.nx (Or.inl rfl)).hi hg3
      have M3 : jM (jg_u G2 113 2 (G 113 2 + 1)) N2 κ (w1, 0, fun j => jg_u G2 113 2 (G 113 2 + 1) 113 j) B := x3.hi hg3 (fun j hj => jg_uI (by omega))
      have T2 : jTr K2 G2 := hT1.s q3 n120 ⟨nB 58 (by decide), nB 61 (by decide), nB 62 (by decide)⟩ x2.tr
      have n1202 : 98 ≤ K2.1.1 := x1.2.2.2.1.1
      have T3 : jTr (jc_ui K2 81 4 (G 113 2 + 1)) (jg_u G2 113 2 (G 113 2 + 1)) := (T2.s (jk_g.s (S := fun n => n = 81) (jk_s.u rfl)) n1202 ⟨by decide, by decide, by decide⟩ (fun j => ⟨rfl, rfl, rfl⟩)).hi hg3
      have tr2 := x2.tr
      have pj2 : ∀ y : Int, y ≤ N → jpl G2 N2 y = jpl G N y := fun y hy => by
        rw [jpl_f x3.1.1.1 N2 N y (by omega) (by omega) (by omega), hl2.pl hM1.1.1.1 N y hy, pj1 y hy]
      have L3 : jLo (jc_ui K2 81 4 (G 113 2 + 1)) (jg_u G2 113 2 (G 113 2 + 1)) N2 x κ B w1 (jup r v r') := by
        refine ⟨Y3, M3, x4.same (fun z => hl3.h z N2 (Int.le_refl _)), T3, ⟨fun s s0 s1 => ?_, fun kk k0 k1 => ?_⟩, fun s s0 s1 => ?_⟩
        · rw [hg3 107 (by decide), hg3 110 (by decide), (tr2 s).1, (tr2 s).2.1, hg 107 (by decide), hg 110 (by decide)]
          exact hc1 s s0 s1
        · rw [hg3 111 (by decide), (tr2 kk).2.2, hg 111 (by decide)]
          exact hc2 kk k0 k1
        · rw [jg_uN (by decide), g2115, hl3.t s N2 (Int.le_refl _), hl3.pl x3.1.1.1 N2 _ (jt_b G2 s N2).2]
          by_cases e : s = v
          · subst e
            have jc2 : jch (jg_u G2 113 2 (G 113 2 + 1)) N2 s r' := ⟨by have := hc'.1; omega, fun z => by
              have := hc'.2 z
              have := hc'.1
              rw [hg3 99 (by decide), hg3 98 (by decide), hl2.l (m := 99) (by decide) (by omega) (by omega), hl2.l (m := 98) (by decide) (by omega) (by omega), hg 99 (by decide), hg 98 (by decide)]
              exact hc'.2 z⟩
            rw [jupH, jg_uH]
            have := hc'.1
            have e1 : jt G s (R - 1) = r' := by
              have j := (L.1 R r1 rN).2.2.1
              rw [c99, if_neg (by omega), e100] at j
              exact j.symm
            have e2 : jzL G s (R - 1) = jzL G s r' := by rw [jzL_jt (R - 1), e1]; rfl
            refine ⟨rfl, jc2, ?_, fun _ => x6, by rw [hl3.zL s N2 (Int.le_refl _), hl3.zL s r' (by omega), x8, hl2.zL s r' (by omega), hl1.zL s (R - 1) (by omega), hl1.zL s r' (by omega), e2]⟩
            rw [hl3.pl x3.1.1.1 N2 _ (by omega), x5, e100', pj1 _ (by omega), pj2 _ (by omega)]
          · obtain ⟨b1, b2, b3, b4, b5⟩ := hr s s0 s1
            have bN := b2.1
            have jbs' := jt_b G s N
            rw [jupN e, jg_uI e, x7 s s0 s1 e, jt1]
            refine ⟨b1, ⟨by omega, fun z => ?_⟩, ?_, b4, by rw [hl3.zL s N2 (Int.le_refl _), hl3.zL s (r s) (by omega), jz_ot hl2 s0 (x7 s s0 s1 e), hl2.zL s (r s) (by omega), hl1.zL s N (Int.le_refl _), hl1.zL s (r s) (by omega), b5]⟩
            · rw [hg3 99 (by decide), hg3 98 (by decide), hl2.l (m := 99) (by decide) (by omega) (by omega), hl2.l (m := 98) (by decide) (by omega) (by omega), hg 99 (by decide), hg 98 (by decide)]
              exact b2.2 z
            · rw [hl3.pl x3.1.1.1 N2 _ (by omega), pj2 _ (by omega), pj2 _ (by omega)]
              exact b3
      have smN : jsm (jg_u G2 113 2 (G 113 2 + 1)) (jup r v r') = jsm G (jup r v r') := by
        have a1 : ∀ s, 0 ≤ s → s < 4 → jup r v r' s ≤ N := fun s s0 s1 => by
          by_cases e : s = v
          · rw [e, jupH]; exact hc'.1
          · rw [jupN e]; exact (hr s s0 s1).2.1.1
        rw [jsm_a hl3 (fun s s0 s1 => Nat.le_trans (a1 s s0 s1) (by omega)), jsm_a hl2 a1, jsm_a hl1 a1]
      rw [if_neg (show ¬ st = 0 by omega), k281, if_pos (show -2147483648 ≤ G 113 2 + 1 ∧ G 113 2 + 1 < 2147483648 by omega), if_pos (show -2147483648 ≤ i + 1 ∧ i + 1 < 2147483648 by omega)]
      obtain ⟨K', G', st', z1, z2, z3, z4, z5, z6⟩ := jfin1 (t := v) (m := m - j) (m' := a) (i := i + 1) hP L3 hκ hB hv (by rw [hl3.t v N2 (Int.le_refl _)]; exact x6) (by rw [jupH, jc_uN (by decide), k282, jc_uH]) (fun s s0 s1 hs => by
        unfold jnx
        rw [jupN hs, jc_uN (by decide), k282, jc_uI hs]
        exact h82 s s0 s1) (fun s s0 s1 hs e => by
        rw [jupN hs] at e
        rw [hl3.t s N2 (Int.le_refl _), x7 s s0 s1 hs, jt1]
        exact h0 s s0 s1 e) (by omega) (by omega) (by omega) (by omega) (by omega) (by rw [jc_uH, jg_uH]) (by rw [jg_uH]; omega) (by rw [jg_uH]; omega)
      refine ⟨K', G', st', z1, ?_, (g2.trans ((jk_g.s (S := fun n => n = 81) (jk_s.u rfl)).mono (fun n e => Or.inl (Or.inr (Or.inl e))))).trans z3, z4, fun j hj => by rw [z5 j hj, jg_uI hj, g2113], z6⟩
      rw [ref1, if_pos x1.h7, g2115, jg_uH, g2113, m1', if_pos (show 0 ≤ jg_u G2 113 2 (G 113 2 + 1) 92 12 ∧ jg_u G2 113 2 (G 113 2 + 1) 92 12 < 1500 by rw [jg_uN (by decide), x1.h12]; omega), ← z2, jupH]
      by_cases c : r' = 0
      · rw [if_pos (by omega), if_pos c]
      · rw [if_neg (by omega), if_neg c]
    · have g2113 : ∀ j, G2 113 j = G 113 j := fun j => by
        obtain ⟨_, _, _, _, _, _, y, _⟩ := x2
        exact (y.2 j).trans (g1113 j)
      have e2 : jg_u G2 113 2 (jb_m (G2 113 2 + 0)) = G2 := by
        refine jg_uS ?_
        rw [g2113, Int.add_zero, m0']
      have eW : (fun j => jg_u G 115 v r' 113 j) = fun j => G2 113 j := funext fun j => by rw [g2113, g1113]
      rw [if_pos es]
      refine ⟨K2, G2, 0, rfl, ?_, g2, by rw [k281, g2113], fun j _ => g2113 j, Or.inr ⟨rfl, x1, by rw [← eW]; exact x2, fun k k0 k1 => by
        have e62 : jc_i K2 62 k = jc_i K 62 k := (q3.2.2.2 62 k (by show 62 < K.1.1; omega) (nB 62 (by decide))).trans (jc_uN (by decide))
        rw [e62]
        have := hT.2 k k0 k1
        omega⟩⟩
      have h7 : ¬ G2 92 7 = 0 := by rw [x1.2.1.1]; decide
      obtain ⟨b, rfl⟩ : ∃ b, a = b + 1 := ⟨a - 1, by omega⟩
      rw [ref1, if_neg h7, e2]
      conv => lhs; unfold fo211_s
      rw [if_pos rfl, if_neg (by omega), if_neg h7]
  · -- an UNDO
    obtain ⟨c, c1, c2, c3, c4, c5⟩ := (L.1 R r1 rN).2.2.2.2.1 k
    have c99' : G 99 c = v := by rw [c5]; exact c99
    obtain ⟨r', e100, hc', lt'⟩ := jch.ah L hv.1 c2 (by omega) c99'
    have ru := (hY.2.1.2 c c2 (by omega)).1
    obtain ⟨z0, z1, z2, z3, z6, z7, z8⟩ := ru.2.1
    have u120 := ru.1.1.1
    have h94 : fc94 K (jc_p K 64 ((R : Int) - 1)) = some (K, (r' : Int)) := by
      unfold fc94
      rw [if_pos rcd.1, y1, k, if_pos rfl, y7, c1, jk_fc19 hY (by omega) ⟨c2, by omega⟩, jo_bs]
      dsimp only
      rw [if_neg (by omega), if_pos ru.1, z6, e100]
    have un := jpl_un L r1 rN
    rw [if_neg (by omega), if_pos k, c1, e100] at un
    obtain ⟨hg, hY1, hM1, hz1, hT1, hl1⟩ := state r' hc' (by rw [if_neg (by omega)]; exact un)
    have dec := step r' (by
      have a1 := jct_lt (G := G) (t := v) (n := r') c2 lt' c99' c4
      have a2 := jct_mono (G := G) (t := v) (n := c) (m := R) (by omega)
      omega)
    obtain ⟨w, ew⟩ : ∃ w, w + 1 = u := ⟨u - 1, by omega⟩
    have hP := ih w ew
    rw [head _ h94, if_neg (by omega), if_pos (by omega)]
    obtain ⟨a, ea⟩ : ∃ a, m' - 5 = a + 1 := ⟨m' - 6, by omega⟩
    rw [ea]
    have jb := jt_b G v N
    have pj1 : ∀ y : Int, y ≤ N → jpl (jg_u G 115 v r') N y = jpl G N y := fun y hy => hl1.pl L.1 N y hy
    have jt1 : ∀ s, jt (jg_u G 115 v r') s N = jt G s N := fun s => hl1.t s N (Int.le_refl _)
    have ref1 : fo211_s (a + 1) 43 G v 4 = (if r' = 0 then (fo211_s a 27 (fr_cl (fr_no (jg_u G 115 v r') (3 : Int) v) v) v 0) else (fo211_s a 27 (jg_u G 115 v r') v 0)) := by
      conv => lhs; unfold fo211_s
      rw [if_neg (by decide), if_pos rfl, if_pos (by decide), if_neg (by omega), if_pos hv, r115, if_pos (by omega), if_pos k, c1, if_pos (by omega), if_neg (by omega), if_pos hY.h7, e100, jg_uN (by decide), h12, if_pos (show 0 ≤ (N : Int) ∧ (N : Int) < 1500 by omega), if_pos (show -1 ≤ v ∧ v < 4 by omega), jo_le, if_pos hv]
      by_cases q : r' = 0
      · rw [if_pos (by omega), if_pos q]
      · rw [if_neg (by omega), if_neg q]
    have L3 : jLo (jc_ui K 82 v r') (jg_u G 115 v r') N x κ B w1 (jup r v r') := by
      refine ⟨hY1, hM1, hz1, hT1, ⟨fun s s0 s1 => ?_, fun kk k0 k1 => ?_⟩, fun s s0 s1 => ?_⟩
      · rw [hg 107 (by decide), hg 110 (by decide)]
        exact hc1 s s0 s1
      · rw [hg 111 (by decide)]
        exact hc2 kk k0 k1
      · rw [jt1, pj1 _ (jt_b G s N).2]
        have jcs : ∀ y : Nat, jch G N s y → jch (jg_u G 115 v r') N s y := fun y hy => ⟨hy.1, fun z => by
          rw [hg 99 (by decide), hg 98 (by decide)]
          exact hy.2 z⟩
        by_cases e : s = v
        · subst e
          have := hc'.1
          rw [jupH, jg_uH, pj1 _ (by omega)]
          have e1 : jt G s (c - 1) = r' := by
            have j := (L.1 c c2 (by omega)).2.2.1
            rw [c5, c99, if_neg (by omega), e100] at j
            exact j.symm
          have e2 : jzL G s R = jzL G s r' := by rw [L.z1 hv.1 r1 rN c99 k c1, jzL_jt (c - 1), e1]; rfl
          exact ⟨rfl, jcs _ hc', hpl.trans un, fun _ => ho, by rw [hl1.zL s N (Int.le_refl _), hl1.zL s r' (by omega), hql, e2]⟩
        · obtain ⟨b1, b2, b3, b4, b5⟩ := hr s s0 s1
          have bN := b2.1
          rw [jupN e, jg_uI e, pj1 _ (by omega)]
          exact ⟨b1, jcs _ b2, b3, b4, by rw [hl1.zL s N (Int.le_refl _), hl1.zL s (r s) (by omega), b5]⟩
    have smN : jsm (jg_u G 115 v r') (jup r v r') = jsm G (jup r v r') := jsm_a hl1 (fun s s0 s1 => by
      by_cases e : s = v
      · rw [e, jupH]; exact hc'.1
      · rw [jupN e]; exact (hr s s0 s1).2.1.1)
    obtain ⟨K', G', st', x1, x2, x3, x4, x5, x6⟩ := jfin1 (t := v) (m := m) (m' := a) (i := i + 1) hP L3 hκ hB hv (by rw [jt1]; exact ho) (by rw [jupH, jc_uH]) (fun s s0 s1 hs => by
      unfold jnx
      rw [jupN hs, jc_uI hs]
      exact h82 s s0 s1) (fun s s0 s1 hs e => by
      rw [jupN hs] at e
      rw [jt1]
      exact h0 s s0 s1 e) (by omega) (by omega) (by omega) (by omega) (by omega) (by rw [jc_uN (by decide), jg_uN (by decide)]; exact e81) (by rw [jg_uN (by decide)]; exact p0) (by rw [jg_uN (by decide)]; omega)
    refine ⟨K', G', st', x1, ?_, (g82 r').trans x3, x4, fun j hj => by rw [x5 j hj, jg_uN (by decide)], x6⟩
    rw [ref1, ← x2, jupH]
theorem jlos (hκ : κ ≤ 513) (hB : B ≤ 223) (hW : w1 ≤ 2000000000) : ∀ u : Nat, jLs x κ B w1 u := by
  intro u
  induction u with
  | zero => exact jlos_s hκ hB hW 0 (fun v hv => absurd hv (Nat.succ_ne_zero _))
  | succ u ih => exact jlos_s hκ hB hW (u + 1) (fun v hv => by
      have e : v = u := by omega
      rw [e]; exact ih)
end
