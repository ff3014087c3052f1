/-! THE CACHE: a frame cleaned, a page used -/
theorem jw_x.s {G X : jg_G} {v : Int} (h : jw_x G X v) (h0 : 0 ≤ jd_due G v) : jw_s G X := ⟨fun n a j => h.1 n (by omega) (by omega) (by omega) j, fun j hj => h.2.1 j (Or.inr hj), fun i a b c d _ f => h.2.2.1 i a b c d f, by rw [h.2.2.2.2.1]; omega, h.2.2.2.2.2⟩
theorem jN_write {K : jc_K} {G : jg_G} {cv : Int → Nat} {N : Nat} {f : Int} (h : jN K G cv N) (hf : 0 ≤ f ∧ f < 4) (hh : 0 ≤ G 95 f) (hW : G 92 3 < 2147483647) : ∃ K' G' b, fc14 K (G 95 f) (71 + 2 * f.toNat) = some (K', b) ∧ fo167 G f = some (G', 0) ∧ jk_s (fun n => 3 ≤ n ∧ n < 57) K K' ∧ ((b = 1 ∧ jN (jc_ui K' 70 f 0) G' cv N ∧ jw_s G G' ∧ (∀ i, G' 95 i = G 95 i) ∧ (∀ i, G' 96 i = G 96 i) ∧ G' 97 f = 0 ∧ (∀ i, i ≠ f → G' 97 i = G 97 i) ∧ G' 92 3 = G 92 3 + 1 ∧ G' 92 8 = G 92 8) ∨ (b = 0 ∧ jX K' G' G ∧ G' 92 3 ≤ G 92 3 + 1)) := by
  obtain ⟨⟨a1, a2, a3⟩, ⟨b1, b2, b3, b4, b5⟩, ⟨⟨ca1, ca2, ca3⟩, c2, c3, c4⟩⟩ := h
  obtain ⟨d1, ⟨v, v1, v2, v3, v4, v5⟩, d3, d4⟩ := c2 f hf.1 hf.2 hh
  have hb := (ca2 f hf.1 hf.2).2.2.1
  have n13 := a2.2.2.1
  have hvc : v = cv (G 95 f) := by omega
  have due0 : 0 ≤ jd_due G v ∧ G 92 13 + jd_due G v ≤ N := by unfold jd_due; split <;> omega
  obtain ⟨K', G', b, r1, r2, s, q1, q2, q3, q4⟩ := jd_write a1 a2 a3 b1 b2 hW hf ⟨hh, hb.2⟩ v1 (by omega) ⟨v, v1, Int.le_refl _, v3, v4, v5⟩ d3 (by
    rcases d4 with d | ⟨d, x, y, z, w, _⟩
    · omega
    · omega)
  refine ⟨K', G', b, r1, r2, s, ?_⟩
  rcases q4 with ⟨rfl, X, eX, hX⟩ | ⟨rfl, hU, X, eX, hX, hq, hqp⟩
  · right
    have k := fr_fw_k X
    rcases hX with ⟨t, t1, t2, rfl⟩ | hX
    · have hw : jw_s G (jg_u (fr_w G (t - 1)) 92 13 (G 92 13 + (t - 1))) := by
        refine ⟨fun n a j => ?_, fun j _ => ?_, fun i a b c d _ e => ?_, by rw [jg_uH]; omega, jd_m.same (fun j _ _ => (jg_uN (by decide)).trans ((jg_uN (by decide)).trans (jg_uN (by decide))))⟩
        · rw [jg_uN (by omega)]; exact (jg_uN (by omega)).trans (jg_uN (by omega))
        · rw [jg_uN (by decide)]; exact (jg_uN (by decide)).trans (jg_uN (by decide))
        · rw [jg_uI e]; exact (jg_uI c).trans (jg_uI d)
      refine ⟨rfl, ⟨⟨q1, q2, q3⟩, _, eX, hw, ?_⟩, ?_⟩
      · rw [jg_uH, hw.2.2.1 12 (by decide) (by decide) (by decide) (by decide) (by decide) (by decide), b3]; omega
      · rw [eX, k.1 3 (by decide) (by decide) (by decide) (by decide), jg_uI (by decide)]
        have : fr_w G (t - 1) 92 3 = G 92 3 := (jg_uI (by decide)).trans (jg_uI (by decide))
        rw [this]; omega
    · refine ⟨rfl, ⟨⟨q1, q2, q3⟩, X, eX, hX.s due0.1, ?_⟩, ?_⟩
      · rw [hX.2.2.2.2.1, hX.2.2.1 12 (by decide) (by decide) (by decide) (by decide) (by decide), b3]; exact due0.2
      · rw [eX, k.1 3 (by decide) (by decide) (by decide) (by decide), hX.2.2.2.1]; exact Int.le_refl _
  · left
    have gu : ∀ n i, (n ≠ 97 ∨ i ≠ f) → G' n i = X n i := fun n i h => by
      rw [eX]
      rcases h with h | h
      · exact jg_uN h
      · by_cases e : n = 97
        · rw [e]; exact jg_uI h
        · exact jg_uN e
    have g97f : G' 97 f = 0 := by rw [eX]; exact jg_uH
    have gn : ∀ n i, n ≠ 92 → n ≠ 93 → n ≠ 94 → (n ≠ 97 ∨ i ≠ f) → G' n i = G n i := fun n i x y z w => (gu n i w).trans (hX.1 n x y z i)
    have g92 : ∀ i, i ≠ 3 → i ≠ 4 → i ≠ 5 → i ≠ 6 → i ≠ 13 → G' 92 i = G 92 i := fun i x y z w u => (gu 92 i (Or.inl (by decide))).trans (hX.2.2.1 i x y z w u)
    have g3 : G' 92 3 = G 92 3 + 1 := (gu 92 3 (Or.inl (by decide))).trans hX.2.2.2.1
    have g13 : G' 92 13 = G 92 13 + jd_due G v := (gu 92 13 (Or.inl (by decide))).trans hX.2.2.2.2.1
    have g93 : ∀ j, (j < 67 * 4 ∨ 67 * 54 ≤ j) → G' 93 j = G 93 j := fun j hj => (gu 93 j (Or.inl (by decide))).trans (hX.2.1 j hj)
    have hw : jw_s G G' := ⟨fun n x j => gn n j (by omega) (by omega) (by omega) (Or.inl (by omega)), fun j hj => g93 j (Or.inr hj), fun i x y z w _ u => g92 i x y z w u, by rw [g13]; omega, fun p a b => by rw [gu 93 _ (Or.inl (by decide))]; exact hX.2.2.2.2.2 p a b⟩
    have hl := hw.l
    have hnum : ∀ q, 0 ≤ q → q < 24 → G' 93 (67 * (4 + 2 * q) + 1) = G' 93 (67 * (5 + 2 * q) + 1) := fun q x y => (q1.2.2 q x y).2.2.2.1 (hU q x y)
    have hn5 : ∀ q, 0 ≤ q → q < 24 → q ≠ G 95 f → G' 93 (67 * (5 + 2 * q) + 1) = G 93 (67 * (5 + 2 * q) + 1) := fun q x y e => by
      rw [← hnum q x y, gu 93 _ (Or.inl (by decide)), hq q x y e]
      exact (a1.2.2 q x y).2.2.2.1 (a3 q x y)
    have hn5p : G' 93 (67 * (5 + 2 * G 95 f) + 1) = v := by
      rw [← hnum _ hh hb.2, gu 93 _ (Or.inl (by decide)), hqp]
    have sK : jk_s (fun n => (3 ≤ n ∧ n < 57) ∨ n = 70) K (jc_ui K' 70 f 0) := (s.mono (fun n e => Or.inl e)).trans (jk_s.u (Or.inr rfl))
    refine ⟨rfl, ⟨⟨?_, ?_, hU⟩, ⟨by rw [g92 7 (by decide) (by decide) (by decide) (by decide) (by decide)]; exact b1, q3, by rw [g92 12 (by decide) (by decide) (by decide) (by decide) (by decide)]; exact b3, b4, by rw [g13]; exact due0.2⟩, ⟨⟨?_, fun i i0 i1 => ?_, fun i j i0 i1 j0 j1 x y => ?_⟩, fun i i0 i1 hi => ?_, fun i i0 i1 hi => ?_, fun q q0 q1 hqn => ?_⟩⟩, hw, fun i => gn 95 i (by decide) (by decide) (by decide) (Or.inl (by decide)), fun i => gn 96 i (by decide) (by decide) (by decide) (Or.inl (by decide)), g97f, fun i hi => gn 97 i (by decide) (by decide) (by decide) (Or.inr hi), g3, g92 8 (by decide) (by decide) (by decide) (by decide) (by decide)⟩
    · exact q1.keep (Int.le_refl _) ⟨⟨rfl, rfl, rfl⟩, fun i _ => jc_uN (by decide), fun n x y i => jc_uN (by omega)⟩ (by rw [jc_uN (by decide)]; exact q1.1.1) (Int.le_refl _) rfl (jl_s.refl _) (fun _ _ _ => rfl) (fun _ => rfl)
    · obtain ⟨⟨n1, n2, n3⟩, n4⟩ := q2
      exact ⟨⟨(jc_uN (by decide)).trans n1, (jc_uN (by decide)).trans n2, (jc_uN (by decide)).trans n3⟩, n4⟩
    · rw [sK.2 66 (by omega), g92 8 (by decide) (by decide) (by decide) (by decide) (by decide)]; exact ca1
    · obtain ⟨⟨x1, x2, x3⟩, x4, x5, x6⟩ := ca2 i i0 i1
      refine ⟨⟨?_, ?_, ?_⟩, ?_, ?_, sK.pg x6⟩
      · rw [sK.2 68 (by omega), gn 95 i (by decide) (by decide) (by decide) (Or.inl (by decide))]; exact x1
      · rw [sK.2 69 (by omega), gn 96 i (by decide) (by decide) (by decide) (Or.inl (by decide))]; exact x2
      · by_cases e : i = f
        · rw [e, jc_uH, g97f]
        · rw [jc_uI e, s.2 70 (by omega), gn 97 i (by decide) (by decide) (by decide) (Or.inr e)]; exact x3
      · rw [gn 96 i (by decide) (by decide) (by decide) (Or.inl (by decide))]; exact x4
      · rw [gn 95 i (by decide) (by decide) (by decide) (Or.inl (by decide))]; exact x5
    · rw [gn 95 i (by decide) (by decide) (by decide) (Or.inl (by decide))] at x y
      rw [gn 95 j (by decide) (by decide) (by decide) (Or.inl (by decide))] at y
      exact ca3 i j i0 i1 j0 j1 x y
    · rw [gn 95 i (by decide) (by decide) (by decide) (Or.inl (by decide))] at hi ⊢
      obtain ⟨e1, e2, e3, e4⟩ := c2 i i0 i1 hi
      have hbi := (ca2 i i0 i1).2.2.1
      refine ⟨by rw [g93 _ (Or.inl (by omega))]; exact e1, e2.s hl (fun j x y => g93 j (Or.inl (by omega))), e3.s hl (fun j x y => g93 j (Or.inl (by omega))) sK (by omega) (by omega), ?_⟩
      by_cases e : i = f
      · rw [e]
        exact Or.inl ⟨g97f, by rw [hn5p, hvc]⟩
      · have hne : G 95 i ≠ G 95 f := fun z => e (ca3 i f i0 i1 hf.1 hf.2 hi z)
        exact e4.s hl (gn 97 i (by decide) (by decide) (by decide) (Or.inr e)) (hn5 _ (by omega) hbi.2 hne)
    · rw [gn 95 i (by decide) (by decide) (by decide) (Or.inl (by decide))] at hi
      by_cases e : i = f
      · rw [e]; exact g97f
      · rw [gn 97 i (by decide) (by decide) (by decide) (Or.inr e)]; exact c3 i i0 i1 hi
    · have hqn' : ∀ i, 0 ≤ i → i < 4 → G 95 i ≠ q := fun i i0 i1 => by
        rw [← gn 95 i (by decide) (by decide) (by decide) (Or.inl (by decide))]; exact hqn i i0 i1
      rw [hn5 q q0 q1 (fun z => hqn' f hf.1 hf.2 z.symm)]
      exact c4 q q0 q1 hqn'
/-- a page used -/
theorem jN_use {K : jc_K} {G : jg_G} {cv : Int → Nat} {N : Nat} {p : Int} (h : jN K G cv N) (hp : 0 ≤ p ∧ p < 24) (hW : jP G < 2147483647) : ∃ K' G' b, fc5 K p = some (K', b) ∧ fo168 G p = some (G', 0) ∧ jk_s jS_n K K' ∧ ((b = 1 ∧ jN K' G' cv N ∧ jw_s G G' ∧ jP G' ≤ jP G ∧ 0 ≤ fr_fo G' p) ∨ (b = 0 ∧ jX K' G' G ∧ G' 92 3 ≤ jP G)) := by
  have ha := h.2.2.1
  have h7 := h.2.1.1
  have e2 := jk_fc2 ha hp.1
  have r := fr_fo_r G p
  have e5 : fc5 K p = (if fr_fo G p < 0 then ((fc6 K).bind fun x6 => if 0 ≤ (x6.2) ∧ (x6.2) < 4 then if jc_i (x6.1) 70 (x6.2) ≤ 0 then (fc5_65 (x6.1) p (x6.2)) else ((fc14 (x6.1) (jc_i (x6.1) 68 (x6.2)) (71 + 2 * Int.toNat (x6.2))).bind fun x10 => if x10.2 = 0 then (some (x10.1, 0)) else (fc5_65 (x10.1) p (x6.2))) else none) else fc5_97 K p (fr_fo G p)) := by
    unfold fc5
    rw [if_neg (by omega), if_pos hp.2, e2, jo_bs]
    dsimp only
    by_cases c : fr_fo G p < 0
    · rw [if_pos c, if_pos c]
    · rw [if_neg c, if_neg c, if_pos r.2.1]
  have e168 : fo168 G p = fo168_14 G p (fr_fo G p) := by
    unfold fo168 jo_l
    rw [if_pos h7]
  rw [e5, e168]
  by_cases c : 0 ≤ fr_fo G p
  · rw [if_neg (by omega)]
    have e14 : fo168_14 G p (fr_fo G p) = some (jg_u G 96 (fr_fo G p) 1, 0) := by
      unfold fo168_14
      rw [if_neg (by omega)]
      unfold fo168_125
      rw [if_pos ⟨c, r.2.1⟩]
    have e97 : fc5_97 K p (fr_fo G p) = some (jc_ui K 69 (fr_fo G p) 1, 1) := by
      unfold fc5_97
      rw [if_pos ⟨c, r.2.1⟩]
    obtain ⟨⟨ca1, ca2, ca3⟩, _⟩ := h.2.2
    have hc : jf_c K (jc_ui K 69 (fr_fo G p) 1) G (jg_u G 96 (fr_fo G p) 1) := ⟨⟨jk_s.u (Or.inr rfl), fun i _ => jc_uN (by decide)⟩, fun n a b j => jg_uN b, fun i _ => jg_uN (by decide)⟩
    have ha' : jf_a (jc_ui K 69 (fr_fo G p) 1) (jg_u G 96 (fr_fo G p) 1) := by
      refine ⟨by rw [jc_uN (by decide), jg_uN (by decide)]; exact ca1, fun i i0 i1 => ?_, fun i j i0 i1 j0 j1 x y => ?_⟩
      · obtain ⟨⟨x1, x2, x3⟩, x4, x5, x6⟩ := ca2 i i0 i1
        refine ⟨⟨by rw [jc_uN (by decide), jg_uN (by decide)]; exact x1, ?_, by rw [jc_uN (by decide), jg_uN (by decide)]; exact x3⟩, ?_, by rw [jg_uN (by decide)]; exact x5, x6⟩
        · by_cases e : i = fr_fo G p
          · rw [e, jc_uH, jg_uH]
          · rw [jc_uI e, jg_uI e]; exact x2
        · by_cases e : i = fr_fo G p
          · rw [e, jg_uH]; exact Or.inr rfl
          · rw [jg_uI e]; exact x4
      · rw [jg_uN (by decide)] at x y
        rw [jg_uN (by decide)] at y
        exact ca3 i j i0 i1 j0 j1 x y
    have fo' : fr_fo (jg_u G 96 (fr_fo G p) 1) p = fr_fo G p := by
      unfold fr_fo
      rw [jg_uN (by decide), jg_uN (by decide), jg_uN (by decide), jg_uN (by decide)]
    refine ⟨_, _, 1, e97, e14, jk_s.u (by unfold jS_n; omega), Or.inl ⟨rfl, h.c ha' hc, ⟨fun n a j => jg_uN (by omega), fun j _ => jg_uN (by decide), fun i _ _ _ _ _ _ => jg_uN (by decide), by rw [jg_uN (by decide)]; exact Int.le_refl _, jd_m.same (fun j _ _ => jg_uN (by decide))⟩, ?_, by rw [fo']; exact c⟩⟩
    rw [jP_same (fun i => jg_uN (by decide)) (jg_uN (by decide))]
    exact Int.le_refl _
  · have en : fr_fo G p = -1 := by omega
    rw [if_pos (by omega)]
    have hu := ha.2.1
    have hno : ∀ f, 0 ≤ f → f < 4 → G 95 f ≠ p := fun f f0 f1 z => by
      have := fr_fo_is ha.2.2 hp.1 f0 f1 z
      omega
    obtain ⟨u, eu, ule⟩ : ∃ u : Nat, G 96 0 + G 96 1 + G 96 2 + G 96 3 = u ∧ u ≤ 4 := by
      have b0 := (hu 0 (by decide) (by decide)).2.1
      have b1 := (hu 1 (by decide) (by decide)).2.1
      have b2 := (hu 2 (by decide) (by decide)).2.1
      have b3 := (hu 3 (by decide) (by decide)).2.1
      exact ⟨(G 96 0 + G 96 1 + G 96 2 + G 96 3).toNat, by omega, by omega⟩
    obtain ⟨f, K1, G1, k1, k2, k3, k4, k5⟩ := jf_clock (p := p) u K G 4000 4000 (-1) 0 0 ha eu (by decide) (by omega) (by omega) (by omega)
    have e14 : fo168_14 G p (fr_fo G p) = (if G1 97 f ≤ 0 then fo168_100 G1 p f else (fo167 G1 f).bind fun x => fo168_100 (x.1) p f) := by
      unfold fo168_14
      rw [if_pos en, en, jo_Ne]
      exact k2
    have e6 : fc6 K = some (K1, f) := by
      unfold fc6
      rw [jo_Ne]
      exact k1
    rw [e14, e6, jo_bs]
    dsimp only
    have h1 := h.c k4 k5
    have g : ∀ n j, n ≠ 92 → n ≠ 96 → G1 n j = G n j := fun n j a b => k5.2.1 n a b j
    have hno1 : ∀ f, 0 ≤ f → f < 4 → G1 95 f ≠ p := fun f f0 f1 => by rw [g 95 f (by decide) (by decide)]; exact hno f f0 f1
    have w1 : jw_s G G1 := ⟨fun n a j => g n j (by omega) (by omega), fun j _ => g 93 j (by decide) (by decide), fun i _ _ _ _ e _ => k5.2.2 i e, by rw [k5.2.2 13 (by decide)]; exact Int.le_refl _, jd_m.same (fun j _ _ => g 93 j (by decide) (by decide))⟩
    have P1 : jP G1 = jP G := jP_same (fun i => g 97 i (by decide) (by decide)) (k5.2.2 3 (by decide))
    have s1 : jk_s jS_n K K1 := k5.1.1.mono (fun n e => by unfold jS_n; omega)
    have h70 := (k4.2.1 f k3.1 k3.2).1
    rw [if_pos k3, h70.2.2]
    by_cases cd : G1 97 f ≤ 0
    · rw [if_pos cd, if_pos cd]
      have cd0 : G1 97 f = 0 := by
        by_cases e : 0 ≤ G1 95 f
        · rcases (h1.2.2.2.1 f k3.1 k3.2 e).2.2.2 with d | ⟨d, x, y, _⟩
          · exact d.1
          · omega
        · exact h1.2.2.2.2.1 f k3.1 k3.2 (by omega)
      have h1' : jN (jc_ui K1 70 f 0) G1 cv N := by
        rw [jc_uS (h70.2.2.trans cd0)]
        exact h1
      obtain ⟨K', G', r1, r2, r3, r4, r5, r6, r7⟩ := jN_in h1' k3 hp hno1 cd0
      exact ⟨K', G', 1, r1, r2, s1.trans r4, Or.inl ⟨rfl, r3, w1.trans r5, by rw [r6, P1]; exact Int.le_refl _, by rw [r7]; exact k3.1⟩⟩
    · rw [if_neg cd, if_neg cd]
      have hh : 0 ≤ G1 95 f := by
        by_cases e : 0 ≤ G1 95 f
        · exact e
        · have := h1.2.2.2.2.1 f k3.1 k3.2 (by omega)
          omega
      have hge := jP_ge1 k3 (by omega : G1 97 f ≠ 0)
      obtain ⟨K2, G2, b, r1, r2, r3, r4⟩ := jN_write h1 k3 hh (by omega)
      rw [h70.1, r1, r2, jo_bs, jo_bs]
      dsimp only
      have s2 : jk_s jS_n K K2 := s1.trans (r3.mono (fun n e => Or.inl e))
      rcases r4 with ⟨rfl, t1, t2, t3, t4, t5, t6, t7, t8⟩ | ⟨rfl, t1, t2⟩
      · rw [if_neg (by decide)]
        have hno2 : ∀ f, 0 ≤ f → f < 4 → G2 95 f ≠ p := fun f f0 f1 => by rw [t3]; exact hno1 f f0 f1
        obtain ⟨K', G', u1, u2, u3, u4, u5, u6, u7⟩ := jN_in t1 k3 hp hno2 t5
        refine ⟨K', G', 1, u1, u2, s2.trans u4, Or.inl ⟨rfl, u3, (w1.trans t2).trans u5, ?_, by rw [u7]; exact k3.1⟩⟩
        rw [u6, jP_clean k3 (by omega) t5 t6 t7, P1]
        exact Int.le_refl _
      · rw [if_pos rfl]
        obtain ⟨q0, X, eX, q1, q2⟩ := t1
        have e100 : fo168_100 G2 p f = some (G2, 0) := by
          unfold fo168_100
          rw [if_neg (by rw [eX, fr_fw7]; decide)]
        exact ⟨K2, G2, 0, rfl, e100, s2, Or.inr ⟨rfl, ⟨q0, X, eX, w1.trans q1, q2⟩, by omega⟩⟩
