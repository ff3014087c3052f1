/-! RECOVER: the halves of a page mended -/
def jy_h (G : jg_G) (f to w : Int) : jg_G := jg_u (fr_copies (fr_w G 1) f to) 94 to w
def jy_e (G G' : jg_G) (f to w : Int) : Prop := (∀ j, 0 ≤ j → j < 67 → G' 93 (67 * to + j) = G 93 (67 * f + j)) ∧ (∀ j, ¬ (67 * to ≤ j ∧ j < 67 * to + 67) → G' 93 j = G 93 j) ∧ G' 94 to = w ∧ (∀ i, i ≠ to → G' 94 i = G 94 i) ∧ (∀ i, i ≠ 5 → i ≠ 6 → G' 92 i = G 92 i) ∧ ∀ n, n ≠ 92 → n ≠ 93 → n ≠ 94 → ∀ j, G' n j = G n j
theorem jy_h92 {G : jg_G} {f to w i : Int} (h5 : i ≠ 5) (h6 : i ≠ 6) : jy_h G f to w 92 i = G 92 i := by
  unfold jy_h fr_copies fr_w
  rw [jg_uN (by decide)]
  show (if (92 : Nat) = 93 ∧ _ then _ else _) = _
  rw [if_neg (fun z => absurd z.1 (by decide)), jg_uI h5, jg_uI h6]
theorem jy_h6 {G : jg_G} {f to w : Int} : jy_h G f to w 92 6 = if G 92 6 ≤ 0 then G 92 6 else G 92 6 - 1 := by
  unfold jy_h fr_copies fr_w
  rw [jg_uN (by decide)]
  show (if (92 : Nat) = 93 ∧ _ then _ else _) = _
  rw [if_neg (fun z => absurd z.1 (by decide)), jg_uI (by decide), jg_uH]
theorem jy_h5 {G : jg_G} {f to w : Int} : jy_h G f to w 92 5 = jb_m (G 92 5 + 1) := by
  unfold jy_h fr_copies fr_w
  rw [jg_uN (by decide)]
  show (if (92 : Nat) = 93 ∧ _ then _ else _) = _
  rw [if_neg (fun z => absurd z.1 (by decide)), jg_uH]
theorem jy_h_e (G : jg_G) (f to w : Int) : jy_e G (jy_h G f to w) f to w := by
  have a : ∀ n j, n ≠ 92 → fr_w G 1 n j = G n j := fun n j h => (jg_uN h).trans (jg_uN h)
  refine ⟨fun j j0 j1 => ?_, fun j hj => ?_, jg_uH, fun i hi => ?_, fun i h5 h6 => jy_h92 h5 h6, fun n h2 h3 h4 j => ?_⟩
  · unfold jy_h fr_copies
    rw [jg_uN (by decide)]
    show (if (93 : Nat) = 93 ∧ _ then _ else _) = _
    rw [if_pos ⟨rfl, by omega, by omega⟩, a _ _ (by decide)]
    congr 1
    omega
  · unfold jy_h fr_copies
    rw [jg_uN (by decide)]
    show (if (93 : Nat) = 93 ∧ _ then _ else _) = _
    rw [if_neg (fun z => hj z.2), a _ _ (by decide)]
  · unfold jy_h fr_copies
    rw [jg_uI hi]
    show (if (94 : Nat) = 93 ∧ _ then _ else _) = _
    rw [if_neg (fun z => absurd z.1 (by decide)), a _ _ (by decide)]
  · unfold jy_h fr_copies
    rw [jg_uN h4]
    show (if n = 93 ∧ _ then _ else _) = _
    rw [if_neg (fun z => h3 z.1), a _ _ h2]
theorem jy_e.l {G G' : jg_G} {f to w : Int} (h : jy_e G G' f to w) (ht : to < 54) : jl_s G G' := ⟨fun m a b j => h.2.2.2.2.2 m (by omega) (by omega) (by omega) j, fun j hj => h.2.1 j (by omega)⟩
theorem jy_e.row {G G' : jg_G} {f to w r : Int} (h : jy_e G G' f to w) (hr : r ≠ to) : ∀ j, 0 ≤ j → j < 67 → G' 93 (67 * r + j) = G 93 (67 * r + j) := fun j j0 j1 => h.2.1 _ (by omega)
theorem jyw_ok {G : jg_G} {f to w : Int} (hf : 0 ≤ f ∧ f < 4554) (ht : 0 ≤ to ∧ to < 54) (h6 : 0 ≤ G 92 6 ∧ G 92 6 < 1000) (h7 : G 92 7 = 0) (h1 : G 92 6 ≠ 1) : fo166 G f to w = some (jy_h G f to w, 0) := by
  obtain ⟨e1, e2⟩ := fr_iw_ok h7 h1
  unfold fo166 jo_l
  rw [if_pos h6, e1, e2]
  dsimp only
  rw [if_neg (by decide), if_pos hf, if_pos ⟨by omega, by omega⟩, if_pos ht]
  rfl
section
variable {K K' : jc_K} {G G' : jg_G} {D p : Int}
/-- what is told of a torn page -/
theorem jdc.torn (h : jdc K G D) (hp : 0 ≤ p ∧ p < 24) (hne : G 94 (4 + 2 * p) ≠ G 94 (5 + 2 * p)) : jd_t K G D p ∧ ∀ q, 0 ≤ q → q < 24 → q ≠ p → G 94 (4 + 2 * q) = G 94 (5 + 2 * q) := by
  have t := (h.2.2 p hp.1 hp.2).2.2.2.2 hne
  refine ⟨t, fun q q0 q1 hq => ?_⟩
  by_cases e : G 94 (4 + 2 * q) = G 94 (5 + 2 * q)
  · exact e
  · have t' := (h.2.2 q q0 q1).2.2.2.2 e
    exact absurd (t'.1.2.2.1.symm.trans t.1.2.2.1) hq
theorem jmd1 (h : jdc K G D) (hp : 0 ≤ p ∧ p < 24) (hne : G 94 (4 + 2 * p) ≠ G 94 (5 + 2 * p)) (hx : jy_e G G' 52 (4 + 2 * p) (G 94 52)) (hK : (K'.1 = K.1 ∧ K'.2.1 = K.2.1 ∧ K'.2.2.2 = K.2.2.2) ∧ (∀ i, i ≠ 9 → i ≠ 10 → jc_i K' 3 i = jc_i K 3 i) ∧ ∀ n, 5 ≤ n → n < 57 → ∀ i, jc_i K' n i = jc_i K n i) : jdc K' G' D ∧ (∀ i, G' 94 i = G 94 i) ∧ G' 93 (67 * (4 + 2 * p) + 1) = G' 93 (67 * 53 + 1) := by
  obtain ⟨ht, hU⟩ := h.torn hp hne
  obtain ⟨⟨t1, t2, t3, t4⟩, ⟨t5, t6, t7, t8⟩, t9, t10, t11⟩ := ht
  obtain ⟨⟨a1, a2, a3, a4, a5, a6⟩, b, c⟩ := h
  have hl := hx.l (by omega)
  have g3 : G' 92 3 = G 92 3 := hx.2.2.2.2.1 3 (by decide) (by decide)
  have g4 : G' 92 4 = G 92 4 := hx.2.2.2.2.1 4 (by decide) (by decide)
  have h94 : ∀ i, G' 94 i = G 94 i := fun i => by
    by_cases e : i = 4 + 2 * p
    · rw [e, hx.2.2.1]; exact t11.symm
    · exact hx.2.2.2.1 i e
  have n1 : ∀ r, r ≠ 4 + 2 * p → G' 93 (67 * r + 1) = G 93 (67 * r + 1) := fun r e => hx.row e 1 (by decide) (by decide)
  have hn4 : G' 93 (67 * (4 + 2 * p) + 1) = G 93 (67 * 52 + 1) := hx.1 1 (by decide) (by decide)
  have s : jk_s (fun n => ¬ (5 ≤ n ∧ n < 57)) K K' := ⟨hK.1, fun n hn i => by
    have hn : 5 ≤ n ∧ n < 57 := Decidable.byContradiction hn
    exact hK.2.2 n hn.1 hn.2 i⟩
  have kk : ∀ q, 5 ≤ q → q + 1 < 57 → ∀ c, jp_k K q c → jp_k K' q c := fun q q0 q1 c hc => s.k (by simp only [Classical.not_not]; omega) (by simp only [Classical.not_not]; omega) hc
  refine ⟨⟨⟨by rw [hK.2.1 7 (by decide) (by decide), g3]; exact a1, by rw [hK.2.1 5 (by decide) (by decide), h94]; exact a2, by rw [hK.2.1 6 (by decide) (by decide), h94]; exact a3, by rw [hK.2.1 4 (by decide) (by decide)]; exact a4, by rw [g4]; exact a5, s.pg a6⟩, fun i i0 i1 => by rw [h94, g3]; exact b i i0 i1, fun q q0 q1 => ?_⟩, h94, by rw [hn4, n1 53 (by omega)]; exact t7⟩
  obtain ⟨c1, c2, c3, c4, c5⟩ := c q q0 q1
  by_cases e : q = p
  · subst e
    refine ⟨⟨by rw [hK.2.2 5 (by decide) (by decide), h94]; exact c1.1, by rw [hK.2.2 6 (by decide) (by decide), h94]; exact c1.2⟩, ⟨t5.m hl hx.1 (Int.le_refl _), c2.2.m hl (hx.row (by omega)) (Int.le_refl _)⟩, c3.m hl (n1 _ (by omega)) (hK.2.2 _ (by omega) (by omega) _) (kk _ (by omega) (by omega)), fun z => ?_, fun _ => ?_⟩
    · rw [h94, h94] at z
      exact absurd z hne
    · refine ⟨⟨by rw [h94, h94]; exact t1, by omega, by rw [g4]; exact t3, by rw [hK.2.1 4 (by decide) (by decide)]; exact t4⟩, ⟨t5.m hl (hx.row (by omega)) (Int.le_refl _), t6.m hl (hx.row (by omega)) (Int.le_refl _), by rw [n1 _ (by omega), n1 _ (by omega)]; exact t7, t8.m hl (n1 _ (by omega)) (hK.2.2 7 (by decide) (by decide) _) (kk 7 (by decide) (by decide))⟩, ?_, ?_, by rw [h94, h94]; exact t11⟩
      · rw [hn4, n1 53 (by omega), t7]; exact Int.le_refl _
      · rw [n1 _ (by omega), n1 53 (by omega)]; exact t10
  · refine ⟨⟨by rw [hK.2.2 5 (by decide) (by decide), h94]; exact c1.1, by rw [hK.2.2 6 (by decide) (by decide), h94]; exact c1.2⟩, ⟨c2.1.m hl (hx.row (by omega)) (Int.le_refl _), c2.2.m hl (hx.row (by omega)) (Int.le_refl _)⟩, c3.m hl (n1 _ (by omega)) (hK.2.2 _ (by omega) (by omega) _) (kk _ (by omega) (by omega)), fun z => ?_, fun z => ?_⟩
    · rw [n1 _ (by omega), n1 _ (by omega)]
      rw [h94, h94] at z
      exact c4 z
    · rw [h94, h94] at z
      exact absurd (hU q q0 q1 e) z
theorem jmd2 (h : jdc K G D) (hp : 0 ≤ p ∧ p < 24) (hne : G 94 (4 + 2 * p) ≠ G 94 (5 + 2 * p)) (hv : G 93 (67 * (4 + 2 * p) + 1) = G 93 (67 * 53 + 1)) (hx : jy_e G G' 53 (5 + 2 * p) (G 94 52)) (hK : (K'.1 = K.1 ∧ K'.2.1 = K.2.1 ∧ K'.2.2.2 = K.2.2.2) ∧ (∀ i, i ≠ 9 → i ≠ 10 → jc_i K' 3 i = jc_i K 3 i) ∧ jc_i K' 6 p = G 94 52 ∧ (∀ i, i ≠ p → jc_i K' 6 i = jc_i K 6 i) ∧ ∀ n, 5 ≤ n → n < 57 → n ≠ 6 → n ≠ 9 + 2 * p.toNat → n ≠ 9 + 2 * p.toNat + 1 → ∀ i, jc_i K' n i = jc_i K n i) (hk : jd_k K' (9 + 2 * p.toNat) G 53 p) : jdc K' G' D ∧ jd_U G' := by
  obtain ⟨ht, hU⟩ := h.torn hp hne
  obtain ⟨⟨t1, t2, t3, t4⟩, ⟨t5, t6, t7, t8⟩, t9, t10, t11⟩ := ht
  obtain ⟨⟨a1, a2, a3, a4, a5, a6⟩, b, c⟩ := h
  obtain ⟨hK0, hK3, hK1, hK2, hKn⟩ := hK
  have hl := hx.l (by omega)
  have g3 : G' 92 3 = G 92 3 := hx.2.2.2.2.1 3 (by decide) (by decide)
  have g4 : G' 92 4 = G 92 4 := hx.2.2.2.2.1 4 (by decide) (by decide)
  have h94 : ∀ i, i ≠ 5 + 2 * p → G' 94 i = G 94 i := hx.2.2.2.1
  have n1 : ∀ r, r ≠ 5 + 2 * p → G' 93 (67 * r + 1) = G 93 (67 * r + 1) := fun r e => hx.row e 1 (by decide) (by decide)
  have hn5 : G' 93 (67 * (5 + 2 * p) + 1) = G 93 (67 * 53 + 1) := hx.1 1 (by decide) (by decide)
  have pg : ∀ {q}, jc_pg K q → jc_pg K' q := fun {q} hq => by
    unfold jc_pg at hq ⊢
    rw [hK0.1, hK0.2.1, hK0.2.2]
    exact hq
  have kk : ∀ q, 5 ≤ q → q + 1 < 57 → q ≠ 6 → q + 1 ≠ 6 → q ≠ 9 + 2 * p.toNat → q ≠ 9 + 2 * p.toNat + 1 → q + 1 ≠ 9 + 2 * p.toNat → ∀ c, jp_k K q c → jp_k K' q c := fun q q0 q1 q2 q3 q4 q5 q6 c hc => by
    obtain ⟨h3, h4, h5, h6⟩ := hc
    exact ⟨pg h3, (hKn q q0 (by omega) q2 q4 q5 0).trans h4, (hKn q q0 (by omega) q2 q4 q5 2).trans h5, fun i i0 i1 => (hKn _ (by omega) q1 q3 q6 (by omega) i).trans (h6 i i0 i1)⟩
  refine ⟨⟨⟨by rw [hK3 7 (by decide) (by decide), g3]; exact a1, by rw [hK3 5 (by decide) (by decide), h94 _ (by omega)]; exact a2, by rw [hK3 6 (by decide) (by decide), h94 _ (by omega)]; exact a3, by rw [hK3 4 (by decide) (by decide)]; exact a4, by rw [g4]; exact a5, pg a6⟩, fun i i0 i1 => ?_, fun q q0 q1 => ?_⟩, fun q q0 q1 => ?_⟩
  · rw [g3]
    by_cases e : i = 5 + 2 * p
    · rw [e, hx.2.2.1]
      exact b 52 (by decide) (by decide)
    · rw [h94 i e]; exact b i i0 i1
  · obtain ⟨c1, c2, c3, c4, c5⟩ := c q q0 q1
    by_cases e : q = p
    · subst e
      refine ⟨⟨by rw [hKn 5 (by decide) (by decide) (by decide) (by omega) (by omega), h94 _ (by omega)]; exact c1.1, by rw [hK1, hx.2.2.1]⟩, ⟨c2.1.m hl (hx.row (by omega)) (Int.le_refl _), t6.m hl hx.1 (Int.le_refl _)⟩, ⟨by rw [hn5]; exact hk.1, by rw [hn5, hl.h]; exact hk.2⟩, fun z => ?_, fun z => ?_⟩
      · rw [n1 _ (by omega), hn5, hv]
      · rw [h94 _ (by omega), hx.2.2.1] at z
        exact absurd t11 z
    · refine ⟨⟨by rw [hKn 5 (by decide) (by decide) (by decide) (by omega) (by omega), h94 _ (by omega)]; exact c1.1, by rw [hK2 q e, h94 _ (by omega)]; exact c1.2⟩, ⟨c2.1.m hl (hx.row (by omega)) (Int.le_refl _), c2.2.m hl (hx.row (by omega)) (Int.le_refl _)⟩, c3.m hl (n1 _ (by omega)) (hKn _ (by omega) (by omega) (by omega) (by omega) (by omega) _) (kk _ (by omega) (by omega) (by omega) (by omega) (by omega) (by omega) (by omega)), fun z => ?_, fun z => ?_⟩
      · rw [n1 _ (by omega), n1 _ (by omega)]
        rw [h94 _ (by omega), h94 _ (by omega)] at z
        exact c4 z
      · rw [h94 _ (by omega), h94 _ (by omega)] at z
        exact absurd (hU q q0 q1 e) z
  · by_cases e : q = p
    · subst e
      rw [h94 _ (by omega), hx.2.2.1]
      exact t11
    · rw [h94 _ (by omega), h94 _ (by omega)]
      exact hU q q0 q1 e
end
/-- the reference: by where the told write lies -/
theorem jr_204 {G : jg_G} {p : Int} (hp : 0 ≤ p ∧ p < 24) (h6 : 0 ≤ G 92 6 ∧ G 92 6 < 1000) (h7 : G 92 7 = 0) (h113 : G 113 3 = 0) : (G 92 6 = 1 ∧ fo204_56 jo_N G p 0 = some (fr_fw G, 0)) ∨ (G 92 6 = 2 ∧ fo204_56 jo_N G p 0 = some (fr_fw (jg_u (jy_h G 52 (4 + 2 * p) (G 94 52)) 113 3 1), 0)) ∨ ((G 92 6 = 0 ∨ 2 < G 92 6) ∧ fo204_56 jo_N G p 0 = some (jg_u (jy_h (jg_u (jy_h G 52 (4 + 2 * p) (G 94 52)) 113 3 1) 53 (5 + 2 * p) (G 94 52)) 113 3 2, 0)) := by
  have m0 : jb_m 0 = 0 := jb_m_e ⟨by decide, by decide⟩
  have m1 : jb_m 1 = 1 := jb_m_e ⟨by decide, by decide⟩
  have m2 : jb_m 2 = 2 := jb_m_e ⟨by decide, by decide⟩
  have last : ∀ (m : Nat) (X : jg_G), fo204_56 (m + 1) X p 2 = some (X, 0) := fun m X => by
    unfold fo204_56
    rw [if_pos (by decide)]
  have e0 : 4 + 2 * p + 0 = 4 + 2 * p := by omega
  have e1 : 4 + 2 * p + 1 = 5 + 2 * p := by omega
  -- fallen before the second
  have dead : ∀ (m : Nat) (X : jg_G), 0 ≤ X 92 6 ∧ X 92 6 < 1000 → X 92 7 ≠ 0 → jb_m (X 113 3) = X 113 3 → fo204_56 (m + 2) X p 1 = some (X, 0) := fun m X x6 x7 x3 => by
    show fo204_56 (m + 1 + 1) X p 1 = _
    conv => lhs; unfold fo204_56
    rw [if_neg (by decide), if_pos (by decide), if_pos (by omega), jx_n x6 x7, jo_bs]
    dsimp only
    rw [if_neg x7, if_pos (by decide), Int.add_zero, x3, jg_uS rfl]
    exact last m X
  have eN : jo_N = 3997 + 3 := rfl
  rw [eN]
  by_cases t1 : G 92 6 = 1
  · refine Or.inl ⟨t1, ?_⟩
    show fo204_56 (3997 + 2 + 1) G p 0 = _
    conv => lhs; unfold fo204_56
    rw [if_neg (by decide), if_pos (by decide), if_pos (by omega), jx_f h6 h7 t1, jo_bs]
    dsimp only
    have f3 : fr_fw G 113 3 = 0 := by rw [(fr_fw_k G).2 113 (by decide)]; exact h113
    rw [if_neg (by rw [fr_fw7]; decide), if_pos (by decide), Int.add_zero, f3, m0, jg_uS f3]
    exact dead 3997 (fr_fw G) (by rw [fr_fw6]; decide) (by rw [fr_fw7]; decide) (by rw [f3]; exact m0)
  · have x1 : fo204_56 (3997 + 3) G p 0 = fo204_56 (3997 + 2) (jg_u (jy_h G 52 (4 + 2 * p) (G 94 52)) 113 3 1) p 1 := by
      show fo204_56 (3997 + 2 + 1) G p 0 = _
      conv => lhs; unfold fo204_56
      rw [if_neg (by decide), if_pos (by decide), if_pos (by omega), e0, Int.add_zero, jyw_ok (by decide) (by omega) h6 h7 t1, jo_bs]
      dsimp only
      have f3 : jy_h G 52 (4 + 2 * p) (G 94 52) 113 3 = 0 := by rw [(jy_h_e G 52 (4 + 2 * p) (G 94 52)).2.2.2.2.2 113 (by decide) (by decide) (by decide)]; exact h113
      rw [if_pos (by rw [jy_h92 (by decide) (by decide)]; exact h7), if_pos (by decide), f3, show (0 : Int) + 1 = 1 from rfl, m1]
    have y6 : jg_u (jy_h G 52 (4 + 2 * p) (G 94 52)) 113 3 1 92 6 = if G 92 6 ≤ 0 then G 92 6 else G 92 6 - 1 := by rw [jg_uN (by decide)]; exact jy_h6
    have y7 : jg_u (jy_h G 52 (4 + 2 * p) (G 94 52)) 113 3 1 92 7 = 0 := by rw [jg_uN (by decide), jy_h92 (by decide) (by decide)]; exact h7
    have y3 : jg_u (jy_h G 52 (4 + 2 * p) (G 94 52)) 113 3 1 113 3 = 1 := jg_uH
    have y94 : jg_u (jy_h G 52 (4 + 2 * p) (G 94 52)) 113 3 1 94 52 = G 94 52 := by
      rw [jg_uN (by decide)]
      exact (jy_h_e G 52 (4 + 2 * p) (G 94 52)).2.2.2.1 52 (by omega)
    rw [x1]
    generalize jg_u (jy_h G 52 (4 + 2 * p) (G 94 52)) 113 3 1 = Y at y6 y7 y3 y94
    have z6 : 0 ≤ Y 92 6 ∧ Y 92 6 < 1000 := by rw [y6]; split <;> omega
    by_cases t2 : G 92 6 = 2
    · refine Or.inr (Or.inl ⟨t2, ?_⟩)
      have yy : Y 92 6 = 1 := by rw [y6, if_neg (by omega)]; omega
      show fo204_56 (3997 + 1 + 1) Y p 1 = _
      conv => lhs; unfold fo204_56
      rw [if_neg (by decide), if_pos (by decide), if_pos (by omega), jx_f z6 y7 yy, jo_bs]
      dsimp only
      have f3 : fr_fw Y 113 3 = 1 := by rw [(fr_fw_k Y).2 113 (by decide)]; exact y3
      rw [if_neg (by rw [fr_fw7]; decide), if_pos (by decide), Int.add_zero, f3, m1, jg_uS f3]
      exact last 3997 _
    · refine Or.inr (Or.inr ⟨by omega, ?_⟩)
      have yy : Y 92 6 ≠ 1 := by
        rw [y6]
        split <;> omega
      show fo204_56 (3997 + 1 + 1) Y p 1 = _
      conv => lhs; unfold fo204_56
      rw [if_neg (by decide), if_pos (by decide), if_pos (by omega), e1, y94, show (52 : Int) + 1 = 53 from rfl, jyw_ok (by decide) (by omega) z6 y7 yy, jo_bs]
      dsimp only
      have f3 : jy_h Y 53 (5 + 2 * p) (G 94 52) 113 3 = 1 := by rw [(jy_h_e Y 53 (5 + 2 * p) (G 94 52)).2.2.2.2.2 113 (by decide) (by decide) (by decide)]; exact y3
      rw [if_pos (by rw [jy_h92 (by decide) (by decide)]; exact y7), if_pos (by decide), f3, show (1 : Int) + 1 = 2 from rfl, m2]
      exact last 3997 _
/-- names that mending touches in the class -/
def jMd (n : Nat) : Prop := (3 ≤ n ∧ n < 57) ∨ n = 85
/-- what mending leaves as it was in the reference -/
def jmk (G G' : jg_G) : Prop := (∀ n, n ≠ 92 → n ≠ 93 → n ≠ 94 → n ≠ 113 → ∀ j, G' n j = G n j) ∧ (∀ j, (j < 67 * 4 ∨ 67 * 54 ≤ j) → G' 93 j = G 93 j) ∧ (∀ i, i ≠ 5 → i ≠ 6 → G' 92 i = G 92 i) ∧ (∀ i, i ≠ 3 → G' 113 i = G 113 i) ∧ jd_m G G'
theorem jmend {K : jc_K} {G : jg_G} (dc : jdc K G (G 92 13)) (dn : jdn K G) (h5 : jb_r (G 92 5)) (h7 : G 92 7 = 0) (h113 : G 113 3 = 0) (h85 : jc_i K 85 3 = 0) : ∃ K' G' b, fc52 K = some (K', b) ∧ fo204 G = some (G', 0) ∧ jk_s jMd K K' ∧ (∀ i, i ≠ 3 → jc_i K' 85 i = jc_i K 85 i) ∧ jc_i K' 85 3 = G' 113 3 ∧ (jdc K' G' (G' 92 13) ∧ jdn K' G' ∧ jb_r (G' 92 5)) ∧ ((b = 1 ∧ jd_U G' ∧ jmk G G') ∨ (b = 0 ∧ ∃ X, G' = fr_fw X ∧ jmk G X)) := by
  obtain ⟨⟨n8, n9, n10⟩, n6, n13, n3⟩ := dn
  have dn : jdn K G := ⟨⟨n8, n9, n10⟩, n6, n13, n3⟩
  by_cases hU : jd_U G
  · have same : jmk G G := ⟨fun _ _ _ _ _ _ => rfl, fun _ _ => rfl, fun _ _ _ => rfl, fun _ _ => rfl, jd_m.refl G⟩
    refine ⟨K, G, 1, ?_, ?_, jk_s.refl, fun _ _ => rfl, by rw [h85, h113], ⟨dc, dn, h5⟩, Or.inl ⟨rfl, hU, same⟩⟩
    · have e16 : fc16 K = some (K, 0) := by
        unfold fc16
        by_cases e : jc_i K 3 5 = jc_i K 3 6
        · rw [if_pos e]
          have e15 : fc15 K (jc_i K 3 4) = some (K, 0) := by
            unfold fc15
            by_cases c : jc_i K 3 4 < 0
            · rw [if_pos c]
            · have b := dc.1.2.2.2.1
              have pp := (dc.2.2 (jc_i K 3 4) (by omega) (by omega)).1
              rw [if_neg c, if_neg (by omega), if_pos (by omega), pp.1, pp.2, hU _ (by omega) (by omega), if_pos rfl]
          rw [e15, jo_bs]
          dsimp only
          rw [if_pos rfl]
        · rw [if_neg e]
      unfold fc52
      rw [e16, jo_bs]
      dsimp only
      rw [if_pos rfl]
    · unfold fo204
      by_cases c : G 92 3 ≤ 0
      · rw [if_pos c]
      · have b := dc.1.2.2.2.2.1
        rw [if_neg c]
        by_cases e : G 94 52 = G 94 53
        · rw [if_pos e, if_pos (by omega), if_pos (by omega), show 4 + 2 * G 92 4 + 1 = 5 + 2 * G 92 4 by omega, hU _ b.1 b.2, if_pos rfl]
        · rw [if_neg e]
  · obtain ⟨p, hp, hne⟩ : ∃ p, (0 ≤ p ∧ p < 24) ∧ G 94 (4 + 2 * p) ≠ G 94 (5 + 2 * p) := by
      rcases Classical.em (∃ p, (0 ≤ p ∧ p < 24) ∧ G 94 (4 + 2 * p) ≠ G 94 (5 + 2 * p)) with z | z
      · exact z
      · refine absurd (fun p p0 p1 => ?_) hU
        by_cases e : G 94 (4 + 2 * p) = G 94 (5 + 2 * p)
        · exact e
        · exact absurd ⟨p, ⟨p0, p1⟩, e⟩ z
    obtain ⟨ht, hU'⟩ := dc.torn hp hne
    obtain ⟨⟨t1, t2, t3, t4⟩, ⟨t5, t6, t7, t8⟩, t9, t10, t11⟩ := ht
    have pp := (dc.2.2 p hp.1 hp.2).1
    have e16 : fc16 K = some (K, 1) := by
      unfold fc16
      rw [dc.1.2.1, dc.1.2.2.1, if_pos t1, t4]
      have e15 : fc15 K p = some (K, 1) := by
        unfold fc15
        rw [if_neg (by omega), if_neg (by omega), if_pos hp, pp.1, pp.2, if_neg hne]
      rw [e15, jo_bs]
      dsimp only
      rw [if_neg (by decide)]
    obtain ⟨K1, c1, c2, c3, c4, c5⟩ := jk_fc12 (K := K) (w := 2) (t := G 92 6) (by decide) n10 n6
    have k1 : ∀ n, n ≠ 3 → ∀ i, jc_i K1 n i = jc_i K n i := fun n hn i => c2.2 n hn i
    have k34 : jc_i K1 3 4 = p := (c5 4 (by decide) (by decide)).trans t4
    have k35 : jc_i K1 3 5 = G 94 52 := (c5 5 (by decide) (by decide)).trans dc.1.2.1
    have k36 : jc_i K1 3 6 = G 94 52 := (c5 6 (by decide) (by decide)).trans (dc.1.2.2.1.trans t1.symm)
    have eo : fo204 G = fo204_56 jo_N G p 0 := by
      unfold fo204
      rw [if_neg (by omega), if_pos t1, t3, if_pos (by omega), if_pos (by omega), show 4 + 2 * p + 1 = 5 + 2 * p by omega, if_neg hne]
    have ec : ∀ v, (if 1 ≤ G 92 6 ∧ G 92 6 ≤ 2 then G 92 6 - 1 else 2) = v → fc17 K = (if v ≤ 0 then (if v ≤ 1 then (some (K1, v)) else (if 0 ≤ p ∧ p < 24 then (fc35 (jc_ui K1 6 p (G 94 52)) (9 + 2 * Int.toNat p) 7).bind fun x9 => some (x9.1, v) else none)) else (if 0 ≤ p ∧ p < 24 then if v ≤ 1 then (some (jc_ui K1 5 p (G 94 52), v)) else ((fc35 (jc_ui (jc_ui K1 5 p (G 94 52)) 6 p (G 94 52)) (9 + 2 * Int.toNat p) 7).bind fun x15 => some (x15.1, v)) else none)) := fun v hv => by
      unfold fc17
      rw [t4, if_neg (by omega), if_pos hp.2, c1, hv, jo_bs]
      dsimp only
      rw [k34, k35, k36]
    have e52 : ∀ K2 v, fc17 K = some (K2, v) → fc52 K = (if v = 2 then (some (jc_ui K2 85 3 v, 1)) else (some (jc_ui K2 85 3 v, 0))) := fun K2 v e => by
      unfold fc52
      rw [e16, jo_bs]
      dsimp only
      rw [if_neg (by decide), e, jo_bs]
    have sMd : jk_s jMd K K1 := c2.mono (fun n e => Or.inl (by omega))
    rw [eo]
    -- fallen at once, or behind the first half
    have fw : ∀ X : jg_G, (∀ i, i ≠ 6 → i ≠ 7 → i ≠ 8 → i ≠ 12 → fr_fw X 92 i = X 92 i) ∧ ∀ n, (n = 93 ∨ n = 94 ∨ (98 ≤ n ∧ n ≤ 106) ∨ 112 ≤ n) → ∀ j, fr_fw X n j = X n j := fun X => fr_fw_k X
    rcases jr_204 hp n6 h7 h113 with ⟨w, r⟩ | ⟨w, r⟩ | ⟨w, r⟩
    · have e17 : fc17 K = some (K1, 0) := by rw [ec 0 (by rw [if_pos (by omega)]; omega), if_pos (by decide), if_pos (by decide)]
      have ee := e52 K1 0 e17
      rw [if_neg (by decide)] at ee
      have s8 : jk_s jMd K1 (jc_ui K1 85 3 0) := jk_s.u (Or.inr rfl)
      have ki : ∀ n, n ≠ 3 → n ≠ 85 → ∀ i, jc_i (jc_ui K1 85 3 0) n i = jc_i K n i := fun n a b i => by rw [jc_uN b]; exact k1 n a i
      have k3 : ∀ i, i ≠ 9 → i ≠ 10 → jc_i (jc_ui K1 85 3 0) 3 i = jc_i K 3 i := fun i a b => by rw [jc_uN (by decide)]; exact c5 i a b
      refine ⟨_, fr_fw G, 0, ee, r, sMd.trans s8, fun i hi => by rw [jc_uI hi]; exact k1 85 (by decide) i, ?_, ⟨?_, ?_, ?_⟩, Or.inr ⟨rfl, G, rfl, fun _ _ _ _ _ _ => rfl, fun _ _ => rfl, fun _ _ _ => rfl, fun _ _ => rfl, jd_m.refl G⟩⟩
      · rw [jc_uH, (fw G).2 113 (by decide), h113]
      · rw [(fw G).1 13 (by decide) (by decide) (by decide) (by decide)]
        exact dc.fall.keep (Int.le_refl _) ⟨⟨c2.1.1, c2.1.2.1, c2.1.2.2⟩, fun i hi => k3 i (by omega) (by omega), fun n a b i => ki n (by omega) (by omega) i⟩ (by rw [k3 7 (by decide) (by decide), (fw G).1 3 (by decide) (by decide) (by decide) (by decide)]; exact dc.1.1) (Int.le_refl _) rfl (jl_s.refl _) (fun _ _ _ => rfl) (fun _ => rfl)
      · refine ⟨⟨?_, ?_, ?_⟩, by rw [fr_fw6]; decide, by rw [(fw G).1 13 (by decide) (by decide) (by decide) (by decide)]; exact n13, by rw [(fw G).1 3 (by decide) (by decide) (by decide) (by decide)]; exact n3⟩
        · rw [k3 8 (by decide) (by decide), (fw G).1 13 (by decide) (by decide) (by decide) (by decide)]; exact n8
        · rw [jc_uN (by decide), c4, n9, if_pos (by omega), (fw G).1 5 (by decide) (by decide) (by decide) (by decide), w]
          rw [show G 92 5 + (1 - 1) = G 92 5 by omega]
          exact jb_m_e h5
        · rw [jc_uN (by decide), c3, if_pos (by omega), fr_fw6]
      · rw [(fw G).1 5 (by decide) (by decide) (by decide) (by decide)]; exact h5
    · have e17 : fc17 K = some (jc_ui K1 5 p (G 94 52), 1) := by rw [ec 1 (by rw [if_pos (by omega)]; omega), if_neg (by decide), if_pos hp, if_pos (by decide)]
      have ee := e52 _ 1 e17
      rw [if_neg (by decide)] at ee
      have e5p : jc_i K1 5 p = G 94 52 := by rw [k1 5 (by decide), pp.1]; exact t11
      rw [jc_uS e5p] at ee
      have s8 : jk_s jMd K1 (jc_ui K1 85 3 1) := jk_s.u (Or.inr rfl)
      have ki : ∀ n, n ≠ 3 → n ≠ 85 → ∀ i, jc_i (jc_ui K1 85 3 1) n i = jc_i K n i := fun n a b i => by rw [jc_uN b]; exact k1 n a i
      have k3 : ∀ i, i ≠ 9 → i ≠ 10 → jc_i (jc_ui K1 85 3 1) 3 i = jc_i K 3 i := fun i a b => by rw [jc_uN (by decide)]; exact c5 i a b
      have hx := jy_h_e G 52 (4 + 2 * p) (G 94 52)
      have y5 := jy_h5 (G := G) (f := 52) (to := 4 + 2 * p) (w := G 94 52)
      have y6 := jy_h6 (G := G) (f := 52) (to := 4 + 2 * p) (w := G 94 52)
      generalize jy_h G 52 (4 + 2 * p) (G 94 52) = Y at hx y5 y6 r
      have g : ∀ i, i ≠ 6 → i ≠ 7 → i ≠ 8 → i ≠ 12 → fr_fw (jg_u Y 113 3 1) 92 i = Y 92 i := fun i a b c d => by rw [(fw _).1 i a b c d, jg_uN (by decide)]
      obtain ⟨m1, m2, m3⟩ := jmd1 (K' := jc_ui K1 85 3 1) dc hp hne hx ⟨⟨c2.1.1, c2.1.2.1, c2.1.2.2⟩, k3, fun n a b i => ki n (by omega) (by omega) i⟩
      have m1' : jdc (jc_ui K1 85 3 1) (fr_fw (jg_u Y 113 3 1)) (G 92 13) := by
        refine (m1.keep (K' := jc_ui K1 85 3 1) (G' := jg_u Y 113 3 1) (Int.le_refl _) ⟨⟨rfl, rfl, rfl⟩, fun _ _ => rfl, fun _ _ _ _ => rfl⟩ (by rw [jg_uN (by decide)]; exact m1.1.1) (by rw [jg_uN (by decide)]; exact Int.le_refl _) (jg_uN (by decide)) ⟨fun m a b j => jg_uN (by omega), fun j _ => jg_uN (by decide)⟩ (fun j _ _ => jg_uN (by decide)) (fun i => jg_uN (by decide))).fall
      refine ⟨_, _, 0, ee, r, sMd.trans s8, fun i hi => by rw [jc_uI hi]; exact k1 85 (by decide) i, ?_, ⟨?_, ?_, ?_⟩, Or.inr ⟨rfl, _, rfl, fun n a b c d j => by rw [jg_uN d]; exact hx.2.2.2.2.2 n a b c j, fun j hj => by rw [jg_uN (by decide)]; exact hx.2.1 j (by omega), fun i a b => by rw [jg_uN (by decide)]; exact hx.2.2.2.2.1 i a b, fun i hi => by rw [jg_uI hi]; exact hx.2.2.2.2.2 113 (by decide) (by decide) (by decide) i, fun q q0 q1 => by
        rw [jg_uN (by decide), hx.row (by omega) 1 (by decide) (by decide)]
        exact Int.le_refl _⟩⟩
      · rw [jc_uH, (fw _).2 113 (by decide), jg_uH]
      · rw [g 13 (by decide) (by decide) (by decide) (by decide), hx.2.2.2.2.1 13 (by decide) (by decide)]
        exact m1'
      · refine ⟨⟨?_, ?_, ?_⟩, by rw [fr_fw6]; decide, by rw [g 13 (by decide) (by decide) (by decide) (by decide), hx.2.2.2.2.1 13 (by decide) (by decide)]; exact n13, by rw [g 3 (by decide) (by decide) (by decide) (by decide), hx.2.2.2.2.1 3 (by decide) (by decide)]; exact n3⟩
        · rw [k3 8 (by decide) (by decide), g 13 (by decide) (by decide) (by decide) (by decide), hx.2.2.2.2.1 13 (by decide) (by decide)]; exact n8
        · rw [jc_uN (by decide), c4, n9, if_pos (by omega), g 5 (by decide) (by decide) (by decide) (by decide), y5, w]
          congr 1
        · rw [jc_uN (by decide), c3, if_pos (by omega), fr_fw6]
      · rw [g 5 (by decide) (by decide) (by decide) (by decide), y5]
        exact jb_m_r _
    · -- mended
      have e5p : jc_i K1 5 p = G 94 52 := by rw [k1 5 (by decide), pp.1]; exact t11
      have s6 : jk_s (fun n => n = 6) K1 (jc_ui K1 6 p (G 94 52)) := jk_s.u rfl
      have hpg : jc_pg K (9 + 2 * p.toNat) := (dc.2.2 p hp.1 hp.2).2.2.1.2.1
      have k7 : jp_k (jc_ui K1 6 p (G 94 52)) 7 (jh G (G 93 (67 * 53 + 1)).toNat p) := s6.k (by decide) (by decide) (c2.k (by decide) (by decide) t8.2)
      have w53 : jp_w (jh G (G 93 (67 * 53 + 1)).toNat p) := by
        obtain ⟨v, v1, v2, v3, v4, v5⟩ := t6
        rw [v1, Int.toNat_natCast]
        exact v4
      obtain ⟨K2, d1, d2, d3, d4⟩ := jk_fc35 w53 (by unfold jk_a; omega) (s6.pg (c2.pg hpg)) k7
      have e17 : fc17 K = some (K2, 2) := by
        rw [ec 2 (by rw [if_neg (by omega)]), if_neg (by decide), if_pos hp, if_neg (by decide), jc_uS e5p, d1, jo_bs]
      have ee := e52 _ 2 e17
      rw [if_pos rfl] at ee
      have k2 : ∀ n, n ≠ 3 → n ≠ 6 → n ≠ 9 + 2 * p.toNat → n ≠ 9 + 2 * p.toNat + 1 → ∀ i, jc_i K2 n i = jc_i K n i := fun n a b c d i => by rw [d2.2 n c d i, jc_uN b]; exact k1 n a i
      have k23 : ∀ i, jc_i K2 3 i = jc_i K1 3 i := fun i => by rw [d2.2 3 (by omega) (by omega) i, jc_uN (by decide)]
      have k26 : ∀ i, jc_i K2 6 i = if i = p then G 94 52 else jc_i K 6 i := fun i => by
        rw [d2.2 6 (by omega) (by omega) i]
        by_cases z : i = p
        · rw [z, jc_uH, if_pos rfl]
        · rw [jc_uI z, if_neg z]; exact k1 6 (by decide) i
      have h2K : K2.1 = K.1 ∧ K2.2.1 = K.2.1 ∧ K2.2.2.2 = K.2.2.2 := ⟨d2.1.1.trans c2.1.1, d2.1.2.1.trans c2.1.2.1, d2.1.2.2.trans c2.1.2.2⟩
      have sAll : jk_s jMd K (jc_ui K2 85 3 2) := by
        refine ⟨h2K, fun n hn i => ?_⟩
        unfold jMd at hn
        rw [jc_uN (by omega)]
        exact k2 n (by omega) (by omega) (by omega) (by omega) i
      have hx := jy_h_e G 52 (4 + 2 * p) (G 94 52)
      have y5 := jy_h5 (G := G) (f := 52) (to := 4 + 2 * p) (w := G 94 52)
      have y6 := jy_h6 (G := G) (f := 52) (to := 4 + 2 * p) (w := G 94 52)
      generalize jy_h G 52 (4 + 2 * p) (G 94 52) = Y at hx y5 y6 r
      obtain ⟨m1, m2, m3⟩ := jmd1 (K' := K1) dc hp hne hx ⟨⟨c2.1.1, c2.1.2.1, c2.1.2.2⟩, c5, fun n a b i => k1 n (by omega) i⟩
      have m1b : jdc K1 (jg_u Y 113 3 1) (G 92 13) := m1.keep (Int.le_refl _) ⟨⟨rfl, rfl, rfl⟩, fun _ _ => rfl, fun _ _ _ _ => rfl⟩ (by rw [jg_uN (by decide)]; exact m1.1.1) (by rw [jg_uN (by decide)]; exact Int.le_refl _) (jg_uN (by decide)) ⟨fun m a b j => jg_uN (by omega), fun j _ => jg_uN (by decide)⟩ (fun j _ _ => jg_uN (by decide)) (fun i => jg_uN (by decide))
      have z5 : jg_u Y 113 3 1 92 5 = jb_m (G 92 5 + 1) := by rw [jg_uN (by decide)]; exact y5
      have z6 : jg_u Y 113 3 1 92 6 = if G 92 6 ≤ 0 then G 92 6 else G 92 6 - 1 := by rw [jg_uN (by decide)]; exact y6
      have z94 : ∀ i, jg_u Y 113 3 1 94 i = G 94 i := fun i => by rw [jg_uN (by decide)]; exact m2 i
      have z93 : ∀ j, jg_u Y 113 3 1 93 j = Y 93 j := fun j => jg_uN (by decide)
      have z92 : ∀ i, i ≠ 5 → i ≠ 6 → jg_u Y 113 3 1 92 i = G 92 i := fun i a b => by rw [jg_uN (by decide)]; exact hx.2.2.2.2.1 i a b
      have zn : ∀ n, n ≠ 92 → n ≠ 93 → n ≠ 94 → n ≠ 113 → ∀ j, jg_u Y 113 3 1 n j = G n j := fun n a b c d j => by rw [jg_uN d]; exact hx.2.2.2.2.2 n a b c j
      have z113 : ∀ i, i ≠ 3 → jg_u Y 113 3 1 113 i = G 113 i := fun i hi => by rw [jg_uI hi]; exact hx.2.2.2.2.2 113 (by decide) (by decide) (by decide) i
      generalize hZ : jg_u Y 113 3 1 = Z at m1b z5 z6 z94 z93 z92 zn z113 r
      have lZ : jl_s G Z := ⟨fun m a b j => zn m (by omega) (by omega) (by omega) (by omega) j, fun j hj => by rw [z93]; exact hx.2.1 j (by omega)⟩
      have rowZ : ∀ j, 0 ≤ j → j < 67 → Z 93 (67 * 53 + j) = G 93 (67 * 53 + j) := fun j a b => by rw [z93]; exact hx.row (by omega) j a b
      have hx2 := jy_h_e Z 53 (5 + 2 * p) (G 94 52)
      have u5 := jy_h5 (G := Z) (f := 53) (to := 5 + 2 * p) (w := G 94 52)
      have u6 := jy_h6 (G := Z) (f := 53) (to := 5 + 2 * p) (w := G 94 52)
      generalize jy_h Z 53 (5 + 2 * p) (G 94 52) = U at hx2 u5 u6 r
      have hx2' : jy_e Z U 53 (5 + 2 * p) (Z 94 52) := by rw [z94]; exact hx2
      have hk2 : jd_k K2 (9 + 2 * p.toNat) Z 53 p := by
        refine ⟨?_, ?_⟩
        · rw [rowZ 1 (by decide) (by decide), d4, jc_uN (by decide), k1 7 (by decide)]
          exact t8.1
        · rw [rowZ 1 (by decide) (by decide), lZ.h]
          exact d3
      obtain ⟨q1, q2⟩ := jmd2 (K' := K2) m1b hp (by rw [z94, z94]; exact hne) (by rw [z93, z93]; exact m3) hx2' ⟨⟨d2.1.1, d2.1.2.1, d2.1.2.2⟩, fun i _ _ => k23 i, by rw [k26, if_pos rfl, z94], fun i hi => by rw [k26, if_neg hi, k1 6 (by decide)], fun n a b c d e i => by rw [d2.2 n d e i, jc_uN c]⟩ hk2
      have q1' : jdc (jc_ui K2 85 3 2) (jg_u U 113 3 2) (G 92 13) := q1.keep (Int.le_refl _) ⟨⟨rfl, rfl, rfl⟩, fun i _ => jc_uN (by decide), fun n a b i => jc_uN (by omega)⟩ (by rw [jg_uN (by decide), jc_uN (by decide)]; exact q1.1.1) (by rw [jg_uN (by decide)]; exact Int.le_refl _) (jg_uN (by decide)) ⟨fun m a b j => jg_uN (by omega), fun j _ => jg_uN (by decide)⟩ (fun j _ _ => jg_uN (by decide)) (fun i => jg_uN (by decide))
      have v92 : ∀ i, i ≠ 5 → i ≠ 6 → jg_u U 113 3 2 92 i = G 92 i := fun i a b => by rw [jg_uN (by decide), hx2.2.2.2.2.1 i a b]; exact z92 i a b
      have v5 : jg_u U 113 3 2 92 5 = jb_m (G 92 5 + 2) := by
        rw [jg_uN (by decide), u5, z5, jb_m_add]
        congr 1
        omega
      have v6 : jg_u U 113 3 2 92 6 = if G 92 6 ≤ 0 then G 92 6 else G 92 6 - 2 := by
        rw [jg_uN (by decide), u6, z6]
        by_cases z : G 92 6 ≤ 0
        · rw [if_pos z, if_pos z, if_pos z]
        · rw [if_neg z, if_neg z, if_neg (by omega)]; omega
      refine ⟨_, _, 1, ee, r, sAll, fun i hi => by rw [jc_uI hi]; exact k2 85 (by decide) (by decide) (by omega) (by omega) i, by rw [jc_uH, jg_uH], ⟨by rw [v92 13 (by decide) (by decide)]; exact q1', ⟨⟨?_, ?_, ?_⟩, ?_, by rw [v92 13 (by decide) (by decide)]; exact n13, by rw [v92 3 (by decide) (by decide)]; exact n3⟩, by rw [v5]; exact jb_m_r _⟩, Or.inl ⟨rfl, fun q q0 q1 => by rw [jg_uN (by decide), jg_uN (by decide)]; exact q2 q q0 q1, fun n a b c d j => by rw [jg_uN d, hx2.2.2.2.2.2 n a b c j]; exact zn n a b c d j, fun j hj => ?_, v92, fun i hi => by rw [jg_uI hi, hx2.2.2.2.2.2 113 (by decide) (by decide) (by decide)]; exact z113 i hi, fun q q0 q1 => ?_⟩⟩
      · rw [jc_uN (by decide), k23, c5 8 (by decide) (by decide), v92 13 (by decide) (by decide)]; exact n8
      · rw [jc_uN (by decide), k23, c4, n9, v5, if_neg (by omega)]
      · rw [jc_uN (by decide), k23, c3, v6, if_neg (by omega)]
      · rw [v6]; split <;> omega
      · rw [jg_uN (by decide), hx2.2.1 j (by omega), z93, hx.2.1 j (by omega)]
      · rw [jg_uN (by decide)]
        by_cases e : q = p
        · rw [e, hx2.1 1 (by decide) (by decide), rowZ 1 (by decide) (by decide)]
          exact t10
        · rw [hx2.row (by omega) 1 (by decide) (by decide), z93, hx.row (by omega) 1 (by decide) (by decide)]
          exact Int.le_refl _
