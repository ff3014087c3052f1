/-! THE DISK, half by half -/
def jd_U (G : jg_G) : Prop := ∀ p, 0 ≤ p → p < 24 → G 94 (4 + 2 * p) = G 94 (5 + 2 * p)
/-- the spare's halves, while no page is torn -/
theorem jdc.spare {K K' : jc_K} {G G' : jg_G} {D : Int} (h : jdc K G D) (hU : jd_U G) (hK : (K'.1 = K.1 ∧ K'.2.1 = K.2.1 ∧ K'.2.2.2 = K.2.2.2) ∧ jc_i K' 3 7 = jc_i K 3 7 ∧ ∀ n, 5 ≤ n → n < 57 → n ≠ 7 → n ≠ 8 → ∀ i, jc_i K' n i = jc_i K n i) (h5 : jc_i K' 3 5 = G' 94 52) (h6 : jc_i K' 3 6 = G' 94 53) (h4 : -1 ≤ jc_i K' 3 4 ∧ jc_i K' 3 4 < 24) (g4 : 0 ≤ G' 92 4 ∧ G' 92 4 < 24) (g3 : G' 92 3 = G 92 3) (hl : jl_s G G') (hr : ∀ j, 67 * 4 ≤ j → j < 67 * 52 → G' 93 j = G 93 j) (h94 : ∀ i, i < 52 → G' 94 i = G 94 i) (hw : ∀ i, 52 ≤ i → i < 54 → 0 ≤ G' 94 i ∧ G' 94 i ≤ G 92 3) : jdc K' G' D ∧ jd_U G' := by
  obtain ⟨⟨a1, a2, a3, a4, a5, a6⟩, b, c⟩ := h
  have s : jk_s (fun n => ¬ (5 ≤ n ∧ n < 57 ∧ n ≠ 7 ∧ n ≠ 8)) K K' := ⟨hK.1, fun n hn i => by
    have hn : 5 ≤ n ∧ n < 57 ∧ n ≠ 7 ∧ n ≠ 8 := Decidable.byContradiction hn
    exact hK.2.2 n hn.1 hn.2.1 hn.2.2.1 hn.2.2.2 i⟩
  have row : ∀ r, 4 ≤ r → r < 52 → ∀ j, 0 ≤ j → j < 67 → G' 93 (67 * r + j) = G 93 (67 * r + j) := fun r r0 r1 j j0 j1 => hr _ (by omega) (by omega)
  have n1 : ∀ r, 4 ≤ r → r < 52 → G' 93 (67 * r + 1) = G 93 (67 * r + 1) := fun r r0 r1 => row r r0 r1 1 (by decide) (by decide)
  refine ⟨⟨⟨by rw [hK.2.1, g3]; exact a1, h5, h6, h4, g4, s.pg a6⟩, fun i i0 i1 => ?_, fun p p0 p1 => ?_⟩, fun p p0 p1 => ?_⟩
  · rw [g3]
    by_cases e : i < 52
    · rw [h94 i e]; exact b i i0 i1
    · exact hw i (by omega) i1
  · obtain ⟨c1, c2, c3, c4, c5⟩ := c p p0 p1
    refine ⟨⟨by rw [hK.2.2 5 (by decide) (by decide) (by decide) (by decide), h94 _ (by omega)]; exact c1.1, by rw [hK.2.2 6 (by decide) (by decide) (by decide) (by decide), h94 _ (by omega)]; exact c1.2⟩, ⟨c2.1.m hl (row _ (by omega) (by omega)) (Int.le_refl _), c2.2.m hl (row _ (by omega) (by omega)) (Int.le_refl _)⟩, c3.m hl (n1 _ (by omega) (by omega)) (hK.2.2 _ (by omega) (by omega) (by omega) (by omega) _) (fun c hc => s.k (by simp only [Classical.not_not]; omega) (by simp only [Classical.not_not]; omega) hc), fun e => ?_, fun e => ?_⟩
    · rw [n1 _ (by omega) (by omega), n1 _ (by omega) (by omega)]
      rw [h94 _ (by omega), h94 _ (by omega)] at e
      exact c4 e
    · rw [h94 _ (by omega), h94 _ (by omega)] at e
      exact absurd (hU p p0 p1) e
  · rw [h94 _ (by omega), h94 _ (by omega)]
    exact hU p p0 p1
/-- the page's first half -/
theorem jdc.half1 {K : jc_K} {G G' : jg_G} {D f p : Int} (h : jdc K G D) (hU : jd_U G) (hp : 0 ≤ p ∧ p < 24) (hx : jx_e G G' f (4 + 2 * p)) (hf : jd_h G D f p) (hfo : G 93 (67 * (5 + 2 * p) + 1) ≤ G 93 (67 * f + 1)) (hs : G 94 52 = G 94 53 ∧ 0 < G 92 3 ∧ G 92 4 = p ∧ jc_i K 3 4 = p) (hs2 : jd_h G D 52 p ∧ jd_h G D 53 p ∧ G 93 (67 * 52 + 1) = G 93 (67 * 53 + 1) ∧ jd_k K 7 G 53 p) (hs3 : G 93 (67 * 53 + 1) = G 93 (67 * f + 1)) (hne : G 94 (5 + 2 * p) ≠ G 92 3) (hs4 : G 94 52 = G 92 3) : jdc (jc_ui K 5 p (G 92 3)) G' D := by
  obtain ⟨⟨a1, a2, a3, a4, a5, a6⟩, b, c⟩ := h
  have hl := hx.l (by omega)
  have g3 : G' 92 3 = G 92 3 := hx.2.2.2.2.1 3 (by decide) (by decide)
  have g4 : G' 92 4 = G 92 4 := hx.2.2.2.2.1 4 (by decide) (by decide)
  have h94 : ∀ i, i ≠ 4 + 2 * p → G' 94 i = G 94 i := hx.2.2.2.1
  have s : jk_s (fun n => n = 5) K (jc_ui K 5 p (G 92 3)) := jk_s.u rfl
  have n1 : ∀ r, r ≠ 4 + 2 * p → G' 93 (67 * r + 1) = G 93 (67 * r + 1) := fun r e => hx.row e 1 (by decide) (by decide)
  have kk : ∀ q, q ≠ 5 → q + 1 ≠ 5 → ∀ c, jp_k K q c → jp_k (jc_ui K 5 p (G 92 3)) q c := fun q q0 q1 c hc => s.k q0 q1 hc
  refine ⟨⟨(jc_uN (by decide)).trans (a1.trans g3.symm), (jc_uN (by decide)).trans (by rw [h94 _ (by omega)]; exact a2), (jc_uN (by decide)).trans (by rw [h94 _ (by omega)]; exact a3), by rw [jc_uN (by decide)]; exact a4, by rw [g4]; exact a5, s.pg a6⟩, fun i i0 i1 => ?_, fun q q0 q1 => ?_⟩
  · rw [g3]
    by_cases e : i = 4 + 2 * p
    · rw [e, hx.2.2.1]; omega
    · rw [h94 i e]; exact b i i0 i1
  · obtain ⟨c1, c2, c3, c4, c5⟩ := c q q0 q1
    by_cases e : q = p
    · subst e
      have hn4 : G' 93 (67 * (4 + 2 * q) + 1) = G 93 (67 * f + 1) := hx.1 1 (by decide) (by decide)
      refine ⟨⟨by rw [jc_uH, hx.2.2.1], (jc_uN (by decide)).trans (by rw [h94 _ (by omega)]; exact c1.2)⟩, ⟨hf.m hl hx.1 (Int.le_refl _), c2.2.m hl (hx.row (by omega)) (Int.le_refl _)⟩, c3.m hl (n1 _ (by omega)) (jc_uN (by omega)) (kk _ (by omega) (by omega)), fun z => ?_, fun _ => ?_⟩
      · rw [hx.2.2.1, h94 _ (by omega)] at z
        exact absurd z.symm hne
      · refine ⟨⟨by rw [h94 _ (by omega), h94 _ (by omega)]; exact hs.1, by omega, by rw [g4]; exact hs.2.2.1, by rw [jc_uN (by decide)]; exact hs.2.2.2⟩, ⟨hs2.1.m hl (hx.row (by omega)) (Int.le_refl _), hs2.2.1.m hl (hx.row (by omega)) (Int.le_refl _), by rw [n1 _ (by omega), n1 _ (by omega)]; exact hs2.2.2.1, hs2.2.2.2.m hl (n1 _ (by omega)) (jc_uN (by decide)) (kk _ (by decide) (by decide))⟩, ?_, ?_, by rw [hx.2.2.1, h94 52 (by omega)]; exact hs4.symm⟩
        · rw [hn4, n1 53 (by omega), hs3]; exact Int.le_refl _
        · rw [n1 _ (by omega), n1 53 (by omega), hs3]; exact hfo
    · refine ⟨⟨by rw [jc_uI e, h94 _ (by omega)]; exact c1.1, (jc_uN (by decide)).trans (by rw [h94 _ (by omega)]; exact c1.2)⟩, ⟨c2.1.m hl (hx.row (by omega)) (Int.le_refl _), c2.2.m hl (hx.row (by omega)) (Int.le_refl _)⟩, c3.m hl (n1 _ (by omega)) (jc_uN (by omega)) (kk _ (by omega) (by omega)), fun z => ?_, fun z => ?_⟩
      · rw [n1 _ (by omega), n1 _ (by omega)]
        rw [h94 _ (by omega), h94 _ (by omega)] at z
        exact c4 z
      · rw [h94 _ (by omega), h94 _ (by omega)] at z
        exact absurd (hU q q0 q1) z
/-- the page's second half: the page is whole -/
theorem jdc.half2 {K K' : jc_K} {G G' : jg_G} {D f p : Int} (h : jdc K G D) (hU : ∀ q, 0 ≤ q → q < 24 → q ≠ p → G 94 (4 + 2 * q) = G 94 (5 + 2 * q)) (hp : 0 ≤ p ∧ p < 24) (hx : jx_e G G' f (5 + 2 * p)) (hf : jd_h G D f p) (hn : G 93 (67 * (4 + 2 * p) + 1) = G 93 (67 * f + 1)) (h4 : G 94 (4 + 2 * p) = G 92 3) (hK : (K'.1 = K.1 ∧ K'.2.1 = K.2.1 ∧ K'.2.2.2 = K.2.2.2) ∧ jc_i K' 6 p = G 92 3 ∧ (∀ i, i ≠ p → jc_i K' 6 i = jc_i K 6 i) ∧ ∀ n, n ≠ 6 → n ≠ 9 + 2 * p.toNat → n ≠ 9 + 2 * p.toNat + 1 → ∀ i, jc_i K' n i = jc_i K n i) (hk : jd_k K' (9 + 2 * p.toNat) G f p) : jdc K' G' D ∧ jd_U G' := by
  obtain ⟨⟨a1, a2, a3, a4, a5, a6⟩, b, c⟩ := h
  obtain ⟨hK0, hK1, hK2, hK3⟩ := hK
  have hl := hx.l (by omega)
  have g3 : G' 92 3 = G 92 3 := hx.2.2.2.2.1 3 (by decide) (by decide)
  have g4 : G' 92 4 = G 92 4 := hx.2.2.2.2.1 4 (by decide) (by decide)
  have h94 : ∀ i, i ≠ 5 + 2 * p → G' 94 i = G 94 i := hx.2.2.2.1
  have s : jk_s (fun n => n = 6 ∨ n = 9 + 2 * p.toNat ∨ n = 9 + 2 * p.toNat + 1) K K' := ⟨hK0, fun n hn i => hK3 n (fun z => hn (Or.inl z)) (fun z => hn (Or.inr (Or.inl z))) (fun z => hn (Or.inr (Or.inr z))) i⟩
  have n1 : ∀ r, r ≠ 5 + 2 * p → G' 93 (67 * r + 1) = G 93 (67 * r + 1) := fun r e => hx.row e 1 (by decide) (by decide)
  have hn5 : G' 93 (67 * (5 + 2 * p) + 1) = G 93 (67 * f + 1) := hx.1 1 (by decide) (by decide)
  refine ⟨⟨⟨by rw [hK3 3 (by decide) (by omega) (by omega), g3]; exact a1, by rw [hK3 3 (by decide) (by omega) (by omega), h94 _ (by omega)]; exact a2, by rw [hK3 3 (by decide) (by omega) (by omega), h94 _ (by omega)]; exact a3, by rw [hK3 3 (by decide) (by omega) (by omega)]; exact a4, by rw [g4]; exact a5, s.pg a6⟩, fun i i0 i1 => ?_, fun q q0 q1 => ?_⟩, fun q q0 q1 => ?_⟩
  · rw [g3]
    by_cases e : i = 5 + 2 * p
    · rw [e, hx.2.2.1]
      have := b (5 + 2 * p) (by omega) (by omega)
      omega
    · rw [h94 i e]; exact b i i0 i1
  · obtain ⟨c1, c2, c3, c4, c5⟩ := c q q0 q1
    by_cases e : q = p
    · subst e
      refine ⟨⟨by rw [hK3 5 (by decide) (by omega) (by omega), h94 _ (by omega)]; exact c1.1, by rw [hK1, hx.2.2.1]⟩, ⟨c2.1.m hl (hx.row (by omega)) (Int.le_refl _), hf.m hl hx.1 (Int.le_refl _)⟩, ⟨by rw [hn5]; exact hk.1, by rw [hn5, hl.h]; exact hk.2⟩, fun z => ?_, fun z => ?_⟩
      · rw [n1 _ (by omega), hn5, hn]
      · rw [h94 _ (by omega), hx.2.2.1] at z
        exact absurd h4 z
    · refine ⟨⟨by rw [hK3 5 (by decide) (by omega) (by omega), h94 _ (by omega)]; exact c1.1, by rw [hK2 q e, h94 _ (by omega)]; exact c1.2⟩, ⟨c2.1.m hl (hx.row (by omega)) (Int.le_refl _), c2.2.m hl (hx.row (by omega)) (Int.le_refl _)⟩, c3.m hl (n1 _ (by omega)) (hK3 _ (by omega) (by omega) (by omega) _) (fun c hc => s.k (by omega) (by omega) hc), fun z => ?_, fun z => ?_⟩
      · rw [n1 _ (by omega), n1 _ (by omega)]
        rw [h94 _ (by omega), h94 _ (by omega)] at z
        exact c4 z
      · rw [h94 _ (by omega), h94 _ (by omega)] at z
        exact absurd (hU q q0 q1 e) z
  · by_cases e : q = p
    · subst e
      rw [h94 _ (by omega), hx.2.2.1]
      exact h4
    · rw [h94 _ (by omega), h94 _ (by omega)]
      exact hU q q0 q1 e
/-- the counts of the disk -/
def jdn (K : jc_K) (G : jg_G) : Prop := (jc_i K 3 8 = G 92 13 ∧ jc_i K 3 9 = G 92 5 ∧ jc_i K 3 10 = G 92 6) ∧ (0 ≤ G 92 6 ∧ G 92 6 < 1000) ∧ (0 ≤ G 92 13 ∧ G 92 13 < 1501) ∧ 0 ≤ G 92 3
theorem jk_fc12 {K : jc_K} {w t : Int} (h0 : 0 ≤ w ∧ w ≤ 2000) (ht : jc_i K 3 10 = t) (ht2 : 0 ≤ t ∧ t < 1000) : ∃ K', fc12 K w = some (K', if 1 ≤ t ∧ t ≤ w then t - 1 else w) ∧ jk_s (fun n => n = 3) K K' ∧ jc_i K' 3 10 = (if 1 ≤ t ∧ t ≤ w then 0 else if t ≤ 0 then t else t - w) ∧ jc_i K' 3 9 = jb_m (jc_i K 3 9 + (if 1 ≤ t ∧ t ≤ w then t - 1 else w)) ∧ ∀ i, i ≠ 9 → i ≠ 10 → jc_i K' 3 i = jc_i K 3 i := by
  unfold fc12
  rw [ht]
  by_cases c1 : t ≤ 0
  · rw [if_pos c1, if_neg (by omega), if_neg (by omega), if_pos c1]
    exact ⟨_, rfl, jk_s.u rfl, (jc_uI (by decide)).trans ht, jc_uH, fun i i9 i10 => jc_uI i9⟩
  · rw [if_neg c1]
    by_cases c2 : w < t
    · rw [if_pos c2, if_pos (by omega), if_neg (by omega), if_neg (by omega), if_neg c1]
      exact ⟨_, rfl, (jk_s.u (S := fun n => n = 3) rfl).trans (jk_s.u rfl), (jc_uI (by decide)).trans jc_uH, jc_uH, fun i i9 i10 => (jc_uI i9).trans (jc_uI i10)⟩
    · rw [if_neg c2, if_pos (by omega), if_pos (by omega), if_pos (by omega)]
      exact ⟨_, rfl, (jk_s.u (S := fun n => n = 3) rfl).trans (jk_s.u rfl), (jc_uI (by decide)).trans jc_uH, jc_uH, fun i i9 i10 => (jc_uI i9).trans (jc_uI i10)⟩
