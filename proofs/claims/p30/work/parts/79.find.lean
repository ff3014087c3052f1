/-! FOUND FROM THE ROOT -/
theorem jw_f.way {G G' : jg_G} (hx : jp_x G G') : jw_f G G' := ⟨fun n a b j => hx n j b (Or.inl (by omega)), fun j _ => hx 93 j (by decide) (Or.inl (by decide)), fun i _ _ _ _ _ _ h => hx 92 i (by decide) (Or.inr h), by rw [hx 92 13 (by decide) (Or.inr (by decide))]; exact Int.le_refl _, jd_m.same (fun j _ _ => hx 93 j (by decide) (Or.inl (by decide)))⟩
theorem jp_x.P {G G' : jg_G} (hx : jp_x G G') : jP G' = jP G := jP_same (fun i => hx 97 i (by decide) (Or.inl (by decide))) (hx 92 3 (by decide) (Or.inr (by decide)))
theorem jN_find {N : Nat} {x : Int} {g : Int → jp_C} {lo hi rk : Int → Int} {K : jc_K} {G : jg_G} (hx : jb_r x) (hT : jT g lo hi rk) (hz : ∀ q, 0 ≤ q → q < 24 → (g q).1 = 2 → 0 < (g q).2.1) (h : jN K G (fun p => jv G p N) N) (hg : ∀ q, jh G N q = g q) (h120 : 98 ≤ K.1.1) (hr : (g 0).1 ≠ 0) (hP : jP G < 2147483647) : ∃ K' G' b, fc71 K x = some (K', b) ∧ fo175 G x = some (G', 0) ∧ jk_s jF_n K K' ∧ ((b = 1 ∧ jN K' G' (fun p => jv G p N) N ∧ jw_f G G' ∧ jP G' ≤ jP G ∧ (∃ L, jW K' G' N x L)) ∨ (b = 0 ∧ jXf K' G' G ∧ G' 92 3 ≤ jP G)) := by
  have hx1 : jp_x G (jg_u G 92 29 0) := fun n j a b => by
    rcases b with b | b
    · exact jg_uN b
    · by_cases e : n = 92
      · rw [e]; exact jg_uI b
      · exact jg_uN e
  have e29 : jg_u G 92 29 0 92 29 = ((0 : Nat) : Int) := jg_uH
  have w1 := jw_f.way hx1
  unfold fc71 fo175
  generalize jg_u G 92 29 0 = G1 at hx1 e29 w1 ⊢
  have hl := w1.l
  have ev : (fun p => jv G1 p N) = fun p => jv G p N := funext fun q => hl.v q N
  have n1 : jN K G1 (fun p => jv G1 p N) N := by rw [ev]; exact h.x hx1
  obtain ⟨K', G', b, y1, y2, y3, y4⟩ := jN_find_l hx hT hz jo_N 0 K G1 0 n1 (fun q => by rw [hl.h]; exact hg q) h120 ⟨by decide, by decide, hr⟩ e29 (fun j a b => absurd b (by omega)) (fun j a b => absurd b (by omega)) (by rw [if_neg (by decide)]) (by unfold jo_N; decide) (by rw [hx1.P]; exact hP)
  refine ⟨K', G', b, y1, y2, y3, ?_⟩
  rw [ev, hx1.P] at y4
  rcases y4 with ⟨e, z1, z2, z3, z4⟩ | ⟨e, z1, z2⟩
  · exact Or.inl ⟨e, z1, w1.trans z2, z3, z4⟩
  · exact Or.inr ⟨e, jXf.t w1 z1, z2⟩
