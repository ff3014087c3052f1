/-! THE TREE behind a GO and a TAKE OVER -/
theorem jTs_go {g g' : Int → jp_C} {lo hi rk : Int → Int} {p up k : Int} (hT : jTs g lo hi rk) (hp : 1 ≤ p ∧ p < 24) (hu : 0 ≤ up ∧ up < 24) (hne : p ≠ up) (h2 : (g up).1 = 2) (hk : 0 ≤ k ∧ k < (g up).2.1) (hkp : (g up).2.2.2 k = p) (hb : (g p).2.1 = 0) (ho : ∀ z, z ≠ p → z ≠ up → g' z = g z) (gp : g' p = jp_0) (gu : g' up = jp_fg (jp_del (g up) k)) : jTs g' lo hi rk := by
  have wu := hT.1.1 up hu.1 hu.2
  have g1 : (g' up).1 = 2 := by rw [gu]; exact h2
  have gc : (g' up).2.1 = (g up).2.1 - 1 := by rw [gu]; rfl
  have gi : ∀ i, (g' up).2.2.2 i = if i < k then (g up).2.2.2 i else (g up).2.2.2 (i + 1) := fun i => by rw [gu]; rfl
  have gk : ∀ i, i ≠ 0 → (g' up).2.2.1 i = if i < k then (g up).2.2.1 i else (g up).2.2.1 (i + 1) := fun i hi => by
    rw [gu]
    show (if (g up).1 = 2 ∧ i = 0 then 0 else if i < k then (g up).2.2.1 i else (g up).2.2.1 (i + 1)) = _
    rw [if_neg (fun z => hi z.2)]
  have kb : ∀ i, 1 ≤ i → i < (g up).2.1 → lo up ≤ (g up).2.2.1 i ∧ (g up).2.2.1 i < hi up := fun i i0 i1 => ⟨(hT.1.2.2.2.2.2 up i hu.1 hu.2 (by omega) (by omega) i1 (Or.inr (by omega))).1, hT.2.1 up i hu.1 hu.2 (by omega) (by omega) i1 (Or.inr (by omega))⟩
  have ks : ∀ i, 1 ≤ i → i + 1 < (g up).2.1 → (g up).2.2.1 i < (g up).2.2.1 (i + 1) := fun i i0 i1 => hT.2.2 up i hu.1 hu.2 h2 i0 i1
  have pe : jT_i g up k := ⟨hu, h2, hk⟩
  have ed : ∀ q i, jT_i g' q i → ∃ i0, jT_i g q i0 ∧ jT_c g q i0 = jT_c g' q i ∧ i = (if q = up ∧ k < i0 then i0 - 1 else i0) ∧ (q ≠ up → i0 = i ∧ g' q = g q) ∧ (q = up → (i < k → i0 = i) ∧ (k ≤ i → i0 = i + 1)) := fun q i h => by
    obtain ⟨a, b, c, d⟩ := h
    by_cases e : q = up
    · subst e
      rw [gc] at d
      by_cases z : i < k
      · exact ⟨i, ⟨a, h2, c, by omega⟩, by show _ = (g' q).2.2.2 i; rw [gi, if_pos z], by rw [if_neg (by omega)], fun z => absurd rfl z, fun _ => ⟨fun _ => rfl, fun _ => by omega⟩⟩
      · exact ⟨i + 1, ⟨a, h2, by omega, by omega⟩, by show _ = (g' q).2.2.2 i; rw [gi, if_neg z], by rw [if_pos ⟨rfl, by omega⟩]; omega, fun z => absurd rfl z, fun _ => ⟨fun _ => by omega, fun _ => rfl⟩⟩
    · by_cases e2 : q = p
      · rw [e2, gp] at b
        exact absurd b (by decide)
      · have eq := ho q e2 e
        rw [eq] at b d
        exact ⟨i, ⟨a, b, c, d⟩, by show _ = (g' q).2.2.2 i; rw [eq], by rw [if_neg (fun z => e z.1)], fun _ => ⟨rfl, eq⟩, fun z => absurd z e⟩
  have nf : ∀ z, z ≠ p → ((g' z).1 ≠ 0 ↔ (g z).1 ≠ 0) := fun z hz => by
    by_cases e : z = up
    · rw [e, g1, h2]
    · rw [ho z hz e]
  refine jTs_mk (F1 := id) (F2 := id) (ψ1 := fun q _ => q) (ψ2 := fun q i => if q = up ∧ k < i then i - 1 else i) hT (fun z z0 z1 => ?_) ((nf 0 (by omega)).2 hT.1.2.1) (fun q i hq => ?_) (fun q i hq => ?_) (fun z z0 z1 hz => ?_) (fun z i z0 z1 hz i0 i1 y => ?_) (fun z i z0 z1 hz i0 i1 => ?_)
  · by_cases e : z = p
    · rw [e, gp]; exact jp_0_w
    · by_cases e2 : z = up
      · rw [e2, gu]; exact jgo_w wu h2 hk.1 hk.2
      · rw [ho z e e2]; exact hT.1.1 z z0 z1
  · obtain ⟨i0, x1, x2, x3, x4, x5⟩ := ed q i hq
    obtain ⟨y1, y2, y3, y4⟩ := hT.1.2.2.1 q i0 x1
    have cp : jT_c g q i0 ≠ p := fun z => by
      obtain ⟨u1, u2⟩ := hT.1.2.2.2.1 q i0 up k x1 pe (z.trans hkp.symm)
      have := x5 u1
      omega
    unfold jT_b
    rw [← x2]
    refine ⟨(nf _ cp).2 y1, y2, ?_, ?_⟩
    · by_cases e : q = up
      · subst e
        have x5' := x5 rfl
        have c0 := hq.2.2.1
        have d0 := x1.2.2
        by_cases z : i = 0
        · rw [if_pos z]
          by_cases z2 : i0 = 0
          · rw [if_pos z2] at y3; exact y3
          · rw [if_neg z2] at y3
            have := (kb i0 (by omega) d0.2).1
            omega
        · rw [if_neg z, gk i z]
          rw [if_neg (by omega)] at y3
          by_cases z2 : i < k
          · rw [if_pos z2, ← x5'.1 z2]; exact y3
          · rw [if_neg z2, ← x5'.2 (by omega)]; exact y3
      · obtain ⟨e1, e2⟩ := x4 e
        rw [e2]
        rw [e1] at y3 ⊢; exact y3
    · by_cases e : q = up
      · subst e
        have x5' := x5 rfl
        have c0 := hq.2.2.1
        have c1 := hq.2.2.2
        rw [gc] at c1
        have d0 := x1.2.2
        rw [gc]
        by_cases z : i < k
        · have ei := x5'.1 z
          subst ei
          rw [if_neg (by omega)] at y4
          by_cases z2 : i0 + 1 = (g q).2.1 - 1
          · rw [if_pos z2]
            have := (kb (i0 + 1) (by omega) (by omega)).2
            omega
          · rw [if_neg z2, gk (i0 + 1) (by omega)]
            by_cases z3 : i0 + 1 < k
            · rw [if_pos z3]; exact y4
            · rw [if_neg z3]
              have := ks (i0 + 1) (by omega) (by omega)
              omega
        · have ei := x5'.2 (by omega)
          subst ei
          by_cases z2 : i + 1 = (g q).2.1 - 1
          · rw [if_pos z2]
            rw [if_pos (by omega)] at y4; exact y4
          · rw [if_neg z2, gk (i + 1) (by omega), if_neg (by omega)]
            rw [if_neg (by omega)] at y4; exact y4
      · obtain ⟨e1, e2⟩ := x4 e
        rw [e2]
        rw [e1] at y4 ⊢; exact y4
  · obtain ⟨i0, x1, x2, x3, _⟩ := ed q i hq
    exact Or.inl ⟨q, i0, x1, x2, rfl, x3⟩
  · have zp : z ≠ p := fun e => by rw [e, gp] at hz; exact hz rfl
    obtain ⟨q, i0, x1, x2⟩ := hT.1.2.2.2.2.1 z z0 z1 ((nf z zp).1 hz)
    have qp : q ≠ p := fun e => by
      have := x1.2.2
      rw [e, hb] at this
      omega
    by_cases e : q = up
    · subst e
      have ik : i0 ≠ k := fun e => zp (by rw [← x2, e]; exact hkp)
      have d0 := x1.2.2
      by_cases l : i0 < k
      · exact ⟨q, i0, ⟨hu, g1, d0.1, by rw [gc]; omega⟩, by show (g' q).2.2.2 i0 = z; rw [gi, if_pos l]; exact x2⟩
      · exact ⟨q, i0 - 1, ⟨hu, g1, by omega, by rw [gc]; omega⟩, by show (g' q).2.2.2 (i0 - 1) = z; rw [gi, if_neg (by omega), show i0 - 1 + 1 = i0 by omega]; exact x2⟩
    · have eq := ho q qp e
      obtain ⟨a, b, c, d⟩ := x1
      exact ⟨q, i0, ⟨a, by rw [eq]; exact b, c, by rw [eq]; exact d⟩, by show (g' q).2.2.2 i0 = z; rw [eq]; exact x2⟩
  · by_cases e : z = p
    · rw [e, gp] at hz; exact absurd rfl hz
    · by_cases e2 : z = up
      · subst e2
        rw [gc] at i1
        have i2 : i ≠ 0 := fun w => by rw [g1] at y; omega
        rw [gk i i2]
        split
        · exact kb i (by omega) (by omega)
        · exact kb (i + 1) (by omega) (by omega)
      · rw [ho z e e2] at hz i1 y ⊢
        exact ⟨(hT.1.2.2.2.2.2 z i z0 z1 hz i0 i1 y).1, hT.2.1 z i z0 z1 hz i0 i1 y⟩
  · by_cases e : z = p
    · rw [e, gp] at hz; exact absurd hz (by decide)
    · by_cases e2 : z = up
      · subst e2
        rw [gc] at i1
        rw [gk i (by omega), gk (i + 1) (by omega)]
        by_cases l : i + 1 < k
        · rw [if_pos (by omega), if_pos l]; exact ks i i0 (by omega)
        · rw [if_neg l]
          have b1 := ks (i + 1) (by omega) (by omega)
          split
          · have b2 := ks i i0 (by omega)
            omega
          · exact b1
      · rw [ho z e e2] at hz i1 ⊢
        exact hT.2.2 z i z0 z1 hz i0 i1
/-- the root takes over -/
theorem jTs_to {g g' : Int → jp_C} {lo hi rk : Int → Int} {c : Int} (hT : jTs g lo hi rk) (h2 : (g 0).1 = 2) (h1 : (g 0).2.1 = 1) (hc : (g 0).2.2.2 0 = c) (ho : ∀ z, z ≠ 0 → z ≠ c → g' z = g z) (g0 : g' 0 = g c) (gc : g' c = jp_0) : jTs g' lo hi rk := by
  have re : jT_i g 0 0 := ⟨by decide, h2, by decide, by rw [h1]; decide⟩
  obtain ⟨y1, y2, y3, y4⟩ := hT.1.2.2.1 0 0 re
  have cb := jT_child hT.1.1 re
  rw [show jT_c g 0 0 = c from hc] at y1 y2 y3 y4 cb
  rw [if_pos rfl] at y3
  rw [if_pos (by rw [h1]; rfl)] at y4
  have cn0 : c ≠ 0 := by omega
  have ed : ∀ q i, jT_i g' q i → ∃ q0, jT_i g q0 i ∧ jT_c g q0 i = jT_c g' q i ∧ q = (if q0 = c then 0 else q0) ∧ (q ≠ 0 → q0 = q ∧ g' q = g q) ∧ (q = 0 → q0 = c) := fun q i h => by
    obtain ⟨a, b, cc, d⟩ := h
    by_cases e : q = 0
    · subst e
      rw [g0] at b d
      exact ⟨c, ⟨by omega, b, cc, d⟩, by show _ = (g' 0).2.2.2 i; rw [g0], by rw [if_pos rfl], fun z => absurd rfl z, fun _ => rfl⟩
    · by_cases e2 : q = c
      · rw [e2, gc] at b; exact absurd b (by decide)
      · have eq := ho q e e2
        rw [eq] at b d
        exact ⟨q, ⟨a, b, cc, d⟩, by show _ = (g' q).2.2.2 i; rw [eq], by rw [if_neg e2], fun _ => ⟨rfl, eq⟩, fun z => absurd z e⟩
  have chc : ∀ q0 i, jT_i g q0 i → jT_c g q0 i = c → q0 = 0 := fun q0 i h e => (hT.1.2.2.2.1 q0 i 0 0 h re (e.trans hc.symm)).1
  refine jTs_mk (F1 := id) (F2 := id) (ψ1 := fun q _ => if q = c then 0 else q) (ψ2 := fun _ i => i) hT (fun z z0 z1 => ?_) (by rw [g0]; exact y1) (fun q i hq => ?_) (fun q i hq => ?_) (fun z z0 z1 hz => ?_) (fun z i z0 z1 hz i0 i1 y => ?_) (fun z i z0 z1 hz i0 i1 => ?_)
  · by_cases e : z = 0
    · rw [e, g0]; exact hT.1.1 c (by omega) cb.2
    · by_cases e2 : z = c
      · rw [e2, gc]; exact jp_0_w
      · rw [ho z e e2]; exact hT.1.1 z z0 z1
  · obtain ⟨q0, x1, x2, x3, x4, x5⟩ := ed q i hq
    obtain ⟨w1, w2, w3, w4⟩ := hT.1.2.2.1 q0 i x1
    have cb2 := jT_child hT.1.1 x1
    have q00 : q0 ≠ 0 := fun e => by
      by_cases z : q = 0
      · have := x5 z; omega
      · have := (x4 z).1; omega
    have cc : jT_c g q0 i ≠ c := fun e => q00 (chc q0 i x1 e)
    unfold jT_b
    rw [← x2]
    refine ⟨by rw [ho _ (by omega) cc]; exact w1, ?_, ?_, ?_⟩
    · by_cases z : q = 0
      · rw [x5 z] at w2
        rw [x5 z, z]; omega
      · rw [← (x4 z).1]; exact w2
    · by_cases z : q = 0
      · subst z
        have := x5 rfl
        subst this
        rw [g0]
        by_cases z2 : i = 0
        · rw [if_pos z2] at w3 ⊢; omega
        · rw [if_neg z2] at w3 ⊢; exact w3
      · obtain ⟨e1, e2⟩ := x4 z
        rw [e2]; rw [e1] at w3 ⊢; exact w3
    · by_cases z : q = 0
      · subst z
        have := x5 rfl
        subst this
        rw [g0]
        by_cases z2 : i + 1 = (g q0).2.1
        · rw [if_pos z2] at w4 ⊢; omega
        · rw [if_neg z2] at w4 ⊢; exact w4
      · obtain ⟨e1, e2⟩ := x4 z
        rw [e2]; rw [e1] at w4 ⊢; exact w4
  · obtain ⟨q0, x1, x2, x3, _⟩ := ed q i hq
    exact Or.inl ⟨q0, i, x1, x2, x3, rfl⟩
  · have zc : z ≠ c := fun e => by rw [e, gc] at hz; exact hz rfl
    rw [ho z (by omega) zc] at hz
    obtain ⟨q, i, x1, x2⟩ := hT.1.2.2.2.2.1 z z0 z1 hz
    by_cases e : q = 0
    · have i1 := x1.2.2
      rw [e, h1] at i1
      exact absurd (by rw [← x2, e, show i = 0 by omega]; exact hc) zc
    · obtain ⟨a, b, cc, d⟩ := x1
      by_cases e2 : q = c
      · subst e2
        exact ⟨0, i, ⟨by decide, by rw [g0]; exact b, cc, by rw [g0]; exact d⟩, by show (g' 0).2.2.2 i = z; rw [g0]; exact x2⟩
      · have eq := ho q e e2
        exact ⟨q, i, ⟨a, by rw [eq]; exact b, cc, by rw [eq]; exact d⟩, by show (g' q).2.2.2 i = z; rw [eq]; exact x2⟩
  · by_cases e : z = 0
    · subst e
      rw [g0] at hz i1 y ⊢
      have b1 := (hT.1.2.2.2.2.2 c i (by omega) cb.2 hz i0 i1 y).1
      have b2 := hT.2.1 c i (by omega) cb.2 hz i0 i1 y
      omega
    · by_cases e2 : z = c
      · rw [e2, gc] at hz; exact absurd rfl hz
      · rw [ho z e e2] at hz i1 y ⊢
        exact ⟨(hT.1.2.2.2.2.2 z i z0 z1 hz i0 i1 y).1, hT.2.1 z i z0 z1 hz i0 i1 y⟩
  · by_cases e : z = 0
    · subst e
      rw [g0] at hz i1 ⊢
      exact hT.2.2 c i (by omega) cb.2 hz i0 i1
    · by_cases e2 : z = c
      · rw [e2, gc] at hz; exact absurd hz (by decide)
      · rw [ho z e e2] at hz i1 ⊢
        exact hT.2.2 z i z0 z1 hz i0 i1
