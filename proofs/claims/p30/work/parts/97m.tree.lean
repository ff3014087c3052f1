/-! THE TREE behind a SPLIT of another page -/
theorem jTs_sp {g g' : Int → jp_C} {lo hi rk : Int → Int} {p up k a H : Int} (hT : jTs g lo hi rk) (hu : 0 ≤ up ∧ up < 24) (h2 : (g up).1 = 2) (hk : 0 ≤ k ∧ k < (g up).2.1) (hu4 : (g up).2.1 < 4) (hkp : (g up).2.2.2 k = p) (hpu : p ≠ up) (hH : 2 ≤ H ∧ H < (g p).2.1) (ha : 1 ≤ a ∧ a < 24) (fa : (g a).1 = 0) (ho : ∀ z, z ≠ up → z ≠ p → z ≠ a → g' z = g z) (eu : g' up = jp_ins (g up) (k + 1) ((g p).2.2.1 H) a) (ep : g' p = jp_part (g p) 0 H) (ea : g' a = jp_part (g p) H (g p).2.1) : ((if k = 0 then lo up else (g up).2.2.1 k) ≤ (g p).2.2.1 H ∧ (k + 1 < (g up).2.1 → (g p).2.2.1 H ≤ (g up).2.2.1 (k + 1))) ∧ ∃ lo' hi' rk', jTs g' lo' hi' rk' := by
  have pe : jT_i g up k := ⟨hu, h2, hk⟩
  obtain ⟨v1, v2, v3, v4⟩ := hT.1.2.2.1 up k pe
  have pb := jT_child hT.1.1 pe
  rw [show jT_c g up k = p from hkp] at v1 v2 v3 v4 pb
  have pb' : 0 ≤ p ∧ p < 24 := by omega
  have w0 := hT.1.1 p pb'.1 pb'.2
  have wu := hT.1.1 up hu.1 hu.2
  have apn : a ≠ p := fun e => by rw [e] at fa; exact v1 fa
  have aun : a ≠ up := fun e => by rw [e, h2] at fa; exact absurd fa (by decide)
  have hcell := (jp_cell w0 (i := H) (by omega) hH.2).1
  have kb : ∀ i, 0 ≤ i → i < (g p).2.1 → ((g p).1 = 1 ∨ 0 < i) → lo p ≤ (g p).2.2.1 i ∧ (g p).2.2.1 i < hi p := fun i i0 i1 z => ⟨(hT.1.2.2.2.2.2 p i pb'.1 pb'.2 v1 i0 i1 z).1, hT.2.1 p i pb'.1 pb'.2 v1 i0 i1 z⟩
  have ub : ∀ i, 1 ≤ i → i < (g up).2.1 → lo up ≤ (g up).2.2.1 i ∧ (g up).2.2.1 i < hi up := fun i i0 i1 => ⟨(hT.1.2.2.2.2.2 up i hu.1 hu.2 (by omega) (by omega) i1 (Or.inr (by omega))).1, hT.2.1 up i hu.1 hu.2 (by omega) (by omega) i1 (Or.inr (by omega))⟩
  have rise := fun i j => hT.rise (p := p) (i := i) (j := j) pb' v1
  have urise := fun i j => hT.rise (p := up) (i := i) (j := j) hu (by omega)
  generalize hX : (g p).2.2.1 H = X at *
  have kX := kb H (by omega) hH.2 (Or.inr (by omega))
  rw [hX] at kX
  have k1 := kb 1 (by decide) (by omega) (Or.inr (by decide))
  have r1 := rise 1 H (Or.inr (by decide)) (by decide) (by omega) hH.2
  rw [hX] at r1
  have p1 : (g' p).1 = (g p).1 := by rw [ep]; rfl
  have pc : (g' p).2.1 = H := by rw [ep]; show H - 0 = H; omega
  have pi : ∀ i, (g' p).2.2.2 i = (g p).2.2.2 i := fun i => by rw [ep]; show (g p).2.2.2 (i + 0) = _; rw [show i + 0 = i by omega]
  have pk : ∀ i, ((g p).1 = 1 ∨ 0 < i) → (g' p).2.2.1 i = (g p).2.2.1 i := fun i z => by
    rw [ep]
    show (if (g p).1 = 2 ∧ i = 0 then 0 else (g p).2.2.1 (i + 0)) = _
    rw [if_neg (by omega), show i + 0 = i by omega]
  have a1 : (g' a).1 = (g p).1 := by rw [ea]; rfl
  have ac : (g' a).2.1 = (g p).2.1 - H := by rw [ea]; rfl
  have ai : ∀ i, (g' a).2.2.2 i = (g p).2.2.2 (i + H) := fun i => by rw [ea]; rfl
  have ak : ∀ i, ((g p).1 = 1 ∨ 0 < i) → (g' a).2.2.1 i = (g p).2.2.1 (i + H) := fun i z => by
    rw [ea]
    show (if (g p).1 = 2 ∧ i = 0 then 0 else (g p).2.2.1 (i + H)) = _
    rw [if_neg (by omega)]
  have u1 : (g' up).1 = 2 := by rw [eu]; exact h2
  have uc : (g' up).2.1 = (g up).2.1 + 1 := by rw [eu]; rfl
  have ui0 : ∀ i, i ≤ k → (g' up).2.2.2 i = (g up).2.2.2 i := fun i z => by
    rw [eu]
    show (if i < k + 1 then (g up).2.2.2 i else _) = _
    rw [if_pos (by omega)]
  have ui1 : (g' up).2.2.2 (k + 1) = a := by
    rw [eu]
    show (if k + 1 < k + 1 then _ else if k + 1 = k + 1 then a else _) = _
    rw [if_neg (by omega), if_pos rfl]
  have ui2 : ∀ i, k + 1 < i → (g' up).2.2.2 i = (g up).2.2.2 (i - 1) := fun i z => by
    rw [eu]
    show (if i < k + 1 then _ else if i = k + 1 then a else _) = _
    rw [if_neg (by omega), if_neg (by omega)]
  have uk0 : ∀ i, i ≤ k → (g' up).2.2.1 i = (g up).2.2.1 i := fun i z => by
    rw [eu]
    show (if i < k + 1 then (g up).2.2.1 i else _) = _
    rw [if_pos (by omega)]
  have uk1 : (g' up).2.2.1 (k + 1) = X := by
    rw [eu]
    show (if k + 1 < k + 1 then _ else if k + 1 = k + 1 then X else _) = _
    rw [if_neg (by omega), if_pos rfl]
  have uk2 : ∀ i, k + 1 < i → (g' up).2.2.1 i = (g up).2.2.1 (i - 1) := fun i z => by
    rw [eu]
    show (if i < k + 1 then _ else if i = k + 1 then X else _) = _
    rw [if_neg (by omega), if_neg (by omega)]
  have fresh : ∀ q i, jT_i g q i → jT_c g q i ≠ a := fun q i h e => by
    have := (hT.1.2.2.1 q i h).1
    rw [e] at this; exact this fa
  have nofree : ∀ q i, jT_i g q i → q ≠ a := fun q i h e => by
    have := h.2.1
    rw [e, fa] at this; exact absurd this (by decide)
  have pone : ∀ q i, jT_i g q i → jT_c g q i = p → q = up ∧ i = k := fun q i h e => hT.1.2.2.2.1 q i up k h pe (e.trans hkp.symm)
  have lower : (if k = 0 then lo up else (g up).2.2.1 k) ≤ X := by omega
  have loX : lo up ≤ X := by
    by_cases z : k = 0
    · rw [if_pos z] at v3; omega
    · rw [if_neg z] at v3
      have := (ub k (by omega) hk.2).1
      omega
  have hiX : X < hi up := by
    by_cases z : k + 1 = (g up).2.1
    · rw [if_pos z] at v4; omega
    · rw [if_neg z] at v4
      have := (ub (k + 1) (by omega) (by omega)).2
      omega
  have upper : k + 1 < (g up).2.1 → X < (g up).2.2.1 (k + 1) := fun z => by
    rw [if_neg (by omega)] at v4
    omega
  refine ⟨⟨lower, fun z => Int.le_of_lt (upper z)⟩, ?_⟩
  let lo' := fun z => if z = a then X else lo z
  let hi' := fun z => if z = p then X else if z = a then hi p else hi z
  let rk' := fun z => if z = a then rk p else rk z
  have loa : lo' a = X := if_pos rfl
  have loo : ∀ z, z ≠ a → lo' z = lo z := fun z y => if_neg y
  have hip : hi' p = X := if_pos rfl
  have hia : hi' a = hi p := by show (if a = p then X else if a = a then hi p else hi a) = _; rw [if_neg apn, if_pos rfl]
  have hio : ∀ z, z ≠ p → z ≠ a → hi' z = hi z := fun z x y => by show (if z = p then X else if z = a then hi p else hi z) = _; rw [if_neg x, if_neg y]
  have rka : rk' a = rk p := if_pos rfl
  have rko : ∀ z, z ≠ a → rk' z = rk z := fun z y => if_neg y
  clear_value lo' hi' rk'
  have nf : ∀ z, z ≠ a → (g z).1 ≠ 0 → (g' z).1 ≠ 0 := fun z x y => by
    by_cases e : z = up
    · rw [e, u1]; decide
    · by_cases e2 : z = p
      · rw [e2, p1]; exact v1
      · rw [ho z e e2 x]; exact y
  have ed : ∀ q i, jT_i g' q i → (q = up ∧ ((i ≤ k ∧ jT_i g up i ∧ jT_c g up i = jT_c g' q i) ∨ (i = k + 1 ∧ jT_c g' q i = a) ∨ (k + 1 < i ∧ jT_i g up (i - 1) ∧ jT_c g up (i - 1) = jT_c g' q i))) ∨ (q = p ∧ jT_i g p i ∧ jT_c g p i = jT_c g' q i ∧ i < H) ∨ (q = a ∧ jT_i g p (i + H) ∧ jT_c g p (i + H) = jT_c g' q i) ∨ (q ≠ up ∧ q ≠ p ∧ q ≠ a ∧ jT_i g q i ∧ g' q = g q) := fun q i h => by
    obtain ⟨x1, x2, x3, x4⟩ := h
    by_cases z0 : q = up
    · subst z0
      rw [uc] at x4
      refine Or.inl ⟨rfl, ?_⟩
      by_cases l : i ≤ k
      · exact Or.inl ⟨l, ⟨hu, h2, x3, by omega⟩, (ui0 i l).symm⟩
      · by_cases l2 : i = k + 1
        · exact Or.inr (Or.inl ⟨l2, by rw [l2]; exact ui1⟩)
        · exact Or.inr (Or.inr ⟨by omega, ⟨hu, h2, by omega, by omega⟩, (ui2 i (by omega)).symm⟩)
    · by_cases za : q = p
      · subst za
        rw [p1] at x2
        rw [pc] at x4
        exact Or.inr (Or.inl ⟨rfl, ⟨pb', x2, x3, by omega⟩, (pi i).symm, x4⟩)
      · by_cases zb : q = a
        · subst zb
          rw [a1] at x2
          rw [ac] at x4
          exact Or.inr (Or.inr (Or.inl ⟨rfl, ⟨pb', x2, by omega, by omega⟩, (ai i).symm⟩))
        · have eq := ho q z0 za zb
          rw [eq] at x2 x4
          exact Or.inr (Or.inr (Or.inr ⟨z0, za, zb, ⟨x1, x2, x3, x4⟩, eq⟩))
  refine ⟨lo', hi', rk', jTs_mk (F1 := fun _ => up) (F2 := fun _ => k + 1) (ψ1 := fun q i => if q = p then (if i < H then p else a) else q) (ψ2 := fun q i => if q = p then (if i < H then i else i - H) else if q = up then (if i ≤ k then i else i + 1) else i) hT (fun z z0 z1 => ?_) (by
    by_cases e : (0 : Int) = up
    · rw [show (g' 0).1 = 2 by rw [e]; exact u1]; decide
    · exact nf 0 (by omega) hT.1.2.1) (fun q i hq => ?_) (fun q i hq => ?_) (fun z z0 z1 hz => ?_) (fun z i z0 z1 hz i0 i1 y => ?_) (fun z i z0 z1 hz i0 i1 => ?_)⟩
  · by_cases e : z = up
    · rw [e, eu]
      exact jp_ins_w wu h2 hu4 (by omega) (by omega) hcell ha (fun z => by omega) (fun _ => by
        rw [show k + 1 - 1 = k by omega]
        by_cases z : k = 0
        · rw [z]
          obtain ⟨_, w⟩ := id wu
          have := ((w.resolve_left (fun z => by omega)).resolve_left (fun z => by omega)).2.2.1 (by omega)
          omega
        · rw [if_neg z] at lower; exact lower) (fun z => Int.le_of_lt (upper z))
    · by_cases e1 : z = p
      · rw [e1, ep]; exact jp_part_w w0 v1 (by decide) (by omega) (by omega)
      · by_cases e2 : z = a
        · rw [e2, ea]; exact jp_part_w w0 v1 (by omega) (by omega) (by omega)
        · rw [ho z e e1 e2]; exact hT.1.1 z z0 z1
  · unfold jT_b
    rcases ed q i hq with ⟨e, ⟨l, x1, x2⟩ | ⟨l, x2⟩ | ⟨l, x1, x2⟩⟩ | ⟨e, x1, x2, x3⟩ | ⟨e, x1, x2⟩ | ⟨e1, e2, e3, x1, x2⟩
    · subst e
      obtain ⟨y1, y2, y3, y4⟩ := hT.1.2.2.1 q i x1
      have fr := fresh q i x1
      have i0 := x1.2.2
      rw [← x2, rko _ fr, loo _ fr, rko q (fun z => aun z.symm), loo q (fun z => aun z.symm), hio q (fun z => hpu z.symm) (fun z => aun z.symm), uc, uk0 i l]
      refine ⟨nf _ fr y1, y2, y3, ?_⟩
      rw [if_neg (by omega)]
      by_cases z : i = k
      · subst z
        rw [uk1, show jT_c g q i = p from hkp, hip]
        exact Int.le_refl _
      · rw [if_neg (by omega)] at y4
        rw [uk0 (i + 1) (by omega), hio _ (fun e => z (pone q i x1 e).2) fr]
        exact y4
    · rw [x2]
      subst e l
      rw [uc, if_neg (by omega), uk1, a1, rka, rko q (fun z => aun z.symm), loa, hia, hio q (fun z => hpu z.symm) (fun z => aun z.symm)]
      refine ⟨v1, v2, Int.le_refl _, ?_⟩
      by_cases z : k + 1 = (g q).2.1
      · rw [if_pos z] at v4
        rw [if_pos (by omega)]; exact v4
      · rw [if_neg z] at v4
        rw [if_neg (by omega), uk2 (k + 1 + 1) (by omega), show k + 1 + 1 - 1 = k + 1 by omega]; exact v4
    · subst e
      obtain ⟨y1, y2, y3, y4⟩ := hT.1.2.2.1 q (i - 1) x1
      have fr := fresh q (i - 1) x1
      rw [← x2, rko _ fr, loo _ fr, rko q (fun z => aun z.symm), hio q (fun z => hpu z.symm) (fun z => aun z.symm), uc, if_neg (show ¬ i = 0 by omega), uk2 i l]
      rw [if_neg (by omega)] at y3
      refine ⟨nf _ fr y1, y2, y3, ?_⟩
      rw [hio _ (fun e => by have := (pone q _ x1 e).2; omega) fr]
      by_cases z : i + 1 = (g q).2.1 + 1
      · rw [if_pos z]
        rw [if_pos (by omega)] at y4; exact y4
      · rw [if_neg z, uk2 (i + 1) (by omega), show i + 1 - 1 = i - 1 + 1 by omega]
        rw [if_neg (by omega)] at y4; exact y4
    · subst e
      obtain ⟨y1, y2, y3, y4⟩ := hT.1.2.2.1 q i x1
      have fr := fresh q i x1
      have i0 := x1.2.2
      have np : jT_c g q i ≠ q := fun e => hpu (pone q i x1 e).1
      rw [← x2, rko _ fr, loo _ fr, hio _ np fr, rko q (fun z => apn z.symm), loo q (fun z => apn z.symm), hip, pc]
      refine ⟨nf _ fr y1, y2, ?_, ?_⟩
      · by_cases z : i = 0
        · rw [if_pos z] at y3 ⊢; exact y3
        · rw [if_neg z] at y3 ⊢
          rw [pk i (Or.inr (by omega))]; exact y3
      · rw [if_neg (by omega)] at y4
        by_cases z : i + 1 = H
        · rw [if_pos z, ← hX, ← z]; exact y4
        · rw [if_neg z, pk (i + 1) (Or.inr (by omega))]; exact y4
    · subst e
      obtain ⟨y1, y2, y3, y4⟩ := hT.1.2.2.1 p (i + H) x1
      have fr := fresh p _ x1
      have i0 := hq.2.2.1
      have np : jT_c g p (i + H) ≠ p := fun e => hpu (pone p _ x1 e).1
      rw [← x2, rko _ fr, loo _ fr, hio _ np fr, rka, loa, hia, ac]
      rw [if_neg (by omega)] at y3
      refine ⟨nf _ fr y1, y2, ?_, ?_⟩
      · by_cases z : i = 0
        · rw [if_pos z, ← hX]
          rw [z, show (0 : Int) + H = H by omega] at y3 ⊢
          exact y3
        · rw [if_neg z, ak i (Or.inr (by omega))]; exact y3
      · by_cases z : i + 1 = (g p).2.1 - H
        · rw [if_pos z]
          rw [if_pos (by omega)] at y4; exact y4
        · rw [if_neg z, ak (i + 1) (Or.inr (by omega)), show i + 1 + H = i + H + 1 by omega]
          rw [if_neg (by omega)] at y4; exact y4
    · obtain ⟨y1, y2, y3, y4⟩ := hT.1.2.2.1 q i x1
      have fr := fresh q i x1
      have np : jT_c g q i ≠ p := fun e => e1 (pone q i x1 e).1
      show (g' ((g' q).2.2.2 i)).1 ≠ 0 ∧ rk' ((g' q).2.2.2 i) < rk' q ∧ _ ≤ lo' ((g' q).2.2.2 i) ∧ hi' ((g' q).2.2.2 i) ≤ _
      rw [x2]
      show (g' (jT_c g q i)).1 ≠ 0 ∧ rk' (jT_c g q i) < rk' q ∧ _ ≤ lo' (jT_c g q i) ∧ hi' (jT_c g q i) ≤ _
      rw [rko _ fr, loo _ fr, hio _ np fr, rko q e3, loo q e3, hio q e2 e3]
      exact ⟨nf _ fr y1, y2, y3, y4⟩
  · rcases ed q i hq with ⟨e, ⟨l, x1, x2⟩ | ⟨l, x2⟩ | ⟨l, x1, x2⟩⟩ | ⟨e, x1, x2, x3⟩ | ⟨e, x1, x2⟩ | ⟨e1, e2, e3, x1, x2⟩
    · exact Or.inl ⟨up, i, x1, x2, by rw [if_neg (fun z => hpu z.symm)]; exact e, by rw [if_neg (fun z => hpu z.symm), if_pos rfl, if_pos l]⟩
    · exact Or.inr ⟨by rw [x2]; exact fa, e, l⟩
    · exact Or.inl ⟨up, i - 1, x1, x2, by rw [if_neg (fun z => hpu z.symm)]; exact e, by rw [if_neg (fun z => hpu z.symm), if_pos rfl, if_neg (by omega)]; omega⟩
    · exact Or.inl ⟨p, i, x1, x2, by rw [if_pos rfl, if_pos x3]; exact e, by rw [if_pos rfl, if_pos x3]⟩
    · have i0 := hq.2.2.1
      exact Or.inl ⟨p, i + H, x1, x2, by rw [if_pos rfl, if_neg (by omega)]; exact e, by rw [if_pos rfl, if_neg (by omega)]; omega⟩
    · exact Or.inl ⟨q, i, x1, by show (g q).2.2.2 i = (g' q).2.2.2 i; rw [x2], by rw [if_neg e2], by rw [if_neg e2, if_neg e1]⟩
  · by_cases e1 : z = a
    · exact ⟨up, k + 1, ⟨hu, u1, by omega, by rw [uc]; omega⟩, by rw [e1]; exact ui1⟩
    · have hz' : (g z).1 ≠ 0 := by
        by_cases e : z = up
        · rw [e, h2]; decide
        · by_cases e2 : z = p
          · rw [e2]; exact v1
          · rw [← ho z e e2 e1]; exact hz
      obtain ⟨q, i, x1, x2⟩ := hT.1.2.2.2.2.1 z z0 z1 hz'
      have na := nofree q i x1
      obtain ⟨y1, y2, y3, y4⟩ := x1
      by_cases e : q = up
      · subst e
        by_cases l : i ≤ k
        · exact ⟨q, i, ⟨y1, u1, y3, by rw [uc]; omega⟩, (ui0 i l).trans x2⟩
        · exact ⟨q, i + 1, ⟨y1, u1, by omega, by rw [uc]; omega⟩, (ui2 (i + 1) (by omega)).trans (by rw [show i + 1 - 1 = i by omega]; exact x2)⟩
      · by_cases e2 : q = p
        · subst e2
          by_cases l : i < H
          · exact ⟨q, i, ⟨y1, by rw [p1]; exact y2, y3, by rw [pc]; exact l⟩, (pi i).trans x2⟩
          · exact ⟨a, i - H, ⟨by omega, by rw [a1]; exact y2, by omega, by rw [ac]; omega⟩, (ai _).trans (by rw [show i - H + H = i by omega]; exact x2)⟩
        · have eq := ho q e e2 na
          exact ⟨q, i, ⟨y1, by rw [eq]; exact y2, y3, by rw [eq]; exact y4⟩, by show (g' q).2.2.2 i = z; rw [eq]; exact x2⟩
  · by_cases e : z = up
    · subst e
      rw [uc] at i1
      rw [u1] at y
      rw [loo z (fun w => aun w.symm), hio z (fun w => hpu w.symm) (fun w => aun w.symm)]
      by_cases l : i ≤ k
      · rw [uk0 i l]; exact ub i (by omega) (by omega)
      · by_cases l2 : i = k + 1
        · rw [l2, uk1]; exact ⟨loX, hiX⟩
        · rw [uk2 i (by omega)]; exact ub (i - 1) (by omega) (by omega)
    · by_cases e1 : z = p
      · subst e1
        rw [p1] at y
        rw [pc] at i1
        rw [pk i y, loo z (fun w => apn w.symm), hip, ← hX]
        exact ⟨(kb i i0 (by omega) y).1, rise i H y i0 i1 hH.2⟩
      · by_cases e2 : z = a
        · subst e2
          rw [a1] at y
          rw [ac] at i1
          rw [ak i y, loa, hia, ← hX]
          refine ⟨?_, (kb (i + H) (by omega) (by omega) (Or.inr (by omega))).2⟩
          by_cases zi : i = 0
          · rw [zi, show (0 : Int) + H = H by omega]; exact Int.le_refl _
          · exact Int.le_of_lt (rise H (i + H) (Or.inr (by omega)) (by omega) (by omega) (by omega))
        · rw [ho z e e1 e2] at hz i1 y ⊢
          rw [loo z e2, hio z e1 e2]
          exact ⟨(hT.1.2.2.2.2.2 z i z0 z1 hz i0 i1 y).1, hT.2.1 z i z0 z1 hz i0 i1 y⟩
  · by_cases e : z = up
    · subst e
      rw [uc] at i1
      by_cases l : i + 1 ≤ k
      · rw [uk0 i (by omega), uk0 (i + 1) l]; exact urise i (i + 1) (Or.inr (by omega)) (by omega) (by omega) (by omega)
      · by_cases l2 : i = k
        · subst l2
          rw [uk0 i (Int.le_refl _), uk1]
          rw [if_neg (by omega)] at v3
          omega
        · by_cases l3 : i = k + 1
          · subst l3
            rw [uk1, uk2 (k + 1 + 1) (by omega), show k + 1 + 1 - 1 = k + 1 by omega]
            exact upper (by omega)
          · rw [uk2 i (by omega), uk2 (i + 1) (by omega), show i + 1 - 1 = i - 1 + 1 by omega]
            exact urise (i - 1) (i - 1 + 1) (Or.inr (by omega)) (by omega) (by omega) (by omega)
    · by_cases e1 : z = p
      · subst e1
        rw [pc] at i1
        rw [pk i (Or.inr (by omega)), pk (i + 1) (Or.inr (by omega))]
        exact rise i (i + 1) (Or.inr (by omega)) (by omega) (by omega) (by omega)
      · by_cases e2 : z = a
        · subst e2
          rw [ac] at i1
          rw [ak i (Or.inr (by omega)), ak (i + 1) (Or.inr (by omega))]
          exact rise (i + H) (i + 1 + H) (Or.inr (by omega)) (by omega) (by omega) (by omega)
        · rw [ho z e e1 e2] at hz i1 ⊢
          exact hT.2.2 z i z0 z1 hz i0 i1
