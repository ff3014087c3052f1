/-! THE TREE, further: what each record makes of it -/
def jTs (g : Int → jp_C) (lo hi rk : Int → Int) : Prop := jT g lo hi rk ∧ (∀ p i, 0 ≤ p → p < 24 → (g p).1 ≠ 0 → 0 ≤ i → i < (g p).2.1 → ((g p).1 = 1 ∨ 0 < i) → (g p).2.2.1 i < hi p) ∧ ∀ p i, 0 ≤ p → p < 24 → (g p).1 = 2 → 1 ≤ i → i + 1 < (g p).2.1 → (g p).2.2.1 i < (g p).2.2.1 (i + 1)
def jT_b (g : Int → jp_C) (lo hi rk : Int → Int) (q i : Int) : Prop := (g (jT_c g q i)).1 ≠ 0 ∧ rk (jT_c g q i) < rk q ∧ (if i = 0 then lo q else (g q).2.2.1 i) ≤ lo (jT_c g q i) ∧ hi (jT_c g q i) ≤ (if i + 1 = (g q).2.1 then hi q else (g q).2.2.1 (i + 1))
theorem jTs_mk {g g' : Int → jp_C} {lo hi rk lo' hi' rk' : Int → Int} {F1 F2 : Int → Int} {ψ1 ψ2 : Int → Int → Int} (hT : jTs g lo hi rk) (hw : ∀ p, 0 ≤ p → p < 24 → jp_w (g' p)) (h0 : (g' 0).1 ≠ 0) (hE : ∀ q i, jT_i g' q i → jT_b g' lo' hi' rk' q i) (hN : ∀ q i, jT_i g' q i → (∃ q0 i0, jT_i g q0 i0 ∧ jT_c g q0 i0 = jT_c g' q i ∧ q = ψ1 q0 i0 ∧ i = ψ2 q0 i0) ∨ ((g (jT_c g' q i)).1 = 0 ∧ q = F1 (jT_c g' q i) ∧ i = F2 (jT_c g' q i))) (hX : ∀ p, 1 ≤ p → p < 24 → (g' p).1 ≠ 0 → ∃ q i, jT_i g' q i ∧ jT_c g' q i = p) (hK : ∀ p i, 0 ≤ p → p < 24 → (g' p).1 ≠ 0 → 0 ≤ i → i < (g' p).2.1 → ((g' p).1 = 1 ∨ 0 < i) → lo' p ≤ (g' p).2.2.1 i ∧ (g' p).2.2.1 i < hi' p) (hS : ∀ p i, 0 ≤ p → p < 24 → (g' p).1 = 2 → 1 ≤ i → i + 1 < (g' p).2.1 → (g' p).2.2.1 i < (g' p).2.2.1 (i + 1)) : jTs g' lo' hi' rk' := by
  refine ⟨⟨hw, h0, hE, fun q i q' i' a b e => ?_, hX, fun p i p0 p1 k i0 i1 z => ⟨(hK p i p0 p1 k i0 i1 z).1, Int.le_of_lt (hK p i p0 p1 k i0 i1 z).2⟩⟩, fun p i p0 p1 k i0 i1 z => (hK p i p0 p1 k i0 i1 z).2, hS⟩
  rcases hN q i a with ⟨q0, i0, x1, x2, x3, x4⟩ | ⟨x1, x2, x3⟩ <;> rcases hN q' i' b with ⟨q1, i1, y1, y2, y3, y4⟩ | ⟨y1, y2, y3⟩
  · obtain ⟨u1, u2⟩ := hT.1.2.2.2.1 q0 i0 q1 i1 x1 y1 (x2.trans (e.trans y2.symm))
    rw [x3, x4, y3, y4, u1, u2]
    exact ⟨rfl, rfl⟩
  · have := (hT.1.2.2.1 q0 i0 x1).1
    rw [x2, e] at this
    exact absurd y1 this
  · have := (hT.1.2.2.1 q1 i1 y1).1
    rw [y2, ← e] at this
    exact absurd x1 this
  · rw [e] at x2 x3
    exact ⟨x2.trans y2.symm, x3.trans y3.symm⟩
theorem jTs.e {g g' : Int → jp_C} {lo hi rk : Int → Int} (h : jTs g lo hi rk) (he : ∀ z, 0 ≤ z → z < 24 → jp_e (g z) (g' z)) : jTs g' lo hi rk := by
  have ed : ∀ q i, jT_i g' q i → jT_i g q i ∧ jT_c g q i = jT_c g' q i := fun q i hi => by
    obtain ⟨a, b, c, d⟩ := hi
    obtain ⟨e1, e2, e3⟩ := he q a.1 a.2
    exact ⟨⟨a, e1.trans b, c, by rw [e2]; exact d⟩, (e3 i c (by rw [e2]; exact d)).2⟩
  refine jTs_mk (F1 := id) (F2 := id) (ψ1 := fun q _ => q) (ψ2 := fun _ i => i) h (fun p p0 p1 => (h.1.1 p p0 p1).e (he p p0 p1)) (by rw [← (he 0 (by decide) (by decide)).1]; exact h.1.2.1) (fun q i hq => ?_) (fun q i hq => Or.inl ⟨q, i, (ed q i hq).1, (ed q i hq).2, rfl, rfl⟩) (fun p p0 p1 hp => ?_) (fun p i p0 p1 k i0 i1 z => ?_) (fun p i p0 p1 k i0 i1 => ?_)
  · obtain ⟨x1, x2⟩ := ed q i hq
    obtain ⟨y1, y2, y3, y4⟩ := h.1.2.2.1 q i x1
    have cb := jT_child h.1.1 x1
    obtain ⟨e1, e2, e3⟩ := he q hq.1.1 hq.1.2
    rw [x2] at y1 y2 y3 y4 cb
    refine ⟨by rw [← (he _ (by omega) cb.2).1]; exact y1, y2, ?_, ?_⟩
    · rw [← (e3 i hq.2.2.1 (by rw [e2]; exact hq.2.2.2)).1]; exact y3
    · rw [← e2]
      by_cases z : i + 1 = (g q).2.1
      · rw [if_pos z] at y4 ⊢; exact y4
      · rw [if_neg z] at y4 ⊢
        have := hq.2.2.2
        rw [← e2] at this
        rw [← (e3 (i + 1) (by have := hq.2.2.1; omega) (by omega)).1]; exact y4
  · rw [← (he p (by omega) p1).1] at hp
    obtain ⟨q, i, x1, x2⟩ := h.1.2.2.2.2.1 p p0 p1 hp
    obtain ⟨a, b, c, d⟩ := id x1
    obtain ⟨e1, e2, e3⟩ := he q a.1 a.2
    exact ⟨q, i, ⟨a, e1.symm.trans b, c, by rw [← e2]; exact d⟩, ((e3 i c d).2).symm.trans x2⟩
  · obtain ⟨e1, e2, e3⟩ := he p p0 p1
    rw [← e1] at k z
    rw [← e2] at i1
    rw [← (e3 i i0 i1).1]
    exact ⟨(h.1.2.2.2.2.2 p i p0 p1 k i0 i1 z).1, h.2.1 p i p0 p1 k i0 i1 z⟩
  · obtain ⟨e1, e2, e3⟩ := he p p0 p1
    rw [← e1] at k
    rw [← e2] at i1
    rw [← (e3 i (by omega) (by omega)).1, ← (e3 (i + 1) (by omega) i1).1]
    exact h.2.2 p i p0 p1 k i0 i1
theorem jcase (Q : Int → Prop) (a b : Int → Int) : ∃ f : Int → Int, ∀ z, (Q z → f z = a z) ∧ (¬ Q z → f z = b z) := ⟨fun z => @ite _ (Q z) (Classical.propDecidable _) (a z) (b z), fun z => ⟨fun h => if_pos h, fun h => if_neg h⟩⟩
/-- a key changed in the leaf that was found for it -/
theorem jTs_chg {g g' : Int → jp_C} {lo hi rk : Int → Int} {P : Int → Int} {L : Nat} {x : Int} (hT : jTs g lo hi rk) (hP0 : P 0 = 0) (hP : ∀ j : Int, 0 ≤ j → j < L → (g (P j)).1 = 2 ∧ ∃ k, jp_ci (g (P j)) x k ∧ (g (P j)).2.2.2 k = P (j + 1)) (hPb : ∀ j : Int, 0 ≤ j → j ≤ L → 0 ≤ P j ∧ P j < 24) (hl : (g (P L)).1 = 1) (ho : ∀ z, z ≠ P L → g' z = g z) (h1 : (g' (P L)).1 = 1) (hw : jp_w (g' (P L))) (hk : ∀ i, 0 ≤ i → i < (g' (P L)).2.1 → (g' (P L)).2.2.1 i = x ∨ ∃ j, 0 ≤ j ∧ j < (g (P L)).2.1 ∧ (g' (P L)).2.2.1 i = (g (P L)).2.2.1 j) : ∃ lo' hi', jTs g' lo' hi' rk := by
  obtain ⟨lo', hlo⟩ := jcase (fun z => ∃ j : Int, 0 ≤ j ∧ j ≤ L ∧ P j = z) (fun z => if lo z ≤ x then lo z else x) lo
  obtain ⟨hi', hhi⟩ := jcase (fun z => ∃ j : Int, 0 ≤ j ∧ j ≤ L ∧ P j = z) (fun z => if x < hi z then hi z else x + 1) hi
  have lole : ∀ z, lo' z ≤ lo z := fun z => by
    rcases Classical.em (∃ j : Int, 0 ≤ j ∧ j ≤ L ∧ P j = z) with e | e
    · rw [(hlo z).1 e]; split <;> omega
    · rw [(hlo z).2 e]; exact Int.le_refl _
  have hile : ∀ z, hi z ≤ hi' z := fun z => by
    rcases Classical.em (∃ j : Int, 0 ≤ j ∧ j ≤ L ∧ P j = z) with e | e
    · rw [(hhi z).1 e]; split <;> omega
    · rw [(hhi z).2 e]; exact Int.le_refl _
  have onl : ∀ z, (∃ j : Int, 0 ≤ j ∧ j ≤ L ∧ P j = z) → lo' z ≤ x ∧ x < hi' z := fun z e => by
    rw [(hlo z).1 e, (hhi z).1 e]
    constructor <;> split <;> omega
  have ed : ∀ q i, jT_i g' q i → jT_i g q i ∧ g' q = g q := fun q i h => by
    by_cases e : q = P L
    · exact absurd h.2.1 (by rw [e, h1]; decide)
    · have := ho q e
      obtain ⟨a, b, c, d⟩ := h
      rw [this] at b d
      exact ⟨⟨a, b, c, d⟩, this⟩
  have nf : ∀ z, (g' z).1 ≠ 0 ↔ (g z).1 ≠ 0 := fun z => by
    by_cases e : z = P L
    · rw [e, h1, hl]
    · rw [ho z e]
  refine ⟨lo', hi', jTs_mk (F1 := id) (F2 := id) (ψ1 := fun q _ => q) (ψ2 := fun _ i => i) hT (fun p p0 p1 => ?_) ((nf 0).2 hT.1.2.1) (fun q i hq => ?_) (fun q i hq => Or.inl ⟨q, i, (ed q i hq).1, ?_, rfl, rfl⟩) (fun p p0 p1 hp => ?_) (fun p i p0 p1 k i0 i1 z => ?_) (fun p i p0 p1 k i0 i1 => ?_)⟩
  · by_cases e : p = P L
    · rw [e]; exact hw
    · rw [ho p e]; exact hT.1.1 p p0 p1
  · obtain ⟨x1, x2⟩ := ed q i hq
    obtain ⟨y1, y2, y3, y4⟩ := hT.1.2.2.1 q i x1
    unfold jT_b
    show (g' ((g' q).2.2.2 i)).1 ≠ 0 ∧ rk ((g' q).2.2.2 i) < rk q ∧ _ ≤ lo' ((g' q).2.2.2 i) ∧ hi' ((g' q).2.2.2 i) ≤ _
    rw [x2]
    refine ⟨(nf _).2 y1, y2, ?_, ?_⟩
    · rcases Classical.em (∃ j : Int, 0 ≤ j ∧ j ≤ L ∧ P j = jT_c g q i) with e | e
      · obtain ⟨j, j0, j1, j2⟩ := id e
        have cb := jT_child hT.1.1 x1
        have jn : j ≠ 0 := fun z => by rw [z, hP0] at j2; omega
        obtain ⟨k2, k, kc, ke⟩ := hP (j - 1) (by omega) (by omega)
        rw [show j - 1 + 1 = j by omega, j2] at ke
        obtain ⟨u1, u2⟩ := hT.1.2.2.2.1 (P (j - 1)) k q i ⟨hPb _ (by omega) (by omega), k2, kc.1.1, kc.1.2⟩ x1 ke
        have lq := onl q ⟨j - 1, by omega, by omega, u1⟩
        rw [u1, u2] at kc
        have lc := (hlo (jT_c g q i)).1 e
        show _ ≤ lo' (jT_c g q i)
        rw [lc]
        have l2 := lole q
        have kc2 := kc.2.1
        have hq0 := hq.2.2.1
        by_cases z : i = 0
        · rw [if_pos z] at y3 ⊢
          split <;> omega
        · rw [if_neg z] at y3 ⊢
          have := kc2 (by omega)
          split <;> omega
      · show _ ≤ lo' (jT_c g q i)
        rw [(hlo (jT_c g q i)).2 e]
        have l2 := lole q
        by_cases z : i = 0
        · rw [if_pos z] at y3 ⊢; omega
        · rw [if_neg z] at y3 ⊢; omega
    · rcases Classical.em (∃ j : Int, 0 ≤ j ∧ j ≤ L ∧ P j = jT_c g q i) with e | e
      · obtain ⟨j, j0, j1, j2⟩ := id e
        have cb := jT_child hT.1.1 x1
        have jn : j ≠ 0 := fun z => by rw [z, hP0] at j2; omega
        obtain ⟨k2, k, kc, ke⟩ := hP (j - 1) (by omega) (by omega)
        rw [show j - 1 + 1 = j by omega, j2] at ke
        obtain ⟨u1, u2⟩ := hT.1.2.2.2.1 (P (j - 1)) k q i ⟨hPb _ (by omega) (by omega), k2, kc.1.1, kc.1.2⟩ x1 ke
        have lq := onl q ⟨j - 1, by omega, by omega, u1⟩
        rw [u1, u2] at kc
        show hi' (jT_c g q i) ≤ _
        rw [(hhi (jT_c g q i)).1 e]
        have l2 := hile q
        have kc2 := kc.2.2
        have hq1 := x1.2.2.2
        by_cases z : i + 1 = (g q).2.1
        · rw [if_pos z] at y4 ⊢
          split <;> omega
        · rw [if_neg z] at y4 ⊢
          have := kc2 (by omega)
          split <;> omega
      · show hi' (jT_c g q i) ≤ _
        rw [(hhi (jT_c g q i)).2 e]
        have l2 := hile q
        by_cases z : i + 1 = (g q).2.1
        · rw [if_pos z] at y4 ⊢; omega
        · rw [if_neg z] at y4 ⊢; omega
  · show (g q).2.2.2 i = (g' q).2.2.2 i
    rw [(ed q i hq).2]
  · obtain ⟨q, i, x1, x2⟩ := hT.1.2.2.2.2.1 p p0 p1 ((nf p).1 hp)
    have e : g' q = g q := ho q (fun z => by have := x1.2.1; rw [z, hl] at this; exact absurd this (by decide))
    refine ⟨q, i, ?_, ?_⟩
    · obtain ⟨a, b, c, d⟩ := x1
      exact ⟨a, by rw [e]; exact b, c, by rw [e]; exact d⟩
    · show (g' q).2.2.2 i = p
      rw [e]; exact x2
  · have a1 := lole p
    have a2 := hile p
    by_cases e : p = P L
    · subst e
      rcases hk i i0 i1 with e | ⟨j, j0, j1, j2⟩
      · rw [e]
        exact onl _ ⟨L, by omega, by omega, rfl⟩
      · rw [j2]
        have b1 := (hT.1.2.2.2.2.2 (P L) j p0 p1 (by rw [hl]; decide) j0 j1 (Or.inl hl)).1
        have b2 := hT.2.1 (P L) j p0 p1 (by rw [hl]; decide) j0 j1 (Or.inl hl)
        omega
    · rw [ho p e] at k i1 z ⊢
      have b1 := (hT.1.2.2.2.2.2 p i p0 p1 k i0 i1 z).1
      have b2 := hT.2.1 p i p0 p1 k i0 i1 z
      omega
  · by_cases e : p = P L
    · rw [e, h1] at k; exact absurd k (by decide)
    · rw [ho p e] at k i1 ⊢
      exact hT.2.2 p i p0 p1 k i0 i1
