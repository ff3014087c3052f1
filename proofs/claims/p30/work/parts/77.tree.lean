/-! THE TREE that pages make: g p is what the page p holds -/
def jT_i (g : Int → jp_C) (q i : Int) : Prop := (0 ≤ q ∧ q < 24) ∧ (g q).1 = 2 ∧ 0 ≤ i ∧ i < (g q).2.1
abbrev jT_c (g : Int → jp_C) (q i : Int) : Int := (g q).2.2.2 i
def jT (g : Int → jp_C) (lo hi rk : Int → Int) : Prop := (∀ p, 0 ≤ p → p < 24 → jp_w (g p)) ∧ (g 0).1 ≠ 0 ∧ (∀ q i, jT_i g q i → (g (jT_c g q i)).1 ≠ 0 ∧ rk (jT_c g q i) < rk q ∧ (if i = 0 then lo q else (g q).2.2.1 i) ≤ lo (jT_c g q i) ∧ hi (jT_c g q i) ≤ (if i + 1 = (g q).2.1 then hi q else (g q).2.2.1 (i + 1))) ∧ (∀ q i q' i', jT_i g q i → jT_i g q' i' → jT_c g q i = jT_c g q' i' → q = q' ∧ i = i') ∧ (∀ p, 1 ≤ p → p < 24 → (g p).1 ≠ 0 → ∃ q i, jT_i g q i ∧ jT_c g q i = p) ∧ ∀ p i, 0 ≤ p → p < 24 → (g p).1 ≠ 0 → 0 ≤ i → i < (g p).2.1 → ((g p).1 = 1 ∨ 0 < i) → lo p ≤ (g p).2.2.1 i ∧ (g p).2.2.1 i ≤ hi p
/-- as it stands between calls: no page without entries or children but the root, and the root with two children if any -/
def jT_z (g : Int → jp_C) : Prop := (∀ p, 1 ≤ p → p < 24 → (g p).1 ≠ 0 → 0 < (g p).2.1) ∧ ((g 0).1 = 2 → 2 ≤ (g 0).2.1)
theorem jT_child {g : Int → jp_C} (hw : ∀ p, 0 ≤ p → p < 24 → jp_w (g p)) {q i : Int} (h : jT_i g q i) : 1 ≤ jT_c g q i ∧ jT_c g q i < 24 := by
  obtain ⟨hq, hk, h0, h1⟩ := h
  obtain ⟨hb, w | w | ⟨_, _, _, w, _⟩⟩ := hw q hq.1 hq.2
  · omega
  · omega
  · exact (w i h0 h1).2
/-- unlike things in m places are at most m -/
theorem jT_pig : ∀ (m n : Nat) (f : Nat → Nat), (∀ i, i < n → f i < m) → (∀ i j, i < n → j < n → f i = f j → i = j) → n ≤ m := by
  intro m
  induction m with
  | zero =>
    intro n f h _
    cases n with
    | zero => exact Nat.le_refl _
    | succ n => exact absurd (h 0 (by omega)) (Nat.not_lt_zero _)
  | succ m ih =>
    intro n f h hi
    cases n with
    | zero => exact Nat.zero_le _
    | succ n =>
      have := ih n (fun i => if f i = m then f n else f i) (fun i hin => ?_) (fun i j hin hjn e => ?_)
      · omega
      · have h1 := h i (by omega)
        have h2 := h n (by omega)
        by_cases c : f i = m
        · rw [if_pos c]
          have : f n ≠ m := fun z => by have := hi i n (by omega) (by omega) (by omega); omega
          omega
        · rw [if_neg c]; omega
      · by_cases c1 : f i = m
        · by_cases c2 : f j = m
          · exact hi i j (by omega) (by omega) (by omega)
          · rw [if_pos c1, if_neg c2] at e
            have := hi n j (by omega) (by omega) e
            omega
        · by_cases c2 : f j = m
          · rw [if_neg c1, if_pos c2] at e
            have := hi i n (by omega) (by omega) e
            omega
          · rw [if_neg c1, if_neg c2] at e
            exact hi i j (by omega) (by omega) e
/-- a way down is no longer than there are pages -/
theorem jT_way {P : Int → Int} {rk : Int → Int} {L : Nat} (hP : ∀ i : Int, 0 ≤ i → i ≤ L → 0 ≤ P i ∧ P i < 24) (hr : ∀ i : Int, 0 ≤ i → i < L → rk (P (i + 1)) < rk (P i)) : L < 24 := by
  have mono : ∀ (k : Nat) (i : Int), 0 ≤ i → i + k ≤ L → 0 < k → rk (P (i + k)) < rk (P i) := by
    intro k
    induction k with
    | zero => intro i _ _ h; omega
    | succ k ih =>
      intro i h0 h1 _
      have e : i + ((k + 1 : Nat) : Int) = i + k + 1 := by omega
      rw [e]
      have a := hr (i + k) (by omega) (by omega)
      by_cases c : k = 0
      · subst c
        rw [show i + ((0 : Nat) : Int) = i by omega] at a ⊢
        exact a
      · have := ih i h0 (by omega) (by omega)
        omega
  have := jT_pig 24 (L + 1) (fun i => (P i).toNat) (fun i hi => by have := hP i (by omega) (by omega); omega) (fun i j hi hj e => by
    have h1 := hP i (by omega) (by omega)
    have h2 := hP j (by omega) (by omega)
    by_cases c : i < j
    · have := mono (j - i) i (by omega) (by omega) (by omega)
      rw [show (i : Int) + ((j - i : Nat) : Int) = j by omega] at this
      have e3 : P i = P j := by omega
      rw [e3] at this
      omega
    · by_cases c2 : j < i
      · have := mono (i - j) j (by omega) (by omega) (by omega)
        rw [show (j : Int) + ((i - j : Nat) : Int) = i by omega] at this
        have e3 : P i = P j := by omega
        rw [e3] at this
        omega
      · omega)
  omega
/-! a page seen: class and reference -/
def jq (G : jg_G) (p : Int) : Nat := if fr_fo G p = -1 then 9 + 2 * p.toNat else 71 + 2 * (fr_fo G p).toNat
theorem jN_seen {K : jc_K} {G : jg_G} {cv : Int → Nat} {N : Nat} {p : Int} (h : jN K G cv N) (hp : 0 ≤ p ∧ p < 24) : fc3 K p = some (K, jq G p) ∧ 0 < jq G p ∧ jp_k K (jq G p) (jh G (cv p) p) ∧ jc_i K (jq G p) 1 = cv p ∧ (0 ≤ fr_ro G p ∧ fr_ro G p < 54) ∧ jp_r G (fr_ro G p) (jh G (cv p) p) ∧ G 93 (67 * fr_ro G p + 1) = cv p ∧ fr_to G p = 0 ∧ jp_w (jh G (cv p) p) := by
  obtain ⟨⟨a1, a2, a3⟩, b, ⟨ca, c2, c3, c4⟩⟩ := h
  have e2 := jk_fc2 ca hp.1
  have r := fr_fo_r G p
  unfold jq fr_ro fr_to fc3
  rw [if_neg (by omega), if_pos hp.2, e2, jo_bs]
  dsimp only
  by_cases c : fr_fo G p = -1
  · have hno : ∀ f, 0 ≤ f → f < 4 → G 95 f ≠ p := fun f f0 f1 z => by
      have := fr_fo_is ca.2.2 hp.1 f0 f1 z
      omega
    obtain ⟨p1, ⟨p2, p2'⟩, p3, p4, p5⟩ := a1.2.2 p hp.1 hp.2
    have un := a3 p hp.1 hp.2
    have n5 := c4 p hp.1 hp.2 hno
    have n4 := (p4 un).trans n5
    obtain ⟨v, v1, v2, v3, v4, v5⟩ := p2
    have hv : v = cv p := by omega
    subst hv
    have e15 : fc15 K p = some (K, 0) := by
      unfold fc15
      rw [if_neg (by omega), if_neg (by omega), if_pos hp, p1.1, p1.2, if_pos un]
    rw [if_pos c, if_pos c, if_pos (by omega), e15, jo_bs]
    dsimp only
    rw [if_pos rfl, if_pos hp, if_neg (fun z => by
      have := z.2
      rw [show 4 + 2 * p + 1 = 5 + 2 * p by omega] at this
      exact this un)]
    refine ⟨rfl, by omega, ?_, by rw [p3.1, n5], by omega, v5, n4, rfl, v4⟩
    have := p3.2
    rw [n5, Int.toNat_natCast] at this
    exact this
  · have c0 : ¬ (fr_fo G p = -1 ∧ ¬ G 94 (4 + 2 * p) = G 94 (4 + 2 * p + 1)) := fun z => c z.1
    rw [if_neg c, if_neg c, if_neg c0, if_neg (show ¬ fr_fo G p < 0 by omega), if_neg (show ¬ 4 ≤ fr_fo G p by omega), if_pos (show 0 ≤ fr_fo G p ∧ fr_fo G p < 4 from ⟨by omega, r.2.1⟩)]
    obtain ⟨d1, d2, d3, d4⟩ := c2 (fr_fo G p) (by omega) r.2.1 (by rw [r.2.2 (by omega)]; exact hp.1)
    rw [r.2.2 (by omega)] at d1 d2 d3
    obtain ⟨v, v1, v2, v3, v4, v5⟩ := d2
    have hv : v = cv p := by omega
    subst hv
    refine ⟨rfl, by omega, ?_, by rw [d3.1, d1], by omega, v5, d1, rfl, v4⟩
    have := d3.2
    rw [d1, Int.toNat_natCast] at this
    exact this
theorem jN_kind {K : jc_K} {G : jg_G} {cv : Int → Nat} {N : Nat} {p : Int} (h : jN K G cv N) (hp : 0 ≤ p ∧ p < 24) : fc4 K p = some (K, (jh G (cv p) p).1) := by
  obtain ⟨s1, s2, s3, _⟩ := jN_seen h hp
  unfold fc4
  rw [s1, jo_bs]
  dsimp only
  rw [if_neg (by omega), if_pos s3.1, s3.2.1]
