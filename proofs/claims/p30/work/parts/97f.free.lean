/-! FREE PAGES; what a SPLIT makes of pages -/
def jfr (kd : Int → Int) (l v : Int) : Prop := (l ≤ v ∧ v ≤ 24) ∧ (v < 24 → kd v = 0) ∧ ∀ i, l ≤ i → i < v → kd i ≠ 0
theorem jfr.u {kd : Int → Int} {l v v' : Int} (h : jfr kd l v) (h' : jfr kd l v') : v = v' := by
  rcases Int.lt_trichotomy v v' with e | e | e
  · exact absurd (h.2.1 (by have := h'.1; omega)) (h'.2.2 v h.1.1 e)
  · exact e
  · exact absurd (h'.2.1 (by have := h.1; omega)) (h.2.2 v' h'.1.1 e)
theorem jfr.up {kd : Int → Int} {l v : Int} (h : jfr kd (l + 1) v) (h0 : kd l ≠ 0) : jfr kd l v := ⟨⟨by have := h.1; omega, h.1.2⟩, h.2.1, fun i i0 i1 => by
  by_cases e : i = l
  · rw [e]; exact h0
  · exact h.2.2 i (by omega) i1⟩
theorem jc_fr {kd : Int → Int} {K : jc_K} (hk : ∀ p, 0 ≤ p → p < 24 → fc4 K p = some (K, kd p)) (l1 : Int) : ∀ (m : Nat) (l : Int), 0 ≤ l → l ≤ 24 → 24 < l + m → ∃ v, jfr kd l v ∧ fc75_4 m K l1 l = some (K, if v = 24 then -1 else v)
  | 0, l, h0, h1, h2 => by omega
  | m + 1, l, h0, h1, h2 => by
    unfold fc75_4
    by_cases e : 24 ≤ l
    · rw [if_pos e]
      exact ⟨24, ⟨⟨by omega, by omega⟩, fun z => by omega, fun i _ _ => by omega⟩, by rw [if_pos rfl]⟩
    · rw [if_neg e, hk l h0 (by omega), jo_bs]
      dsimp only
      by_cases e2 : kd l = 0
      · rw [if_pos e2]
        exact ⟨l, ⟨⟨by omega, by omega⟩, fun _ => e2, fun i _ _ => by omega⟩, by rw [if_neg (by omega)]⟩
      · rw [if_neg e2, if_pos (by omega)]
        obtain ⟨v, v1, v2⟩ := jc_fr hk l1 m (l + 1) (by omega) (by omega) (by omega)
        exact ⟨v, v1.up e2, v2⟩
theorem jc_fr75 {kd : Int → Int} {K : jc_K} (hk : ∀ p, 0 ≤ p → p < 24 → fc4 K p = some (K, kd p)) {l : Int} (h0 : 0 ≤ l) (h1 : l < 24) : ∃ v, jfr kd (l + 1) v ∧ fc75 K l = some (K, if v = 24 then -1 else v) := by
  unfold fc75
  rw [if_pos (by omega)]
  exact jc_fr hk l jo_N (l + 1) (by omega) (by omega) (by unfold jo_N; omega)
theorem jr_fr {kd : Int → Int} {G : jg_G} (hr : ∀ p, 0 ≤ p → p < 24 → (0 ≤ fr_ro G p ∧ fr_ro G p < 54) ∧ G 93 (67 * fr_ro G p) = kd p) (l1 : Int) : ∀ (m : Nat) (l : Int), 0 ≤ l → l ≤ 24 → 24 < l + m → ∃ v, jfr kd l v ∧ fo176_2 m G l1 l = some (G, v)
  | 0, l, h0, h1, h2 => by omega
  | m + 1, l, h0, h1, h2 => by
    unfold fo176_2
    by_cases e : 24 ≤ l
    · rw [if_pos e]
      exact ⟨24, ⟨⟨by omega, by omega⟩, fun z => by omega, fun i _ _ => by omega⟩, by rw [show l = 24 by omega]⟩
    · obtain ⟨r1, r2⟩ := hr l h0 (by omega)
      rw [if_neg e, if_pos ⟨h0, by omega⟩, jo_le, if_pos (by omega), r2]
      by_cases e2 : kd l = 0
      · rw [if_pos e2]
        exact ⟨l, ⟨⟨by omega, by omega⟩, fun _ => e2, fun i _ _ => by omega⟩, rfl⟩
      · rw [if_neg e2, if_pos (by omega)]
        obtain ⟨v, v1, v2⟩ := jr_fr hr l1 m (l + 1) (by omega) (by omega) (by omega)
        exact ⟨v, v1.up e2, v2⟩
theorem jr_fr176 {kd : Int → Int} {G : jg_G} (hr : ∀ p, 0 ≤ p → p < 24 → (0 ≤ fr_ro G p ∧ fr_ro G p < 54) ∧ G 93 (67 * fr_ro G p) = kd p) {l : Int} (h0 : 0 ≤ l) (h1 : l ≤ 24) : ∃ v, jfr kd l v ∧ fo176 G l = some (G, v) := by
  unfold fo176
  exact jr_fr hr l jo_N l h0 h1 (by unfold jo_N; omega)
theorem jB.kinds {K : jc_K} {G : jg_G} {N x q : Nat} (h : jB K G N x q) (p : Int) (p0 : 0 ≤ p) (p1 : p < 24) : fc4 K p = some (K, (jh G N p).1) := by
  have := jN_kind h.1.1 ⟨p0, p1⟩
  have hs : jl_s G (jg_u G 92 12 N) := ⟨fun m a b j => jg_uN (by omega), fun j _ => jg_uN (by decide)⟩
  rw [this, hs.h, jh_v]
theorem jY.rows {K : jc_K} {G : jg_G} {N x : Nat} (h : jY K G N x) (p : Int) (p0 : 0 ≤ p) (p1 : p < 24) : (0 ≤ fr_ro G p ∧ fr_ro G p < 54) ∧ G 93 (67 * fr_ro G p) = (jh G N p).1 := by
  obtain ⟨_, _, _, _, v5, v6, _⟩ := jN_seen h.1 ⟨p0, p1⟩
  refine ⟨v5, ?_⟩
  rw [v6.1, jh_v]
theorem jp_part_w {c : jp_C} {lo hi : Int} (hw : jp_w c) (hk : c.1 ≠ 0) (h0 : 0 ≤ lo) (h1 : lo ≤ hi) (h2 : hi ≤ c.2.1) : jp_w (jp_part c lo hi) := by
  obtain ⟨⟨b0, b1⟩, w⟩ := id hw
  unfold jp_part
  refine ⟨⟨by show 0 ≤ hi - lo; omega, by show hi - lo ≤ 32; omega⟩, ?_⟩
  rcases w with w | ⟨w1, w2, w3⟩ | ⟨w1, w2, w3, w4, w5⟩
  · exact absurd w.1 hk
  · refine Or.inr (Or.inl ⟨w1, fun i i0 i1 => ?_, fun i i0 i1 => ?_⟩)
    · show (0 ≤ (if c.1 = 2 ∧ i = 0 then 0 else c.2.2.1 (i + lo)) ∧ (if c.1 = 2 ∧ i = 0 then 0 else c.2.2.1 (i + lo)) < 32) ∧ 0 ≤ c.2.2.2 (i + lo) ∧ c.2.2.2 (i + lo) < 1000
      rw [if_neg (by omega)]
      exact w2 (i + lo) (by omega) (by show i + lo < c.2.1; have : i < hi - lo := i1; omega)
    · show (if c.1 = 2 ∧ i = 0 then 0 else c.2.2.1 (i + lo)) < (if c.1 = 2 ∧ i + 1 = 0 then 0 else c.2.2.1 (i + 1 + lo))
      have : i + 1 < hi - lo := i1
      rw [if_neg (by omega), if_neg (by omega), show i + 1 + lo = i + lo + 1 by omega]
      exact w3 (i + lo) (by omega) (by omega)
  · refine Or.inr (Or.inr ⟨w1, by show hi - lo ≤ 4; omega, fun _ => ?_, fun i i0 i1 => ?_, fun i i0 i1 => ?_⟩)
    · show (if c.1 = 2 ∧ (0 : Int) = 0 then 0 else c.2.2.1 (0 + lo)) = 0
      rw [if_pos ⟨w1, rfl⟩]
    · have i1' : i < hi - lo := i1
      obtain ⟨x1, x2⟩ := w4 (i + lo) (by omega) (by omega)
      refine ⟨?_, x2⟩
      show 0 ≤ (if c.1 = 2 ∧ i = 0 then 0 else c.2.2.1 (i + lo)) ∧ (if c.1 = 2 ∧ i = 0 then 0 else c.2.2.1 (i + lo)) < 32
      split
      · omega
      · exact x1
    · have i1' : i + 1 < hi - lo := i1
      show (if c.1 = 2 ∧ i = 0 then 0 else c.2.2.1 (i + lo)) ≤ (if c.1 = 2 ∧ i + 1 = 0 then 0 else c.2.2.1 (i + 1 + lo))
      rw [if_neg (show ¬ (c.1 = 2 ∧ i + 1 = 0) by omega), show i + 1 + lo = i + lo + 1 by omega]
      have x1 := (w4 (i + lo + 1) (by omega) (by omega)).1
      split
      · exact x1.1
      · exact w5 (i + lo) (by omega) (by omega)
theorem jp_ins_w {c : jp_C} {k x y : Int} (hw : jp_w c) (hk : c.1 = 2) (h4 : c.2.1 < 4) (k0 : 0 ≤ k) (k1 : k ≤ c.2.1) (hx : 0 ≤ x ∧ x < 32) (hy : 1 ≤ y ∧ y < 24) (hz : k = 0 → x = 0) (hl : 0 < k → c.2.2.1 (k - 1) ≤ x) (hr : k < c.2.1 → x ≤ c.2.2.1 k) : jp_w (jp_ins c k x y) := by
  obtain ⟨⟨b0, b1⟩, w⟩ := id hw
  obtain ⟨w1, w2, w3, w4, w5⟩ := (w.resolve_left (fun z => by omega)).resolve_left (fun z => by omega)
  unfold jp_ins
  refine ⟨⟨by show 0 ≤ c.2.1 + 1; omega, by show c.2.1 + 1 ≤ 32; omega⟩, Or.inr (Or.inr ⟨w1, by show c.2.1 + 1 ≤ 4; omega, fun _ => ?_, fun i i0 i1 => ?_, fun i i0 i1 => ?_⟩)⟩
  · show (if (0 : Int) < k then c.2.2.1 0 else if (0 : Int) = k then x else c.2.2.1 (0 - 1)) = 0
    by_cases e : 0 < k
    · rw [if_pos e]; exact w3 (by omega)
    · rw [if_neg e, if_pos (by omega)]; exact hz (by omega)
  · have i1' : i < c.2.1 + 1 := i1
    show (0 ≤ (if i < k then c.2.2.1 i else if i = k then x else c.2.2.1 (i - 1)) ∧ (if i < k then c.2.2.1 i else if i = k then x else c.2.2.1 (i - 1)) < 32) ∧ 1 ≤ (if i < k then c.2.2.2 i else if i = k then y else c.2.2.2 (i - 1)) ∧ (if i < k then c.2.2.2 i else if i = k then y else c.2.2.2 (i - 1)) < 24
    by_cases e : i < k
    · simp only [if_pos e]; exact w4 i i0 (by omega)
    · by_cases e2 : i = k
      · simp only [if_neg e, if_pos e2]; exact ⟨hx, hy⟩
      · simp only [if_neg e, if_neg e2]; exact w4 (i - 1) (by omega) (by omega)
  · have i1' : i + 1 < c.2.1 + 1 := i1
    show (if i < k then c.2.2.1 i else if i = k then x else c.2.2.1 (i - 1)) ≤ (if i + 1 < k then c.2.2.1 (i + 1) else if i + 1 = k then x else c.2.2.1 (i + 1 - 1))
    by_cases e : i + 1 < k
    · rw [if_pos (by omega), if_pos e]; exact w5 i i0 (by omega)
    · by_cases e2 : i + 1 = k
      · rw [if_pos (by omega), if_neg e, if_pos e2]
        have := hl (by omega)
        rw [← e2, show i + 1 - 1 = i by omega] at this
        exact this
      · rw [if_neg e, if_neg e2, if_neg (by omega)]
        by_cases e3 : i = k
        · rw [if_pos e3, show i + 1 - 1 = k by omega]; exact hr (by omega)
        · rw [if_neg e3]
          have := w5 (i - 1) (by omega) (by omega)
          rw [show i - 1 + 1 = i + 1 - 1 by omega] at this
          exact this
def jp_2 : jp_C := (2, 0, (fun _ => 0), fun _ => 0)
theorem jp_2_w : jp_w jp_2 := ⟨⟨Int.le_refl _, by decide⟩, Or.inr (Or.inr ⟨rfl, by decide, fun z => absurd z (by decide), fun i i0 i1 => by have : i < 0 := i1; omega, fun i i0 i1 => by have : i + 1 < 0 := i1; omega⟩)⟩
/-- the root behind its SPLIT -/
def jp_rt (a b key : Int) : jp_C := jp_ins (jp_ins jp_2 0 0 a) 1 key b
theorem jp_rt_w {a b key : Int} (ha : 1 ≤ a ∧ a < 24) (hb : 1 ≤ b ∧ b < 24) (hk : 0 ≤ key ∧ key < 32) : jp_w (jp_ins jp_2 0 0 a) ∧ jp_w (jp_rt a b key) := by
  have w1 : jp_w (jp_ins jp_2 0 0 a) := jp_ins_w jp_2_w rfl (by decide) (by decide) (by decide) (by decide) ha (fun _ => rfl) (fun z => absurd z (by decide)) (fun z => absurd z (by decide))
  exact ⟨w1, jp_ins_w w1 rfl (show (0 : Int) + 1 < 4 by decide) (by decide) (show (1 : Int) ≤ 0 + 1 by decide) hk hb (fun z => absurd z (by decide)) (fun _ => hk.1) (fun z => absurd z (show ¬ (1 : Int) < 0 + 1 by decide))⟩
