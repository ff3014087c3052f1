/-! ROWS of the reference's store: the same of them -/
/-- all but the row r is as it was -/
def jr_o (G G' : jg_G) (r : Int) : Prop := ∀ n j, ¬ (n = 93 ∧ 67 * r ≤ j ∧ j < 67 * r + 67) → G' n j = G n j
theorem jr_o.refl (G : jg_G) (r : Int) : jr_o G G r := fun _ _ _ => rfl
theorem jr_o.trans {G G' G'' : jg_G} {r : Int} (h : jr_o G G' r) (h2 : jr_o G' G'' r) : jr_o G G'' r := fun n j e => (h2 n j e).trans (h n j e)
theorem jr_o.n {G G' : jg_G} {r : Int} (h : jr_o G G' r) {n : Nat} (hn : n ≠ 93) (j : Int) : G' n j = G n j := h n j (fun z => hn z.1)
theorem jr_o.r {G G' : jg_G} {r q : Int} {c : jp_C} (h : jr_o G G' r) (hq : q ≠ r) (hc : c.2.1 ≤ 32) (h2 : jp_r G q c) : jp_r G' q c := by
  obtain ⟨a, b, e⟩ := h2
  refine ⟨?_, ?_, fun i i0 i1 => ⟨?_, ?_⟩⟩
  · rw [h 93 _ (by omega)]; exact a
  · rw [h 93 _ (by omega)]; exact b
  · rw [h 93 _ (by omega)]; exact (e i i0 i1).1
  · rw [h 93 _ (by omega)]; exact (e i i0 i1).2
theorem jr_o.num {G G' : jg_G} {r q : Int} (h : jr_o G G' r) (hq : q ≠ r) : G' 93 (67 * q + 1) = G 93 (67 * q + 1) := h 93 _ (by omega)
theorem jr_copies {G : jg_G} {a b : Int} {c : jp_C} (hc : c.2.1 ≤ 32) (h : jp_r G a c) : jr_o G (fr_copies G a b) b ∧ jp_r (fr_copies G a b) b c ∧ fr_copies G a b 93 (67 * b + 1) = G 93 (67 * a + 1) := by
  have e : ∀ x, 0 ≤ x → x < 67 → fr_copies G a b 93 (67 * b + x) = G 93 (67 * a + x) := fun x x0 x1 => by
    unfold fr_copies
    rw [if_pos ⟨rfl, by omega, by omega⟩]
    congr 1
    omega
  refine ⟨fun n j hn => if_neg hn, ⟨?_, ?_, fun i i0 i1 => ⟨?_, ?_⟩⟩, e 1 (by decide) (by decide)⟩
  · have := e 0 (by decide) (by decide)
    rw [Int.add_zero, Int.add_zero] at this
    rw [this]; exact h.1
  · rw [e 2 (by decide) (by decide)]; exact h.2.1
  · rw [show 67 * b + 3 + 2 * i = 67 * b + (3 + 2 * i) by omega, e _ (by omega) (by omega), show 67 * a + (3 + 2 * i) = 67 * a + 3 + 2 * i by omega]
    exact (h.2.2 i i0 i1).1
  · rw [show 67 * b + 4 + 2 * i = 67 * b + (4 + 2 * i) by omega, e _ (by omega) (by omega), show 67 * a + (4 + 2 * i) = 67 * a + 4 + 2 * i by omega]
    exact (h.2.2 i i0 i1).2
theorem jr_empties {G : jg_G} {a k : Int} : jr_o G (fr_empties G a k) a ∧ jp_r (fr_empties G a k) a (k, 0, (fun _ => 0), fun _ => 0) := by
  refine ⟨fun n j hn => if_neg hn, ?_, ?_, fun i i0 i1 => ?_⟩
  · unfold fr_empties
    rw [if_pos ⟨rfl, by omega, by omega⟩, if_pos rfl]
  · unfold fr_empties
    rw [if_pos ⟨rfl, by omega, by omega⟩, if_neg (by omega)]
  · have i1 : i < 0 := i1
    omega
theorem jr_puts {G : jg_G} {r k x y : Int} {c : jp_C} (h : jp_r G r c) (h0 : 0 ≤ k) (h1 : k ≤ c.2.1) (h2 : c.2.1 < 32) : jr_o G (fr_puts G r k x y) r ∧ jp_r (fr_puts G r k x y) r (jp_ins c k x y) ∧ fr_puts G r k x y 93 (67 * r + 1) = G 93 (67 * r + 1) := by
  have hc := h.2.1
  refine ⟨fun n j hn => ?_, ⟨?_, ?_, fun i i0 i1 => ?_⟩, ?_⟩
  · unfold fr_puts
    rw [hc, if_neg (by omega), if_neg (by omega), if_neg (by omega), if_neg (by omega)]
  · unfold fr_puts
    rw [hc, if_neg (by omega), if_neg (by omega), if_neg (by omega), if_neg (by omega)]
    exact h.1
  · unfold fr_puts
    rw [if_pos ⟨rfl, rfl⟩, hc]
    rfl
  · have i1 : i < c.2.1 + 1 := i1
    show fr_puts G r k x y 93 (67 * r + 3 + 2 * i) = (if i < k then c.2.2.1 i else if i = k then x else c.2.2.1 (i - 1)) ∧ fr_puts G r k x y 93 (67 * r + 4 + 2 * i) = (if i < k then c.2.2.2 i else if i = k then y else c.2.2.2 (i - 1))
    unfold fr_puts
    rw [hc]
    by_cases c1 : i < k
    · have := h.2.2 i i0 (by omega)
      rw [if_pos c1, if_pos c1, if_neg (by omega), if_neg (by omega), if_neg (by omega), if_neg (by omega), if_neg (by omega), if_neg (by omega), if_neg (by omega), if_neg (by omega)]
      exact this
    · rw [if_neg c1, if_neg c1]
      by_cases c2 : i = k
      · rw [if_pos c2, if_pos c2, if_neg (by omega), if_pos ⟨rfl, by omega⟩, if_neg (by omega), if_neg (by omega), if_pos ⟨rfl, by omega⟩]
        exact ⟨rfl, rfl⟩
      · have := h.2.2 (i - 1) (by omega) (by omega)
        rw [if_neg c2, if_neg c2, if_neg (by omega), if_neg (by omega), if_neg (by omega), if_pos ⟨rfl, by omega, by omega⟩, if_neg (by omega), if_neg (by omega), if_neg (by omega), if_pos ⟨rfl, by omega, by omega⟩]
        rw [show 67 * r + 3 + 2 * i - 2 = 67 * r + 3 + 2 * (i - 1) by omega, show 67 * r + 4 + 2 * i - 2 = 67 * r + 4 + 2 * (i - 1) by omega]
        exact this
  · unfold fr_puts
    rw [hc, if_neg (by omega), if_neg (by omega), if_neg (by omega), if_neg (by omega)]
theorem jr_drops {G : jg_G} {r k : Int} {c : jp_C} (h : jp_r G r c) (h0 : 0 ≤ k) (h1 : k < c.2.1) (h2 : c.2.1 ≤ 32) : jr_o G (fr_drops G r k) r ∧ jp_r (fr_drops G r k) r (jp_del c k) ∧ fr_drops G r k 93 (67 * r + 1) = G 93 (67 * r + 1) := by
  have hc := h.2.1
  refine ⟨fun n j hn => ?_, ⟨?_, ?_, fun i i0 i1 => ?_⟩, ?_⟩
  · unfold fr_drops
    rw [hc, if_neg (by omega), if_neg (by omega), if_neg (by omega)]
  · unfold fr_drops
    rw [hc, if_neg (by omega), if_neg (by omega), if_neg (by omega)]
    exact h.1
  · unfold fr_drops
    rw [if_pos ⟨rfl, rfl⟩, hc]
    rfl
  · have i1 : i < c.2.1 - 1 := i1
    show fr_drops G r k 93 (67 * r + 3 + 2 * i) = (if i < k then c.2.2.1 i else c.2.2.1 (i + 1)) ∧ fr_drops G r k 93 (67 * r + 4 + 2 * i) = (if i < k then c.2.2.2 i else c.2.2.2 (i + 1))
    unfold fr_drops
    rw [hc]
    by_cases c1 : i < k
    · have := h.2.2 i i0 (by omega)
      rw [if_pos c1, if_pos c1, if_neg (by omega), if_neg (by omega), if_neg (by omega), if_neg (by omega), if_neg (by omega), if_neg (by omega)]
      exact this
    · have := h.2.2 (i + 1) (by omega) (by omega)
      rw [if_neg c1, if_neg c1, if_neg (by omega), if_neg (by omega), if_pos ⟨rfl, by omega, by omega⟩, if_neg (by omega), if_neg (by omega), if_pos ⟨rfl, by omega, by omega⟩]
      rw [show 67 * r + 3 + 2 * i + 2 = 67 * r + 3 + 2 * (i + 1) by omega, show 67 * r + 4 + 2 * i + 2 = 67 * r + 4 + 2 * (i + 1) by omega]
      exact this
  · unfold fr_drops
    rw [hc, if_neg (by omega), if_neg (by omega), if_neg (by omega)]
theorem jr_lays {G : jg_G} {r k x y : Int} {c : jp_C} (h : jp_r G r c) (h0 : 0 ≤ k) (h1 : k < c.2.1) (h2 : c.2.1 ≤ 32) : jr_o G (jg_u (jg_u G 93 (67 * r + 3 + 2 * k) x) 93 (67 * r + 4 + 2 * k) y) r ∧ jp_r (jg_u (jg_u G 93 (67 * r + 3 + 2 * k) x) 93 (67 * r + 4 + 2 * k) y) r (c.1, c.2.1, (fun i => if i = k then x else c.2.2.1 i), fun i => if i = k then y else c.2.2.2 i) ∧ jg_u (jg_u G 93 (67 * r + 3 + 2 * k) x) 93 (67 * r + 4 + 2 * k) y 93 (67 * r + 1) = G 93 (67 * r + 1) := by
  have u : ∀ j, j ≠ 67 * r + 3 + 2 * k → j ≠ 67 * r + 4 + 2 * k → jg_u (jg_u G 93 (67 * r + 3 + 2 * k) x) 93 (67 * r + 4 + 2 * k) y 93 j = G 93 j := fun j a b => (jg_uI b).trans (jg_uI a)
  refine ⟨fun n j hn => ?_, ⟨(u _ (by omega) (by omega)).trans h.1, (u _ (by omega) (by omega)).trans h.2.1, fun i i0 i1 => ?_⟩, u _ (by omega) (by omega)⟩
  · by_cases e : n = 93
    · subst e
      exact u j (by omega) (by omega)
    · exact (jg_uN e).trans (jg_uN e)
  · show _ = (if i = k then x else c.2.2.1 i) ∧ _ = (if i = k then y else c.2.2.2 i)
    by_cases e : i = k
    · rw [e, if_pos rfl, if_pos rfl, jg_uI (by omega), jg_uH, jg_uH]
      exact ⟨rfl, rfl⟩
    · rw [if_neg e, if_neg e, u _ (by omega) (by omega), u _ (by omega) (by omega)]
      exact h.2.2 i i0 i1
theorem jr_pl {G : jg_G} {r x : Int} {c : jp_C} (h : jp_r G r c) (h0 : 0 ≤ c.2.1) (h2 : c.2.1 ≤ 32) : ∃ k, jp_pl c x k ∧ fr_pl G r x = if k < c.2.1 ∧ c.2.2.1 k = x then k else -1 - k := by
  have hc := h.2.1
  have := fr_scan_sp G r x 33 0 (by omega) (by omega) (by omega)
  rw [hc, show fr_scan G r x 33 0 = fr_at G r x from rfl] at this
  refine ⟨fr_at G r x, ⟨⟨this.1, this.2.1⟩, fun i i0 i1 => ?_, fun i1 => ?_⟩, ?_⟩
  · rw [← (h.2.2 i i0 (by omega)).1]
    exact this.2.2.1 i i0 i1
  · rw [← (h.2.2 _ this.1 i1).1]
    exact this.2.2.2 i1
  · unfold fr_pl
    rw [hc]
    by_cases c1 : fr_at G r x < c.2.1
    · rw [(h.2.2 _ this.1 c1).1]
    · rw [if_neg (fun z => c1 z.1), if_neg (fun z => c1 z.1)]
theorem jr_ch {G : jg_G} {r x : Int} {c : jp_C} (h : jp_r G r c) (h0 : 0 < c.2.1) (h2 : c.2.1 ≤ 32) : ∃ k, jp_ci c x k ∧ fr_ch G r x = c.2.2.2 k := by
  have hc := h.2.1
  have := fr_cs_sp G r x 33 0 (by omega) (by omega)
  rw [hc, show fr_cs G r x 33 0 = fr_ct G r x from rfl] at this
  have l := this.2.1 h0
  refine ⟨fr_ct G r x, ⟨⟨this.1, l⟩, fun i1 => ?_, fun i1 => ?_⟩, (h.2.2 _ this.1 l).2⟩
  · rw [← (h.2.2 _ this.1 l).1]
    exact this.2.2.2.1 _ i1 (Int.le_refl _)
  · rw [← (h.2.2 _ (by have := this.1; omega) i1).1]
    exact this.2.2.2.2 i1
theorem jr_cp {G : jg_G} {r p k : Int} {c : jp_C} (h : jp_r G r c) (h2 : c.2.1 ≤ 32) (h0 : 0 ≤ k) (h1 : k < c.2.1) (hk : c.2.2.2 k = p) (hu : ∀ i, 0 ≤ i → i < c.2.1 → c.2.2.2 i = p → i = k) : fr_cp G r p = k := by
  have hc := h.2.1
  unfold fr_cp
  rcases fr_cps_sp G r p 33 0 0 (by omega) (by omega) with ⟨e1, e2⟩ | ⟨e1, e2, e3⟩
  · rw [hc] at e2
    exact absurd ((h.2.2 k h0 h1).2.trans hk) (e2 k h0 h1)
  · rw [hc] at e2
    rw [(h.2.2 _ e1 e2).2] at e3
    exact hu _ e1 e2 e3
/-- takesPart: the part, as it stands -/
theorem jr_part {G : jg_G} {a b lo hi : Int} {c : jp_C} (h : jp_r G a c) (ha : 0 ≤ a ∧ a < 4553) (hb : 0 ≤ b ∧ b < 4553) (hab : a ≠ b) (h0 : 0 ≤ lo) (h1 : lo ≤ hi) (h2 : hi ≤ c.2.1) (h3 : c.2.1 ≤ 32) : ∃ G', fo155 G a b lo hi = some (G', 0) ∧ jr_o G G' b ∧ jp_r G' b (c.1, hi - lo, (fun i => c.2.2.1 (i + lo)), fun i => c.2.2.2 (i + lo)) := by
  have key : ∀ (m : Nat) (i : Int) (G1 : jg_G), lo ≤ i → i ≤ hi → hi < i + m → jr_o G G1 b → G1 93 (67 * b) = c.1 → (∀ j, 0 ≤ j → j < i - lo → G1 93 (67 * b + 3 + 2 * j) = c.2.2.1 (j + lo) ∧ G1 93 (67 * b + 4 + 2 * j) = c.2.2.2 (j + lo)) → ∃ G', fo155_13 m G1 a b lo hi i = some (G', 0) ∧ jr_o G G' b ∧ jp_r G' b (c.1, hi - lo, (fun i => c.2.2.1 (i + lo)), fun i => c.2.2.2 (i + lo)) := by
    intro m
    induction m with
    | zero => intro i G1 _ _ _; omega
    | succ m ih =>
      intro i G1 a0 a1 a2 f k hj
      unfold fo155_13
      by_cases c1 : hi ≤ i
      · have ei : i = hi := by omega
        rw [if_pos c1, if_pos ⟨by omega, by omega⟩, if_pos ⟨by omega, by omega⟩]
        refine ⟨_, rfl, fun n j hn => ?_, ?_, jg_uH, fun j j0 j1 => ?_⟩
        · by_cases e : n = 93
          · subst e
            rw [jg_uI (by omega)]
            exact f _ _ hn
          · rw [jg_uN e]
            exact f _ _ hn
        · rw [jg_uI (by omega)]
          exact k
        · have j1 : j < hi - lo := j1
          rw [jg_uI (by omega), jg_uI (by omega)]
          exact hj j j0 (by omega)
      · have hr := f.r hab h3 h
        have hi' := hr.2.2 i (by omega) (by omega)
        rw [if_neg c1, if_pos ⟨by omega, by omega⟩, if_pos ⟨by omega, by omega⟩, if_pos ⟨by omega, by omega⟩, if_pos ⟨by omega, by omega⟩, if_pos (by omega), hi'.1, hi'.2]
        have u : ∀ j x y, j ≠ 67 * b + 3 + 2 * (i - lo) → j ≠ 67 * b + 4 + 2 * (i - lo) → jg_u (jg_u G1 93 (67 * b + 3 + 2 * (i - lo)) x) 93 (67 * b + 4 + 2 * (i - lo)) y 93 j = G1 93 j := fun j x y p q => (jg_uI q).trans (jg_uI p)
        refine ih (i + 1) _ (by omega) (by omega) (by omega) (fun n j hn => ?_) ((u _ _ _ (by omega) (by omega)).trans k) (fun j j0 j1 => ?_)
        · by_cases e : n = 93
          · subst e
            rw [u j _ _ (by omega) (by omega)]
            exact f _ _ hn
          · rw [jg_uN e, jg_uN e]
            exact f _ _ hn
        · by_cases e : j = i - lo
          · rw [e, jg_uI (by omega), jg_uH, jg_uH, show i - lo + lo = i by omega]
            exact ⟨rfl, rfl⟩
          · rw [u _ _ _ (by omega) (by omega), u _ _ _ (by omega) (by omega)]
            exact hj j j0 (by omega)
  unfold fo155
  rw [if_pos ⟨by omega, by omega⟩, if_pos ⟨by omega, by omega⟩, h.1, jo_Ne]
  obtain ⟨e1, e2, _⟩ := jr_empties (G := G) (a := b) (k := c.1)
  exact key 4000 lo _ (Int.le_refl _) h1 (by omega) e1 e2 (fun j j0 j1 => by omega)
