/-! PAGES, further: what a change makes of a leaf; children; parts -/
theorem jp_ge {c : jp_C} (hs : ∀ i, 0 ≤ i → i + 1 < c.2.1 → c.2.2.1 i < c.2.2.1 (i + 1)) (hb : ∀ i, 0 ≤ i → i < c.2.1 → 0 ≤ c.2.2.1 i) : ∀ (n : Nat), (n : Int) < c.2.1 → (n : Int) ≤ c.2.2.1 n := by
  intro n
  induction n with
  | zero => intro h; exact hb 0 (by omega) h
  | succ n ih =>
    intro h
    have := ih (by omega)
    have h2 := hs n (by omega) (by omega)
    have e : ((n + 1 : Nat) : Int) = (n : Int) + 1 := by omega
    rw [e]
    omega
theorem jp_le {c : jp_C} (hs : ∀ i, 0 ≤ i → i + 1 < c.2.1 → c.2.2.1 i < c.2.2.1 (i + 1)) (hb : ∀ i, 0 ≤ i → i < c.2.1 → c.2.2.1 i < 32) : ∀ (n : Nat), (n : Int) < c.2.1 → c.2.2.1 (c.2.1 - 1 - n) ≤ 31 - n := by
  intro n
  induction n with
  | zero => intro h; have := hb (c.2.1 - 1) (by omega) (by omega); simpa using (by omega : c.2.2.1 (c.2.1 - 1) ≤ 31)
  | succ n ih =>
    intro h
    have h1 := ih (by omega)
    have h2 := hs (c.2.1 - 1 - (n + 1 : Nat)) (by omega) (by omega)
    have e : c.2.1 - 1 - ((n + 1 : Nat) : Int) + 1 = c.2.1 - 1 - n := by omega
    rw [e] at h2
    omega
theorem jp_room {c : jp_C} {x k : Int} (hw : jp_w c) (hk : c.1 = 1) (hp : jp_pl c x k) (hn : ¬ (k < c.2.1 ∧ c.2.2.1 k = x)) (hx : 0 ≤ x ∧ x < 32) : c.2.1 < 32 := by
  obtain ⟨hb, h⟩ := hw
  rcases h with h | ⟨h1, h2, h3⟩ | h
  · omega
  · by_cases c32 : c.2.1 < 32
    · exact c32
    · exfalso
      have e32 : c.2.1 = 32 := by omega
      have ge : ∀ i, 0 ≤ i → i < 32 → i ≤ c.2.2.1 i := fun i i0 i1 => by
        have := jp_ge h3 (fun i a b => (h2 i a b).1.1) i.toNat (by omega)
        rw [show ((i.toNat : Nat) : Int) = i by omega] at this
        exact this
      have le : ∀ i, 0 ≤ i → i < 32 → c.2.2.1 i ≤ i := fun i i0 i1 => by
        have := jp_le h3 (fun i a b => (h2 i a b).1.2) (31 - i).toNat (by omega)
        rw [show c.2.1 - 1 - (((31 - i).toNat : Nat) : Int) = i by omega] at this
        omega
      obtain ⟨⟨p0, p1⟩, p2, p3⟩ := hp
      by_cases ck : k < 32
      · have a1 := p3 (by omega)
        have a2 := le k p0 ck
        have a3 := ge k p0 ck
        have a4 : c.2.2.1 k ≠ x := fun z => hn ⟨by omega, z⟩
        have a5 := p2 x hx.1 (by omega)
        have a6 := ge x hx.1 hx.2
        omega
      · have a1 := p2 31 (by omega) (by omega)
        have a2 := ge 31 (by omega) (by omega)
        omega
  · omega
/-- what a CHANGE of the key x to v (-1: it goes) makes of a leaf; k is the key's place -/
def jp_chg (c : jp_C) (x v k : Int) : jp_C := if k < c.2.1 ∧ c.2.2.1 k = x then (if v = -1 then jp_del c k else jp_set c k v) else (if v = -1 then c else jp_ins c k x v)
theorem jk_set {K : jc_K} {p : Nat} {c : jp_C} {k y : Int} (hp : jp_k K p c) (h0 : 0 ≤ k) (h1 : k < c.2.1) : jk_f K (jc_ui K (p + 1) k (jp_un c.1 * c.2.2.1 k + y)) p ∧ jp_k (jc_ui K (p + 1) k (jp_un c.1 * c.2.2.1 k + y)) p (jp_set c k y) ∧ jc_i (jc_ui K (p + 1) k (jp_un c.1 * c.2.2.1 k + y)) p 1 = jc_i K p 1 := by
  have f2 : jk_f K (jc_ui K (p + 1) k (jp_un c.1 * c.2.2.1 k + y)) p := jk_f.u1
  refine ⟨f2, ⟨f2.pg hp.1, (jc_uN (by omega)).trans hp.2.1, (jc_uN (by omega)).trans hp.2.2.1, fun j j0 j1 => ?_⟩, jc_uN (by omega)⟩
  show _ = jp_un c.1 * c.2.2.1 j + (if j = k then y else c.2.2.2 j)
  by_cases e : j = k
  · rw [e, jc_uH, if_pos rfl]
  · rw [jc_uI e, if_neg e]
    exact hp.2.2.2 j j0 j1
theorem jk_fc43 {K : jc_K} {p : Nat} {c : jp_C} {x v : Int} (hw : jp_w c) (hk : c.1 = 1) (hp : jp_k K p c) (hx : 0 ≤ x ∧ x < 32) (hv : -1 ≤ v ∧ v < 1000) : ∃ k K', jp_pl c x k ∧ fc43 K p x v = some (K', 0) ∧ jk_f K K' p ∧ jp_k K' p (jp_chg c x v k) ∧ jc_i K' p 1 = jc_i K p 1 := by
  obtain ⟨k, e1, e2⟩ := jk_fc44 (x := x) hw hk hp
  have hb := hw.1.2
  refine ⟨k, ?_⟩
  unfold fc43 jp_chg
  rw [if_pos hp.1, e1, jo_bs]
  dsimp only
  rw [if_pos hp.1, hp.2.2.1]
  have un := jp_leaf hk
  by_cases c1 : c.2.1 ≤ k
  · have c4 : ¬ (k < c.2.1 ∧ c.2.2.1 k = x) := fun z => by omega
    rw [if_pos c1, if_neg c4]
    by_cases c2 : v = -1
    · rw [if_pos c2, if_pos c2]
      exact ⟨K, e2, rfl, jk_f.refl K p, hp, rfl⟩
    · rw [if_neg c2, if_neg c2, if_pos (by omega)]
      obtain ⟨K', r1, r2⟩ := jk_fc45 (y := v) (x := x) (v := 1000 * x + v) hw hp e2.1.1 e2.1.2 (jp_room hw hk e2 c4 hx) (by rw [un])
      rw [r1]
      exact ⟨K', e2, rfl, r2⟩
  · obtain ⟨v1, v2, v3, v4⟩ := jp_cellv hw e2.1.1 (by omega)
    rw [if_neg c1, if_neg (by omega), if_pos ⟨e2.1.1, by omega⟩, hp.2.2.2 k e2.1.1 (by omega)]
    rw [un] at v1 v3 ⊢
    rw [if_pos v1, v3]
    by_cases c3 : c.2.2.1 k = x
    · have c4 : k < c.2.1 ∧ c.2.2.1 k = x := ⟨by omega, c3⟩
      rw [if_pos c3, if_pos c4]
      by_cases c2 : v = -1
      · rw [if_pos c2, if_pos c2]
        obtain ⟨K', r1, r2⟩ := jk_fc46 hw hp e2.1.1 (by omega : k < c.2.1)
        rw [r1]
        exact ⟨K', e2, rfl, r2⟩
      · rw [if_neg c2, if_neg c2, if_pos (by omega)]
        have := jk_set (y := v) hp e2.1.1 (by omega : k < c.2.1)
        rw [un, c3] at this
        exact ⟨_, e2, rfl, this⟩
    · have c4 : ¬ (k < c.2.1 ∧ c.2.2.1 k = x) := fun z => c3 z.2
      rw [if_neg c3, if_neg c4]
      by_cases c2 : v = -1
      · rw [if_pos c2, if_pos c2]
        exact ⟨K, e2, rfl, jk_f.refl K p, hp, rfl⟩
      · rw [if_neg c2, if_neg c2, if_pos (by omega)]
        obtain ⟨K', r1, r2⟩ := jk_fc45 (y := v) (x := x) (v := 1000 * x + v) hw hp e2.1.1 e2.1.2 (jp_room hw hk e2 c4 hx) (by rw [un])
        rw [r1]
        exact ⟨K', e2, rfl, r2⟩
theorem jp_chg_k (c : jp_C) (x v k : Int) : (jp_chg c x v k).1 = c.1 := by
  unfold jp_chg
  repeat' split
  all_goals rfl
theorem jp_chg_w {c : jp_C} {x v k : Int} (hw : jp_w c) (hk : c.1 = 1) (hp : jp_pl c x k) (hx : 0 ≤ x ∧ x < 32) (hv : -1 ≤ v ∧ v < 1000) : jp_w (jp_chg c x v k) := by
  have hroom := jp_room hw hk hp (hx := hx)
  obtain ⟨hb, h⟩ := hw
  obtain ⟨⟨p0, p1⟩, p2, p3⟩ := hp
  rcases h with h | ⟨h1, h2, h3⟩ | h
  · omega
  · unfold jp_chg
    by_cases c1 : k < c.2.1 ∧ c.2.2.1 k = x
    · rw [if_pos c1]
      by_cases c2 : v = -1
      · rw [if_pos c2]
        refine ⟨⟨by show 0 ≤ c.2.1 - 1; omega, by show c.2.1 - 1 ≤ 32; omega⟩, Or.inr (Or.inl ⟨h1, fun i i0 i1 => ?_, fun i i0 i1 => ?_⟩)⟩
        · have i1 : i < c.2.1 - 1 := i1
          show (0 ≤ (if i < k then c.2.2.1 i else c.2.2.1 (i + 1)) ∧ (if i < k then c.2.2.1 i else c.2.2.1 (i + 1)) < 32) ∧ 0 ≤ (if i < k then c.2.2.2 i else c.2.2.2 (i + 1)) ∧ (if i < k then c.2.2.2 i else c.2.2.2 (i + 1)) < 1000
          by_cases e : i < k
          · simp only [if_pos e]
            exact h2 i i0 (by omega)
          · simp only [if_neg e]
            exact h2 (i + 1) (by omega) (by omega)
        · have i1 : i + 1 < c.2.1 - 1 := i1
          show (if i < k then c.2.2.1 i else c.2.2.1 (i + 1)) < (if i + 1 < k then c.2.2.1 (i + 1) else c.2.2.1 (i + 1 + 1))
          have a1 := h3 i i0 (by omega)
          have a2 := h3 (i + 1) (by omega) (by omega)
          by_cases e : i + 1 < k
          · rw [if_pos (by omega), if_pos e]
            exact a1
          · rw [if_neg e]
            by_cases e2 : i < k
            · rw [if_pos e2]; omega
            · rw [if_neg e2]; exact a2
      · rw [if_neg c2]
        refine ⟨hb, Or.inr (Or.inl ⟨h1, fun i i0 i1 => ?_, h3⟩)⟩
        have := h2 i i0 i1
        refine ⟨this.1, ?_⟩
        show 0 ≤ (if i = k then v else c.2.2.2 i) ∧ (if i = k then v else c.2.2.2 i) < 1000
        by_cases e : i = k
        · rw [if_pos e]; omega
        · rw [if_neg e]; exact this.2
    · rw [if_neg c1]
      by_cases c2 : v = -1
      · rw [if_pos c2]
        exact ⟨hb, Or.inr (Or.inl ⟨h1, h2, h3⟩)⟩
      · rw [if_neg c2]
        have hr := hroom c1
        refine ⟨⟨by show 0 ≤ c.2.1 + 1; omega, by show c.2.1 + 1 ≤ 32; omega⟩, Or.inr (Or.inl ⟨h1, fun i i0 i1 => ?_, fun i i0 i1 => ?_⟩)⟩
        · have i1 : i < c.2.1 + 1 := i1
          show (0 ≤ (if i < k then c.2.2.1 i else if i = k then x else c.2.2.1 (i - 1)) ∧ (if i < k then c.2.2.1 i else if i = k then x else c.2.2.1 (i - 1)) < 32) ∧ 0 ≤ (if i < k then c.2.2.2 i else if i = k then v else c.2.2.2 (i - 1)) ∧ (if i < k then c.2.2.2 i else if i = k then v else c.2.2.2 (i - 1)) < 1000
          by_cases e : i < k
          · simp only [if_pos e]
            exact h2 i i0 (by omega)
          · by_cases e2 : i = k
            · simp only [if_neg e, if_pos e2]
              omega
            · simp only [if_neg e, if_neg e2]
              exact h2 (i - 1) (by omega) (by omega)
        · have i1 : i + 1 < c.2.1 + 1 := i1
          show (if i < k then c.2.2.1 i else if i = k then x else c.2.2.1 (i - 1)) < (if i + 1 < k then c.2.2.1 (i + 1) else if i + 1 = k then x else c.2.2.1 (i + 1 - 1))
          rw [show i + 1 - 1 = i by omega]
          by_cases e : i + 1 < k
          · rw [if_pos (by omega), if_pos e]
            exact h3 i i0 (by omega)
          · rw [if_neg e]
            by_cases e2 : i + 1 = k
            · rw [if_pos e2, if_pos (by omega)]
              exact p2 i i0 (by omega)
            · rw [if_neg e2, if_neg (by omega)]
              by_cases e3 : i = k
              · rw [if_pos e3, e3]
                have := p3 (by omega)
                have : c.2.2.1 k ≠ x := fun z => c1 ⟨by omega, z⟩
                omega
              · rw [if_neg e3]
                have := h3 (i - 1) (by omega) (by omega)
                rw [show i - 1 + 1 = i by omega] at this
                exact this
  · omega
/-- the place of the child for a key -/
def jp_ci (c : jp_C) (x k : Int) : Prop := (0 ≤ k ∧ k < c.2.1) ∧ (0 < k → c.2.2.1 k ≤ x) ∧ (k + 1 < c.2.1 → x < c.2.2.1 (k + 1))
theorem jp_mono {c : jp_C} (hw : jp_w c) (hk : c.1 = 2) : ∀ (n : Nat) (i : Int), 0 ≤ i → i + n < c.2.1 → c.2.2.1 i ≤ c.2.2.1 (i + n) := by
  intro n
  induction n with
  | zero => intro i _ _; rw [show i + ((0 : Nat) : Int) = i by omega]; exact Int.le_refl _
  | succ n ih =>
    intro i h0 h1
    have a := ih i h0 (by omega)
    obtain ⟨hb, h | h | ⟨_, _, _, _, h⟩⟩ := hw
    · omega
    · omega
    · have := h (i + n) (by omega) (by omega)
      rw [show i + ((n + 1 : Nat) : Int) = i + n + 1 by omega]
      omega
theorem jp_mono2 {c : jp_C} (hw : jp_w c) (hk : c.1 = 2) {i j : Int} (h0 : 0 ≤ i) (h1 : i ≤ j) (h2 : j < c.2.1) : c.2.2.1 i ≤ c.2.2.1 j := by
  have := jp_mono hw hk (j - i).toNat i h0 (by omega)
  rw [show i + (((j - i).toNat : Nat) : Int) = j by omega] at this
  exact this
theorem jp_ci_u {c : jp_C} {x k k' : Int} (hw : jp_w c) (hk : c.1 = 2) (h : jp_ci c x k) (h' : jp_ci c x k') : k = k' := by
  obtain ⟨⟨a1, a2⟩, a3, a4⟩ := h
  obtain ⟨⟨b1, b2⟩, b3, b4⟩ := h'
  by_cases e : k < k'
  · have := a4 (by omega)
    have := b3 (by omega)
    have := jp_mono2 hw hk (i := k + 1) (j := k') (by omega) (by omega) (by omega)
    omega
  · by_cases e2 : k' < k
    · have := b4 (by omega)
      have := a3 (by omega)
      have := jp_mono2 hw hk (i := k' + 1) (j := k) (by omega) (by omega) (by omega)
      omega
    · omega
theorem jk_fc39 {K : jc_K} {p : Nat} {c : jp_C} {i : Int} (hw : jp_w c) (hk : c.1 = 2) (hp : jp_k K p c) (h0 : 0 ≤ i) (h1 : i < c.2.1) : fc39 K p i = some (K, c.2.2.2 i) := by
  unfold fc39
  obtain ⟨v1, v2, v3, v4⟩ := jp_cellv hw h0 h1
  rw [if_pos hp.1, jk_fc37i hw hp h0 h1, jo_bs]
  dsimp only
  rw [jp_inner hk] at v1 v4 ⊢
  rw [if_neg (by omega), if_pos v1, v4]
theorem jk_fc40 {K : jc_K} {p : Nat} {c : jp_C} {x : Int} (hw : jp_w c) (hk : c.1 = 2) (hp : jp_k K p c) (hc : 0 < c.2.1) : ∃ k, fc40 K p x = some (K, c.2.2.2 k) ∧ jp_ci c x k := by
  have hb := hw.1.2
  have un := jp_inner hk
  have key : ∀ (m : Nat) (a i : Int), 0 ≤ a → a < i → i ≤ c.2.1 → c.2.1 < i + m → (0 < a → c.2.2.1 a ≤ x) → (a + 1 < i → x < c.2.2.1 (a + 1)) → ∃ k, fc40_4 m K p x a i = some (K, c.2.2.2 k) ∧ jp_ci c x k := by
    intro m
    induction m with
    | zero => intro a i _ _ _; omega
    | succ m ih =>
      intro a i a0 a1 a2 a3 a4 a5
      unfold fc40_4
      rw [if_pos hp.1, hp.2.2.1]
      by_cases c1 : c.2.1 ≤ i
      · rw [if_pos c1, jk_fc39 hw hk hp a0 (by omega), jo_bs]
        exact ⟨a, rfl, ⟨a0, by omega⟩, a4, fun z => a5 (by omega)⟩
      · obtain ⟨v1, v2, v3, v4⟩ := jp_cellv hw (i := i) (by omega) (by omega)
        rw [if_neg c1, if_neg (by omega), if_pos ⟨by omega, by omega⟩, hp.2.2.2 i (by omega) (by omega), if_pos v1]
        rw [un] at v3 ⊢
        rw [v3]
        by_cases c2 : x < c.2.2.1 i
        · rw [if_pos c2, if_pos (by omega)]
          refine ih a (i + 1) a0 (by omega) (by omega) (by omega) a4 (fun z => ?_)
          by_cases e : a + 1 = i
          · rw [e]; exact c2
          · exact a5 (by omega)
        · rw [if_neg c2, if_pos (by omega)]
          exact ih i (i + 1) (by omega) (by omega) (by omega) (by omega) (fun _ => by omega) (fun z => by omega)
  unfold fc40
  rw [jo_Ne]
  exact key 4000 0 1 (by omega) (by omega) (by omega) (by omega) (fun z => by omega) (fun z => by omega)
/-- the first place of a child -/
theorem jk_fc41 {K : jc_K} {p : Nat} {c : jp_C} {x : Int} (hw : jp_w c) (hk : c.1 = 2) (hp : jp_k K p c) : (∃ k, fc41 K p x = some (K, k) ∧ 0 ≤ k ∧ k < c.2.1 ∧ c.2.2.2 k = x) ∨ (fc41 K p x = some (K, -1) ∧ ∀ i, 0 ≤ i → i < c.2.1 → c.2.2.2 i ≠ x) := by
  have hb := hw.1.2
  have un := jp_inner hk
  have key : ∀ (m : Nat) (i : Int), 0 ≤ i → i ≤ c.2.1 → c.2.1 < i + m → (∀ j, 0 ≤ j → j < i → c.2.2.2 j ≠ x) → (∃ k, fc41_2 m K p x i = some (K, k) ∧ 0 ≤ k ∧ k < c.2.1 ∧ c.2.2.2 k = x) ∨ (fc41_2 m K p x i = some (K, -1) ∧ ∀ i, 0 ≤ i → i < c.2.1 → c.2.2.2 i ≠ x) := by
    intro m
    induction m with
    | zero => intro i _ _; omega
    | succ m ih =>
      intro i h0 h1 h2 hj
      unfold fc41_2
      rw [if_pos hp.1, hp.2.2.1]
      by_cases c1 : c.2.1 ≤ i
      · rw [if_pos c1]
        exact Or.inr ⟨rfl, fun j j0 j1 => hj j j0 (by omega)⟩
      · obtain ⟨v1, v2, v3, v4⟩ := jp_cellv hw h0 (by omega)
        rw [if_neg c1, if_neg (by omega), if_pos ⟨h0, by omega⟩, hp.2.2.2 i h0 (by omega), if_pos v1]
        rw [un] at v4 ⊢
        rw [v4]
        by_cases c2 : c.2.2.2 i = x
        · rw [if_pos c2]
          exact Or.inl ⟨i, rfl, h0, by omega, c2⟩
        · rw [if_neg c2, if_pos (by omega)]
          refine ih (i + 1) (by omega) (by omega) (by omega) (fun j j0 j1 => ?_)
          by_cases e : j = i
          · rw [e]; exact c2
          · exact hj j j0 (by omega)
  unfold fc41
  rw [jo_Ne]
  exact key 4000 0 (by omega) hw.1.1 (by omega) (fun j j0 j1 => by omega)
theorem jk_fc36 {K : jc_K} {p : Nat} {c : jp_C} (hp : jp_k K p c) : fc36 K p = some (K, if c.1 ≠ 0 ∧ c.2.1 = 0 then 1 else 0) := by
  unfold fc36
  rw [if_pos hp.1, hp.2.1, hp.2.2.1]
  by_cases c1 : c.1 = 0
  · rw [if_pos c1, if_neg (fun z => z.1 c1)]
  · rw [if_neg c1]
    by_cases c2 : c.2.1 = 0
    · rw [if_pos c2, if_pos ⟨c1, c2⟩]
    · rw [if_neg c2, if_neg (fun z => c2 z.2)]
theorem jk_fc38 {K : jc_K} {p : Nat} {c : jp_C} {i : Int} (hw : jp_w c) (hp : jp_k K p c) (h0 : 0 ≤ i) (h1 : i < c.2.1) : fc38 K p i = some (K, c.2.2.1 i) := by
  unfold fc38
  obtain ⟨v1, v2, v3, v4⟩ := jp_cellv hw h0 h1
  rw [if_pos hp.1, jk_fc37i hw hp h0 h1, jo_bs]
  dsimp only
  rw [if_neg (by omega), if_pos hp.1, hp.2.1]
  unfold jp_un at *
  by_cases c1 : c.1 = 2
  · rw [if_pos c1] at *
    rw [if_pos c1, if_pos v1, v3]
  · rw [if_neg c1] at *
    rw [if_neg c1, if_pos v1, v3]
/-- forgetting the key ahead of the first child -/
theorem jk_fc49 {K : jc_K} {p : Nat} {c : jp_C} (hp : jp_k K p c) (hc : c.1 = 2 → 0 < c.2.1 → 0 ≤ c.2.2.1 0 ∧ 0 ≤ c.2.2.2 0 ∧ c.2.2.2 0 < 100 ∧ c.2.2.1 0 < 32) : ∃ K', fc49 K p = some (K', 0) ∧ jk_f K K' p ∧ jp_k K' p (jp_fg c) ∧ jc_i K' p 1 = jc_i K p 1 := by
  unfold fc49
  rw [if_pos hp.1, hp.2.1]
  by_cases c1 : c.1 = 2
  · rw [if_pos c1, hp.2.2.1]
    by_cases c2 : c.2.1 ≤ 0
    · rw [if_pos c2]
      exact ⟨K, rfl, jk_f.refl K p, ⟨hp.1, hp.2.1, hp.2.2.1, fun i i0 i1 => by have : i < c.2.1 := i1; omega⟩, rfl⟩
    · have un := jp_inner c1
      have b := hc c1 (by omega)
      have hv := jp_div (u := 100) (k := c.2.2.1 0) (x := c.2.2.2 0) ⟨b.2.1, b.2.2.1⟩
      have e := hp.2.2.2 0 (by omega) (by omega)
      rw [un] at e
      rw [if_neg c2, e, if_pos (by omega), hv.2]
      have f2 : jk_f K (jc_ui K (p + 1) 0 (c.2.2.2 0)) p := jk_f.u1
      refine ⟨_, rfl, f2, ⟨f2.pg hp.1, (jc_uN (by omega)).trans hp.2.1, (jc_uN (by omega)).trans hp.2.2.1, fun j j0 j1 => ?_⟩, jc_uN (by omega)⟩
      show _ = jp_un c.1 * (if c.1 = 2 ∧ j = 0 then 0 else c.2.2.1 j) + c.2.2.2 j
      by_cases ej : j = 0
      · rw [ej, jc_uH, if_pos ⟨c1, rfl⟩]
        omega
      · rw [jc_uI ej, if_neg (fun z => ej z.2)]
        exact hp.2.2.2 j j0 j1
  · rw [if_neg c1]
    refine ⟨K, rfl, jk_f.refl K p, ⟨hp.1, hp.2.1, hp.2.2.1, fun i i0 i1 => ?_⟩, rfl⟩
    show _ = jp_un c.1 * (if c.1 = 2 ∧ i = 0 then 0 else c.2.2.1 i) + c.2.2.2 i
    rw [if_neg (fun z => c1 z.1)]
    exact hp.2.2.2 i i0 i1
theorem jk_fc47 {K : jc_K} {p q : Nat} {c : jp_C} {lo hi : Int} (hw : jp_w c) (ha : jk_a p q) (hp : jc_pg K p) (hq : jp_k K q c) (h0 : 0 ≤ lo) (h1 : lo ≤ hi) (h2 : hi ≤ c.2.1) : ∃ K', fc47 K p q lo hi = some (K', 0) ∧ jk_f K K' p ∧ jp_k K' p (jp_part c lo hi) ∧ jc_i K' p 1 = jc_i K p 1 := by
  have hb := hw.1.2
  have fin : ∀ K1, jk_f K K1 p → jp_k K1 p (c.1, hi - lo, (fun i => c.2.2.1 (i + lo)), fun i => c.2.2.2 (i + lo)) → jc_i K1 p 1 = jc_i K p 1 → ∃ K', ((fc49 K1 p).bind fun x => some (x.1, (0 : Int))) = some (K', 0) ∧ jk_f K K' p ∧ jp_k K' p (jp_part c lo hi) ∧ jc_i K' p 1 = jc_i K p 1 := by
    intro K1 f k1 n1
    obtain ⟨K', r1, r2, r3, r4⟩ := jk_fc49 k1 (fun e1 e2 => by
      have e2 : 0 < hi - lo := e2
      have e1 : c.1 = 2 := e1
      have := jp_cell hw (i := 0 + lo) (by omega) (by omega)
      rw [jp_inner e1] at this
      exact ⟨this.1.1, this.2.1, this.2.2, this.1.2⟩)
    rw [r1]
    exact ⟨K', rfl, f.trans r2, r3, r4.trans n1⟩
  have key : ∀ (m : Nat) (i : Int) (K1 : jc_K), lo ≤ i → i ≤ hi → hi < i + m → jk_f K K1 p → (jc_i K1 p 0 = c.1 ∧ jc_i K1 p 1 = jc_i K p 1 ∧ jc_i K1 p 2 = i - lo) → (∀ j, 0 ≤ j → j < i - lo → jc_i K1 (p + 1) j = jp_un c.1 * c.2.2.1 (j + lo) + c.2.2.2 (j + lo)) → ∃ K', fc47_16 m K1 p q lo hi i = some (K', 0) ∧ jk_f K K' p ∧ jp_k K' p (jp_part c lo hi) ∧ jc_i K' p 1 = jc_i K p 1 := by
    intro m
    induction m with
    | zero => intro i K1 _ _ _; omega
    | succ m ih =>
      intro i K1 a0 a1 a2 f e hj
      have hp1 := f.pg hp
      have hq1 := f.k ha hq
      unfold fc47_16
      rw [if_neg (by omega)]
      by_cases c1 : hi ≤ i
      · rw [if_pos c1, if_pos hp1]
        have ei : i = hi := by omega
        rw [ei] at e hj
        exact fin K1 f ⟨hp1, e.1, e.2.2, fun j j0 j1 => hj j j0 j1⟩ e.2.1
      · rw [if_neg c1, if_pos hq1.1, hq1.2.2.1, if_neg (by omega), if_neg (by omega), if_pos hp1, if_pos ⟨by omega, by omega⟩, e.2.2, if_pos ⟨by omega, by omega⟩, if_pos (by omega), if_pos (by omega), hq1.2.2.2 i (by omega) (by omega)]
        have f2 : jk_f K1 (jc_ui (jc_ui K1 (p + 1) (i - lo) (jp_un c.1 * c.2.2.1 i + c.2.2.2 i)) p 2 (i - lo + 1)) p := jk_f.u1.trans jk_f.u0
        refine ih (i + 1) _ (by omega) (by omega) (by omega) (f.trans f2) ⟨?_, ?_, ?_⟩ (fun j j0 j1 => ?_)
        · rw [jc_uI (by decide), jc_uN (by omega)]; exact e.1
        · rw [jc_uI (by decide), jc_uN (by omega)]; exact e.2.1
        · rw [jc_uH]; omega
        · rw [jc_uN (by omega)]
          by_cases ej : j = i - lo
          · rw [ej, jc_uH, show i - lo + lo = i by omega]
          · rw [jc_uI ej]
            exact hj j j0 (by omega)
  unfold fc47
  rw [if_pos hq.1, if_pos hp, jo_Ne]
  have f2 : jk_f K (jc_ui (jc_ui K p 0 (jc_i K q 0)) p 2 0) p := jk_f.u0.trans jk_f.u0
  refine key 4000 lo _ (Int.le_refl _) h1 (by omega) f2 ⟨?_, ?_, ?_⟩ (fun j j0 j1 => by omega)
  · rw [jc_uI (by decide), jc_uH]; exact hq.2.1
  · rw [jc_uI (by decide), jc_uI (by decide)]
  · rw [jc_uH]; omega
theorem jk_fc48 {K : jc_K} {p : Nat} {c : jp_C} {x k : Int} (hw : jp_w c) (hk : c.1 = 2) (hp : jp_k K p c) (h0 : 0 ≤ k) (h1 : k < c.2.1) (hx : c.2.2.2 k = x) (hu : ∀ i, 0 ≤ i → i < c.2.1 → c.2.2.2 i = x → i = k) : ∃ K', fc48 K p x = some (K', 0) ∧ jk_f K K' p ∧ jp_k K' p (jp_fg (jp_del c k)) ∧ jc_i K' p 1 = jc_i K p 1 := by
  unfold fc48
  have hf : fc41 K p x = some (K, k) := by
    rcases jk_fc41 (x := x) hw hk hp with ⟨k', e1, e2, e3, e4⟩ | ⟨e1, e2⟩
    · rw [e1, hu k' e2 e3 e4]
    · exact absurd hx (e2 k h0 h1)
  rw [if_pos hp.1, hf, jo_bs]
  dsimp only
  obtain ⟨K1, r1, r2, r3, r4⟩ := jk_fc46 hw hp h0 h1
  rw [if_pos hp.1, r1, jo_bs]
  dsimp only
  obtain ⟨K2, t1, t2, t3, t4⟩ := jk_fc49 r3 (fun _ e2 => by
    have e2 : 0 < c.2.1 - 1 := e2
    show 0 ≤ (if 0 < k then c.2.2.1 0 else c.2.2.1 (0 + 1)) ∧ 0 ≤ (if 0 < k then c.2.2.2 0 else c.2.2.2 (0 + 1)) ∧ (if 0 < k then c.2.2.2 0 else c.2.2.2 (0 + 1)) < 100 ∧ (if 0 < k then c.2.2.1 0 else c.2.2.1 (0 + 1)) < 32
    have a := jp_cell hw (i := 0) (by omega) (by omega)
    have b := jp_cell hw (i := 0 + 1) (by omega) (by omega)
    rw [jp_inner hk] at a b
    by_cases e : 0 < k
    · simp only [if_pos e]; omega
    · simp only [if_neg e]; omega)
  rw [if_pos (r2.pg hp.1), t1]
  exact ⟨K2, rfl, r2.trans t2, t3, t4.trans r4⟩
