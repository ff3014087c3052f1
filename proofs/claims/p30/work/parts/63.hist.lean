/-! WHAT THE LOG TELLS: the pages, their versions, the latest records, by the records 1 to n -/
def jh_row (G : jg_G) (r : Int) : jp_C := (G 93 (67 * r), G 93 (67 * r + 2), (fun i => if 0 ≤ i ∧ i < 32 then G 93 (67 * r + 3 + 2 * i) else 0), fun i => if 0 ≤ i ∧ i < 32 then G 93 (67 * r + 4 + 2 * i) else 0)
theorem jh_row_r {G : jg_G} {r : Int} (h : G 93 (67 * r + 2) ≤ 32) : jp_r G r (jh_row G r) := ⟨rfl, rfl, fun i i0 i1 => by
  have i1 : i < G 93 (67 * r + 2) := i1
  exact ⟨(if_pos ⟨i0, by omega⟩).symm, (if_pos ⟨i0, by omega⟩).symm⟩⟩
theorem jh_row_e {G G' : jg_G} {r : Int} (h : ∀ j, 67 * r ≤ j → j < 67 * r + 67 → G' 93 j = G 93 j) : jh_row G' r = jh_row G r := by
  unfold jh_row
  refine Prod.ext (h _ (by omega) (by omega)) (Prod.ext (h _ (by omega) (by omega)) (Prod.ext ?_ ?_))
  · funext i
    dsimp only
    by_cases c : 0 ≤ i ∧ i < 32
    · rw [if_pos c, if_pos c, h _ (by omega) (by omega)]
    · rw [if_neg c, if_neg c]
  · funext i
    dsimp only
    by_cases c : 0 ≤ i ∧ i < 32
    · rw [if_pos c, if_pos c, h _ (by omega) (by omega)]
    · rw [if_neg c, if_neg c]
def jh_scan (c : jp_C) (x : Int) : Nat → Int → Int
  | 0, k => k
  | m + 1, k => if c.2.1 ≤ k then k else if x ≤ c.2.2.1 k then k else jh_scan c x m (k + 1)
def jh_pl (c : jp_C) (x : Int) : Int := jh_scan c x 33 0
theorem jh_scan_sp (c : jp_C) (x : Int) : ∀ (m : Nat) (k : Int), 0 ≤ k → k ≤ c.2.1 → c.2.1 ≤ k + m → (∀ i, 0 ≤ i → i < k → c.2.2.1 i < x) → jp_pl c x (jh_scan c x m k) := by
  intro m
  induction m with
  | zero =>
    intro k h0 h1 h2 h3
    unfold jh_scan
    exact ⟨⟨h0, h1⟩, h3, fun z => by omega⟩
  | succ m ih =>
    intro k h0 h1 h2 h3
    unfold jh_scan
    split
    · exact ⟨⟨h0, h1⟩, h3, fun z => by omega⟩
    · split
      · exact ⟨⟨h0, h1⟩, h3, fun _ => by assumption⟩
      · refine ih (k + 1) (by omega) (by omega) (by omega) (fun i i0 i1 => ?_)
        by_cases e : i = k
        · subst e; omega
        · exact h3 i i0 (by omega)
theorem jh_pl_sp {c : jp_C} (x : Int) (h : 0 ≤ c.2.1 ∧ c.2.1 ≤ 32) : jp_pl c x (jh_pl c x) := jh_scan_sp c x 33 0 (by omega) h.1 (by omega) (fun i _ _ => by omega)
/-- which of a record's pages p is; -1: none -/
def jh_k (G : jg_G) (r p : Int) : Int := if 0 < G 105 r ∧ G 106 (3 * r) = p then 0 else if 1 < G 105 r ∧ G 106 (3 * r + 1) = p then 1 else if 2 < G 105 r ∧ G 106 (3 * r + 2) = p then 2 else -1
theorem jh_k_b (G : jg_G) (r p : Int) : -1 ≤ jh_k G r p ∧ jh_k G r p < 3 ∧ (0 ≤ jh_k G r p → jh_k G r p < G 105 r ∧ G 106 (3 * r + jh_k G r p) = p) := by
  unfold jh_k
  split
  · rename_i h
    exact ⟨by decide, by decide, fun _ => ⟨h.1, by rw [Int.add_zero]; exact h.2⟩⟩
  split
  · rename_i h
    exact ⟨by decide, by decide, fun _ => h⟩
  split
  · rename_i h
    exact ⟨by decide, by decide, fun _ => h⟩
  · exact ⟨by decide, by decide, fun z => absurd z (by decide)⟩
theorem jh_k_n {G : jg_G} {r p k : Int} (h : jh_k G r p = -1) (h0 : 0 ≤ k) (h1 : k < 3) (h2 : k < G 105 r) : G 106 (3 * r + k) ≠ p := by
  intro e
  unfold jh_k at h
  by_cases e0 : k = 0
  · subst e0
    rw [Int.add_zero] at e
    rw [if_pos ⟨h2, e⟩] at h
    omega
  · by_cases e1 : k = 1
    · subst e1
      by_cases c0 : 0 < G 105 r ∧ G 106 (3 * r) = p
      · rw [if_pos c0] at h; omega
      · rw [if_neg c0, if_pos ⟨h2, e⟩] at h; omega
    · have e2 : k = 2 := by omega
      subst e2
      by_cases c0 : 0 < G 105 r ∧ G 106 (3 * r) = p
      · rw [if_pos c0] at h; omega
      · by_cases c1 : 1 < G 105 r ∧ G 106 (3 * r + 1) = p
        · rw [if_neg c0, if_pos c1] at h; omega
        · rw [if_neg c0, if_neg c1, if_pos ⟨h2, e⟩] at h; omega
def jh_0 (p : Int) : jp_C := ((if p = 0 then 1 else 0), 0, (fun _ => 0), fun _ => 0)
/-- the page p by the records 1 to n -/
def jh (G : jg_G) : Nat → Int → jp_C
  | 0, p => jh_0 p
  | n + 1, p => if jh_k G ((n : Int) + 1) p = -1 then jh G n p else if G 98 ((n : Int) + 1) ≤ 1 then jp_chg (jh G n p) (G 101 ((n : Int) + 1)) (G 103 ((n : Int) + 1)) (jh_pl (jh G n p) (G 101 ((n : Int) + 1))) else jh_row G (54 + 3 * (n : Int) + jh_k G ((n : Int) + 1) p)
/-- the latest record up to n that changed p -/
def jv (G : jg_G) (p : Int) : Nat → Nat
  | 0 => 0
  | n + 1 => if jh_k G ((n : Int) + 1) p = -1 then jv G p n else n + 1
/-- the latest record of t up to n, 0 behind its end -/
def jt (G : jg_G) (t : Int) : Nat → Int
  | 0 => 0
  | n + 1 => if G 99 ((n : Int) + 1) = t then (if G 98 ((n : Int) + 1) = 2 ∨ G 98 ((n : Int) + 1) = 3 then 0 else (n : Int) + 1) else jt G t n
theorem jv_le (G : jg_G) (p : Int) : ∀ n, jv G p n ≤ n := by
  intro n
  induction n with
  | zero => exact Nat.le_refl _
  | succ n ih =>
    unfold jv
    split
    · exact Nat.le_succ_of_le ih
    · exact Nat.le_refl _
theorem jh_v (G : jg_G) (p : Int) : ∀ n, jh G (jv G p n) p = jh G n p := by
  intro n
  induction n with
  | zero => rfl
  | succ n ih =>
    unfold jv
    split
    · rename_i h
      rw [ih]
      exact (if_pos h).symm
    · rfl
theorem jv_v (G : jg_G) (p : Int) : ∀ n, jv G p (jv G p n) = jv G p n := by
  intro n
  induction n with
  | zero => rfl
  | succ n ih =>
    by_cases c : jh_k G ((n : Int) + 1) p = -1
    · have e : jv G p (n + 1) = jv G p n := if_pos c
      rw [e]
      exact ih
    · have e : jv G p (n + 1) = n + 1 := if_neg c
      rw [e]
      exact e
theorem jv_mono (G : jg_G) (p : Int) : ∀ (k n : Nat), jv G p n ≤ jv G p (n + k) := by
  intro k
  induction k with
  | zero => intro n; exact Nat.le_refl _
  | succ k ih =>
    intro n
    refine Nat.le_trans (ih n) ?_
    show _ ≤ (if jh_k G (((n + k : Nat) : Int) + 1) p = -1 then jv G p (n + k) else n + k + 1)
    split
    · exact Nat.le_refl _
    · exact Nat.le_succ_of_le (jv_le G p _)
theorem jv_mono2 (G : jg_G) (p : Int) {n m : Nat} (h : n ≤ m) : jv G p n ≤ jv G p m := by
  have := jv_mono G p (m - n) n
  rw [show n + (m - n) = m by omega] at this
  exact this
/-- nothing changed p between -/
theorem jv_eq {G : jg_G} {p : Int} {n : Nat} : ∀ (k : Nat), (∀ r : Nat, n < r → r ≤ n + k → jh_k G (r : Int) p = -1) → jv G p (n + k) = jv G p n := by
  intro k
  induction k with
  | zero => intro _; rfl
  | succ k ih =>
    intro h
    show (if jh_k G (((n + k : Nat) : Int) + 1) p = -1 then jv G p (n + k) else n + k + 1) = _
    have := h (n + k + 1) (by omega) (by omega)
    rw [show ((n + k + 1 : Nat) : Int) = ((n + k : Nat) : Int) + 1 by omega] at this
    rw [if_pos this]
    exact ih (fun r a b => h r a (by omega))
theorem jv_eq2 {G : jg_G} {p : Int} {n m : Nat} (hnm : n ≤ m) (h : ∀ r : Nat, n < r → r ≤ m → jh_k G (r : Int) p = -1) : jv G p m = jv G p n := by
  have := jv_eq (G := G) (p := p) (n := n) (m - n) (fun r a b => h r a (by omega))
  rw [show n + (m - n) = m by omega] at this
  exact this
theorem jv_none {G : jg_G} {p : Int} {n r : Nat} (h0 : jv G p n < r) (h1 : r ≤ n) : jh_k G (r : Int) p = -1 := by
  induction n with
  | zero => omega
  | succ n ih =>
    by_cases c : jh_k G ((n : Int) + 1) p = -1
    · have e : jv G p (n + 1) = jv G p n := if_pos c
      rw [e] at h0
      by_cases e2 : r = n + 1
      · rw [e2]; exact c
      · exact ih h0 (by omega)
    · have e : jv G p (n + 1) = n + 1 := if_neg c
      omega
theorem jv_is {G : jg_G} {p : Int} {n : Nat} (h : 0 < n) (hk : jh_k G (n : Int) p ≠ -1) : jv G p n = n := by
  cases n with
  | zero => omega
  | succ n => exact if_neg hk
theorem jv_k {G : jg_G} {p : Int} {n : Nat} (h : jv G p n ≠ 0) : jh_k G ((jv G p n : Nat) : Int) p ≠ -1 := by
  induction n with
  | zero => exact absurd rfl h
  | succ n ih =>
    by_cases c : jh_k G ((n : Int) + 1) p = -1
    · have e : jv G p (n + 1) = jv G p n := if_pos c
      rw [e] at h ⊢
      exact ih h
    · have e : jv G p (n + 1) = n + 1 := if_neg c
      rw [e]
      exact c
/-- two logs are alike up to n -/
def jl_a (G G' : jg_G) (n : Int) : Prop := ∀ m j, ((98 ≤ m ∧ m ≤ 105 ∧ 1 ≤ j ∧ j ≤ n) ∨ (m = 106 ∧ 3 ≤ j ∧ j < 3 * n + 3) ∨ (m = 93 ∧ 67 * 54 ≤ j ∧ j < 67 * (54 + 3 * n))) → G' m j = G m j
theorem jl_a.refl (G : jg_G) (n : Int) : jl_a G G n := fun _ _ _ => rfl
theorem jl_a.trans {G G' G'' : jg_G} {n : Int} (h : jl_a G G' n) (h2 : jl_a G' G'' n) : jl_a G G'' n := fun m j e => (h2 m j e).trans (h m j e)
theorem jl_a.le {G G' : jg_G} {n m : Int} (h : jl_a G G' n) (hm : m ≤ n) : jl_a G G' m := fun i j e => h i j (by omega)
theorem jl_a.l {G G' : jg_G} {n : Int} (h : jl_a G G' n) {m : Nat} {r : Int} (hm : 98 ≤ m ∧ m ≤ 105) (h1 : 1 ≤ r) (h2 : r ≤ n) : G' m r = G m r := h m r (Or.inl ⟨hm.1, hm.2, h1, h2⟩)
theorem jl_a.c {G G' : jg_G} {n : Int} (h : jl_a G G' n) {r k : Int} (h1 : 1 ≤ r) (h2 : r ≤ n) (k0 : 0 ≤ k) (k1 : k < 3) : G' 106 (3 * r + k) = G 106 (3 * r + k) := h 106 _ (Or.inr (Or.inl ⟨rfl, by omega, by omega⟩))
theorem jl_a.k {G G' : jg_G} {n : Int} (h : jl_a G G' n) {r : Int} (h1 : 1 ≤ r) (h2 : r ≤ n) (p : Int) : jh_k G' r p = jh_k G r p := by
  unfold jh_k
  have e0 := h.c h1 h2 (k := 0) (by decide) (by decide)
  rw [Int.add_zero] at e0
  rw [h.l (m := 105) (by decide) h1 h2, e0, h.c h1 h2 (k := 1) (by decide) (by decide), h.c h1 h2 (k := 2) (by decide) (by decide)]
theorem jl_a.r {G G' : jg_G} {n : Int} (h : jl_a G G' n) {r k : Int} {c : jp_C} (h1 : 1 ≤ r) (h2 : r ≤ n) (k0 : 0 ≤ k) (k1 : k < 3) (hc : c.2.1 ≤ 32) (hr : jp_r G (54 + 3 * (r - 1) + k) c) : jp_r G' (54 + 3 * (r - 1) + k) c := by
  obtain ⟨a, b, e⟩ := hr
  refine ⟨?_, ?_, fun i i0 i1 => ⟨?_, ?_⟩⟩
  · rw [h 93 _ (by omega)]; exact a
  · rw [h 93 _ (by omega)]; exact b
  · rw [h 93 _ (by omega)]; exact (e i i0 i1).1
  · rw [h 93 _ (by omega)]; exact (e i i0 i1).2
theorem jl_a.t {G G' : jg_G} {n : Int} (h : jl_a G G' n) (t : Int) : ∀ m : Nat, (m : Int) ≤ n → jt G' t m = jt G t m := by
  intro m
  induction m with
  | zero => intro _; rfl
  | succ m ih =>
    intro hm
    have := ih (by omega)
    unfold jt
    rw [h.l (m := 99) (by decide) (by omega) (by omega), h.l (m := 98) (by decide) (by omega) (by omega), this]
theorem jl_a.v {G G' : jg_G} {n : Int} (h : jl_a G G' n) (p : Int) : ∀ m : Nat, (m : Int) ≤ n → jv G' p m = jv G p m := by
  intro m
  induction m with
  | zero => intro _; rfl
  | succ m ih =>
    intro hm
    have := ih (by omega)
    unfold jv
    rw [h.k (by omega) (by omega), this]
theorem jl_a.h {G G' : jg_G} {n : Int} (h : jl_a G G' n) (p : Int) : ∀ m : Nat, (m : Int) ≤ n → jh G' m p = jh G m p := by
  intro m
  induction m with
  | zero => intro _; rfl
  | succ m ih =>
    intro hm
    have e := ih (by omega)
    have hb := jh_k_b G ((m : Int) + 1) p
    unfold jh
    rw [h.k (by omega) (by omega), h.l (m := 98) (by decide) (by omega) (by omega), h.l (m := 101) (by decide) (by omega) (by omega), h.l (m := 103) (by decide) (by omega) (by omega), e]
    by_cases c : jh_k G ((m : Int) + 1) p = -1
    · rw [if_pos c, if_pos c]
    · rw [if_neg c, if_neg c, jh_row_e (fun j j0 j1 => h 93 j (by omega))]
/-- what a content is, as far as it counts -/
def jp_e (c c' : jp_C) : Prop := c.1 = c'.1 ∧ c.2.1 = c'.2.1 ∧ ∀ i, 0 ≤ i → i < c.2.1 → c.2.2.1 i = c'.2.2.1 i ∧ c.2.2.2 i = c'.2.2.2 i
theorem jp_e.refl (c : jp_C) : jp_e c c := ⟨rfl, rfl, fun _ _ _ => ⟨rfl, rfl⟩⟩
theorem jp_e.symm {c c' : jp_C} (h : jp_e c c') : jp_e c' c := ⟨h.1.symm, h.2.1.symm, fun i i0 i1 => by
  have := h.2.2 i i0 (by rw [h.2.1]; exact i1)
  exact ⟨this.1.symm, this.2.symm⟩⟩
theorem jp_r.e {G : jg_G} {r : Int} {c c' : jp_C} (h : jp_r G r c) (he : jp_e c c') : jp_r G r c' := ⟨h.1.trans he.1, h.2.1.trans he.2.1, fun i i0 i1 => by
  have a := h.2.2 i i0 (by rw [he.2.1]; exact i1)
  have b := he.2.2 i i0 (by rw [he.2.1]; exact i1)
  exact ⟨a.1.trans b.1, a.2.trans b.2⟩⟩
theorem jp_r.e2 {G : jg_G} {r : Int} {c c' : jp_C} (h : jp_r G r c) (h' : jp_r G r c') : jp_e c c' := ⟨h.1.symm.trans h'.1, h.2.1.symm.trans h'.2.1, fun i i0 i1 => by
  have a := h.2.2 i i0 i1
  have b := h'.2.2 i i0 (by rw [← h'.2.1, h.2.1]; exact i1)
  exact ⟨a.1.symm.trans b.1, a.2.symm.trans b.2⟩⟩
theorem jp_k.e {K : jc_K} {p : Nat} {c c' : jp_C} (h : jp_k K p c) (he : jp_e c c') : jp_k K p c' := ⟨h.1, h.2.1.trans he.1, h.2.2.1.trans he.2.1, fun i i0 i1 => by
  have b := he.2.2 i i0 (by rw [he.2.1]; exact i1)
  rw [h.2.2.2 i i0 (by rw [he.2.1]; exact i1), he.1, b.1, b.2]⟩
theorem jp_w.e {c c' : jp_C} (h : jp_w c) (he : jp_e c c') : jp_w c' := by
  obtain ⟨e1, e2, e3⟩ := he
  obtain ⟨hb, h⟩ := h
  refine ⟨by omega, ?_⟩
  rcases h with h | ⟨h1, h2, h3⟩ | ⟨h1, h2, h3, h4, h5⟩
  · exact Or.inl ⟨by omega, by omega⟩
  · refine Or.inr (Or.inl ⟨by omega, fun i i0 i1 => ?_, fun i i0 i1 => ?_⟩)
    · rw [← (e3 i i0 (by omega)).1, ← (e3 i i0 (by omega)).2]
      exact h2 i i0 (by omega)
    · rw [← (e3 i i0 (by omega)).1, ← (e3 (i + 1) (by omega) (by omega)).1]
      exact h3 i i0 (by omega)
  · refine Or.inr (Or.inr ⟨by omega, by omega, fun z => ?_, fun i i0 i1 => ?_, fun i i0 i1 => ?_⟩)
    · rw [← (e3 0 (by omega) (by omega)).1]
      exact h3 (by omega)
    · rw [← (e3 i i0 (by omega)).1, ← (e3 i i0 (by omega)).2]
      exact h4 i i0 (by omega)
    · rw [← (e3 i i0 (by omega)).1, ← (e3 (i + 1) (by omega) (by omega)).1]
      exact h5 i i0 (by omega)
