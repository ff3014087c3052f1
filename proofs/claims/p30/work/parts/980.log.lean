/-! WHAT THE LOG SAYS OF KEYS: the values that stand, what is still to be undone, what each transaction has touched, what was committed -/
/-- the value of x by all CHANGEs and UNDOs of the records 1 to n -/
def jzA (G : jg_G) (x : Int) : Nat → Int
  | 0 => -1
  | n + 1 => if G 98 ((n : Int) + 1) ≤ 1 ∧ G 101 ((n : Int) + 1) = x then G 103 ((n : Int) + 1) else jzA G x n
/-- the CHANGEs of t that are not undone yet, the latest first -/
def jzL (G : jg_G) (t : Int) : Nat → List Int
  | 0 => []
  | n + 1 => if G 99 ((n : Int) + 1) = t then (if G 98 ((n : Int) + 1) = 2 ∨ G 98 ((n : Int) + 1) = 3 then [] else if G 98 ((n : Int) + 1) = 0 then ((n : Int) + 1) :: jzL G t n else if G 98 ((n : Int) + 1) = 1 then (jzL G t n).tail else jzL G t n) else jzL G t n
/-- what t would have of the key x, of the records 1 to n; -2: nothing -/
def jpp (G : jg_G) (x t : Int) : Nat → Int
  | 0 => -2
  | n + 1 => if G 99 ((n : Int) + 1) = t then (if G 98 ((n : Int) + 1) = 2 ∨ G 98 ((n : Int) + 1) = 3 then -2 else if G 101 ((n : Int) + 1) = x then G 103 ((n : Int) + 1) else jpp G x t n) else jpp G x t n
/-- the committed value of x by the records 1 to n -/
def jpv (G : jg_G) (x : Int) : Nat → Int
  | 0 => -1
  | n + 1 => if G 98 ((n : Int) + 1) = 2 ∧ jpp G x (G 99 ((n : Int) + 1)) n ≠ -2 then jpp G x (G 99 ((n : Int) + 1)) n else jpv G x n
theorem jl_a.zA {G G' : jg_G} {n : Int} (h : jl_a G G' n) (x : Int) : ∀ m : Nat, (m : Int) ≤ n → jzA G' x m = jzA G x m
  | 0, _ => rfl
  | m + 1, hm => by
    unfold jzA
    rw [h.zA x m (by omega), h.l (m := 98) (by decide) (by omega) (by omega), h.l (m := 101) (by decide) (by omega) (by omega), h.l (m := 103) (by decide) (by omega) (by omega)]
theorem jl_a.zL {G G' : jg_G} {n : Int} (h : jl_a G G' n) (t : Int) : ∀ m : Nat, (m : Int) ≤ n → jzL G' t m = jzL G t m
  | 0, _ => rfl
  | m + 1, hm => by
    unfold jzL
    rw [h.zL t m (by omega), h.l (m := 98) (by decide) (by omega) (by omega), h.l (m := 99) (by decide) (by omega) (by omega)]
theorem jl_a.pp {G G' : jg_G} {n : Int} (h : jl_a G G' n) (x t : Int) : ∀ m : Nat, (m : Int) ≤ n → jpp G' x t m = jpp G x t m
  | 0, _ => rfl
  | m + 1, hm => by
    unfold jpp
    rw [h.pp x t m (by omega), h.l (m := 98) (by decide) (by omega) (by omega), h.l (m := 99) (by decide) (by omega) (by omega), h.l (m := 101) (by decide) (by omega) (by omega), h.l (m := 103) (by decide) (by omega) (by omega)]
theorem jl_a.pv {G G' : jg_G} {n : Int} (h : jl_a G G' n) (x : Int) : ∀ m : Nat, (m : Int) ≤ n → jpv G' x m = jpv G x m
  | 0, _ => rfl
  | m + 1, hm => by
    unfold jpv
    rw [h.pv x m (by omega), h.l (m := 98) (by decide) (by omega) (by omega), h.l (m := 99) (by decide) (by omega) (by omega), h.pp x _ m (by omega)]
/-- what is due of the record n + 1 beside its form: what was there; that no other has touched the key; what an UNDO undoes; that an END has nothing left -/
def jl_9 (G : jg_G) (n : Nat) : Prop := (G 98 ((n : Int) + 1) ≤ 1 → (0 ≤ G 101 ((n : Int) + 1) ∧ G 101 ((n : Int) + 1) < 32) ∧ -1 ≤ G 103 ((n : Int) + 1) ∧ G 103 ((n : Int) + 1) < 1000) ∧ (G 98 ((n : Int) + 1) = 0 → G 102 ((n : Int) + 1) = jzA G (G 101 ((n : Int) + 1)) n) ∧ (G 98 ((n : Int) + 1) ≤ 1 → ∀ s, 0 ≤ s → s < 4 → s ≠ G 99 ((n : Int) + 1) → jpp G (G 101 ((n : Int) + 1)) s n = -2) ∧ (G 98 ((n : Int) + 1) = 1 → G 101 ((n : Int) + 1) = G 101 (G 104 ((n : Int) + 1)) ∧ G 103 ((n : Int) + 1) = G 102 (G 104 ((n : Int) + 1)) ∧ ∃ l, jzL G (G 99 ((n : Int) + 1)) n = G 104 ((n : Int) + 1) :: l) ∧ (G 98 ((n : Int) + 1) = 3 → jzL G (G 99 ((n : Int) + 1)) n = [])
/-- the leaves hold just the values A -/
def jzE (g : Int → jp_C) (A : Int → Int) : Prop := (∀ p i, 0 ≤ p → p < 24 → (g p).1 = 1 → 0 ≤ i → i < (g p).2.1 → A ((g p).2.2.1 i) = (g p).2.2.2 i) ∧ ∀ x, 0 ≤ x → x < 32 → A x ≠ -1 → ∃ p i, 0 ≤ p ∧ p < 24 ∧ (g p).1 = 1 ∧ 0 ≤ i ∧ i < (g p).2.1 ∧ (g p).2.2.1 i = x
/-- all leaves lie alike deep -/
def jzD (g : Int → jp_C) : Prop := ∃ ht : Int → Int, (∀ p, 0 ≤ p → p < 24 → (g p).1 = 1 → ht p = 0) ∧ ∀ q i, jT_i g q i → ht (jT_c g q i) + 1 = ht q
theorem jzE.e {g g' : Int → jp_C} {A A' : Int → Int} (h : jzE g A) (he : ∀ z, 0 ≤ z → z < 24 → jp_e (g z) (g' z)) (hA : ∀ x, A' x = A x) : jzE g' A' := by
  refine ⟨fun p i p0 p1 k i0 i1 => ?_, fun x x0 x1 hx => ?_⟩
  · obtain ⟨e1, e2, e3⟩ := he p p0 p1
    obtain ⟨e4, e5⟩ := e3 i i0 (by omega)
    rw [hA, ← e4, ← e5]
    exact h.1 p i p0 p1 (by rw [e1]; exact k) i0 (by omega)
  · rw [hA] at hx
    obtain ⟨p, i, p0, p1, k, i0, i1, e⟩ := h.2 x x0 x1 hx
    obtain ⟨e1, e2, e3⟩ := he p p0 p1
    obtain ⟨e4, e5⟩ := e3 i i0 i1
    exact ⟨p, i, p0, p1, by rw [← e1]; exact k, i0, by omega, by rw [← e4]; exact e⟩
theorem jzD.e {g g' : Int → jp_C} (h : jzD g) (he : ∀ z, 0 ≤ z → z < 24 → jp_e (g z) (g' z)) : jzD g' := by
  obtain ⟨ht, h1, h2⟩ := h
  refine ⟨ht, fun p p0 p1 k => h1 p p0 p1 (by rw [(he p p0 p1).1]; exact k), fun q i hi => ?_⟩
  obtain ⟨q0, q1, q2, q3⟩ := hi
  obtain ⟨e1, e2, e3⟩ := he q q0.1 q0.2
  have e5 : (g q).2.2.2 i = (g' q).2.2.2 i := (e3 i q2 (by omega)).2
  have := h2 q i ⟨q0, by rw [e1]; exact q1, q2, by omega⟩
  unfold jT_c at this ⊢
  rw [← e5]
  exact this
