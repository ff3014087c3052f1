/-! GOING BACK along what is to be undone -/
/-- down to a place: what is left, the values, how many were undone -/
def jzP (G : jg_G) (pl : Int) : List Int → (Int → Int) → List Int × (Int → Int) × Int
  | [], A => ([], A, 0)
  | u :: l, A => if u ≤ pl then (u :: l, A, 0) else ((jzP G pl l (fun y => if y = G 101 u then G 102 u else A y)).1, (jzP G pl l (fun y => if y = G 101 u then G 102 u else A y)).2.1, (jzP G pl l (fun y => if y = G 101 u then G 102 u else A y)).2.2 + 1)
theorem jzP_le {G : jg_G} {pl : Int} {A : Int → Int} : ∀ {l : List Int}, (∀ u ∈ l, u ≤ pl) → jzP G pl l A = (l, A, 0)
  | [], _ => rfl
  | u :: l, h => by
    unfold jzP
    rw [if_pos (h u List.mem_cons_self)]
theorem jzP_n {G : jg_G} {pl u : Int} {A : Int → Int} {l : List Int} (h : ¬ u ≤ pl) : jzP G pl (u :: l) A = ((jzP G pl l (fun y => if y = G 101 u then G 102 u else A y)).1, (jzP G pl l (fun y => if y = G 101 u then G 102 u else A y)).2.1, (jzP G pl l (fun y => if y = G 101 u then G 102 u else A y)).2.2 + 1) := by
  conv => lhs; unfold jzP
  rw [if_neg h]
theorem jzP_c {G G' : jg_G} {pl : Int} : ∀ {l : List Int}, (∀ u ∈ l, G' 101 u = G 101 u ∧ G' 102 u = G 102 u) → ∀ A, jzP G' pl l A = jzP G pl l A
  | [], _, _ => rfl
  | u :: l, h, A => by
    obtain ⟨e1, e2⟩ := h u List.mem_cons_self
    have ih := jzP_c (G := G) (G' := G') (pl := pl) (l := l) (fun v hv => h v (List.mem_cons_of_mem _ hv))
    unfold jzP
    rw [e1, e2, ih]
theorem jzP_0 {G : jg_G} : ∀ {l : List Int}, (∀ u ∈ l, 1 ≤ u) → ∀ A, (jzP G 0 l A).1 = [] ∧ (jzP G 0 l A).2.2 = l.length
  | [], _, _ => ⟨rfl, rfl⟩
  | u :: l, h, A => by
    have h1 := h u List.mem_cons_self
    obtain ⟨a, b⟩ := jzP_0 (G := G) (l := l) (fun v hv => h v (List.mem_cons_of_mem _ hv)) (fun y => if y = G 101 u then G 102 u else A y)
    rw [jzP_n (by omega)]
    refine ⟨a, ?_⟩
    show (jzP G 0 l _).2.2 + 1 = _
    rw [b, List.length_cons]
    omega
/-- what going back from (G, N) has made of (G', N') -/
def jzQ (G : jg_G) (N : Nat) (t pl : Int) (L : List Int) (G' : jg_G) (N' : Nat) (k : Int) : Prop := jzL G' t N' = (jzP G pl L (fun y => jzA G y N)).1 ∧ (∀ y, jzA G' y N' = (jzP G pl L (fun y => jzA G y N)).2.1 y) ∧ k = (jzP G pl L (fun y => jzA G y N)).2.2 ∧ jzn G' t N' = jzn G t N + k
theorem jzQ.refl {G : jg_G} {N : Nat} {t pl k : Int} {L : List Int} (h : ∀ u ∈ L, u ≤ pl) (hL : jzL G t N = L) (hk : k = 0) : jzQ G N t pl L G N k := by
  unfold jzQ
  rw [jzP_le h]
  exact ⟨hL, fun _ => rfl, hk, by omega⟩
theorem jzQ.step {G G2 G' : jg_G} {N N2 N' : Nat} {t pl u k : Int} {L : List Int} (h : jzQ G2 N2 t pl L G' N' k) (hu : ¬ u ≤ pl) (hA : ∀ y, jzA G2 y N2 = if y = G 101 u then G 102 u else jzA G y N) (hn : jzn G2 t N2 = jzn G t N + 1) (hc : ∀ v ∈ L, G2 101 v = G 101 v ∧ G2 102 v = G 102 v) {k' : Int} (hk : k' = k + 1) : jzQ G N t pl (u :: L) G' N' k' := by
  unfold jzQ at h ⊢
  rw [jzP_n hu]
  rw [jzP_c hc, show (fun y => jzA G2 y N2) = fun y => if y = G 101 u then G 102 u else jzA G y N from funext hA] at h
  exact ⟨h.1, h.2.1, by rw [hk, h.2.2.1], by rw [h.2.2.2, hn]; omega⟩
theorem jLg.zr {G : jg_G} {N n : Nat} {t : Int} (h : jLg G N) (hn : n ≤ N) (ht : 0 ≤ t) : ∀ u ∈ jzL G t n, ∃ r : Nat, u = r ∧ 1 ≤ r ∧ r ≤ n := fun u hu => by
  obtain ⟨⟨r, a, b, c, -⟩, -⟩ := jz_key ht n (h.F.le hn) u hu
  exact ⟨r, a, b, c⟩
theorem jLg.z0 {G : jg_G} {N r : Nat} {t : Int} (hr : 1 ≤ r) (h99 : G 99 r = t) (h98 : G 98 r = 0) : jzL G t r = (r : Int) :: jzL G t (r - 1) := by
  obtain ⟨n, rfl⟩ : ∃ n, r = n + 1 := ⟨r - 1, by omega⟩
  have e : ((n + 1 : Nat) : Int) = (n : Int) + 1 := by omega
  rw [e] at h99 h98 ⊢
  exact jzL_0 h99 h98
theorem jLg.z1 {G : jg_G} {N r : Nat} {t : Int} (h : jLg G N) (ht : 0 ≤ t) (hr : 1 ≤ r) (hN : r ≤ N) (h99 : G 99 r = t) (h98 : G 98 r = 1) {u : Nat} (hu : G 104 r = u) : jzL G t r = jzL G t (u - 1) := by
  obtain ⟨n, rfl⟩ : ∃ n, r = n + 1 := ⟨r - 1, by omega⟩
  have e : ((n + 1 : Nat) : Int) = (n : Int) + 1 := by omega
  rw [e] at h99 h98 hu
  have d := (h.F.2 n (by omega)).2.2.2.1 h98
  rw [h99, hu] at d
  obtain ⟨_, _, l, d⟩ := d
  obtain ⟨r, e1, _, _, e2⟩ := jz_tail ht N n (by omega) (h.F.le (by omega)) _ _ d
  rw [jzL_1 h99 h98, d]
  show l = _
  rw [e2, show u = r by omega]
/-- the others' are as they were -/
theorem jz_ot {G G' : jg_G} {N N' : Nat} {s : Int} (hl : jl_a G G' N) (hs : 0 ≤ s) (ht : jt G' s N' = jt G s N) : jzL G' s N' = jzL G s N := by
  have b := jt_b G s N
  rw [jzL_jt N', ht, hl.zL s _ (by omega), ← jzL_jt N]
