/-! WHAT FOLLOWS OF THE LOG: undoing all that is not ended gives what was committed -/
/-- what undoing the CHANGEs l would leave of x -/
def jzU (G : jg_G) : List Int → Int → Int → Int
  | [], _, a => a
  | u :: l, x, a => jzU G l x (if G 101 u = x then G 102 u else a)
theorem jzU_skip {G : jg_G} {x : Int} : ∀ (l : List Int) (a : Int), (∀ u ∈ l, G 101 u ≠ x) → jzU G l x a = a
  | [], _, _ => rfl
  | u :: l, a, h => by
    unfold jzU
    rw [if_neg (h u List.mem_cons_self)]
    exact jzU_skip l a (fun v hv => h v (List.mem_cons_of_mem _ hv))
/-- the format of a log, and what is due of each record -/
def jzF (G : jg_G) (N : Nat) : Prop := (∀ r : Nat, 1 ≤ r → r ≤ N → jl_1 G r) ∧ ∀ n : Nat, n < N → jl_9 G n
theorem jzF.le {G : jg_G} {N n : Nat} (h : jzF G N) (hn : n ≤ N) : jzF G n := ⟨fun r a b => h.1 r a (by omega), fun m hm => h.2 m (by omega)⟩
section Sz
variable {G : jg_G} {t x : Int} {n : Nat}
theorem jpp_o (h : G 99 ((n : Int) + 1) ≠ t) : jpp G x t (n + 1) = jpp G x t n := by
  show (if G 99 ((n : Int) + 1) = t then _ else _) = _
  rw [if_neg h]
theorem jpp_e (h : G 99 ((n : Int) + 1) = t) (h2 : G 98 ((n : Int) + 1) = 2 ∨ G 98 ((n : Int) + 1) = 3) : jpp G x t (n + 1) = -2 := by
  show (if G 99 ((n : Int) + 1) = t then _ else _) = _
  rw [if_pos h, if_pos h2]
theorem jpp_k (h : G 99 ((n : Int) + 1) = t) (h2 : G 98 ((n : Int) + 1) ≤ 1) : jpp G x t (n + 1) = if G 101 ((n : Int) + 1) = x then G 103 ((n : Int) + 1) else jpp G x t n := by
  show (if G 99 ((n : Int) + 1) = t then _ else _) = _
  rw [if_pos h, if_neg (by omega)]
theorem jzL_o (h : G 99 ((n : Int) + 1) ≠ t) : jzL G t (n + 1) = jzL G t n := by
  show (if G 99 ((n : Int) + 1) = t then _ else _) = _
  rw [if_neg h]
theorem jzL_e (h : G 99 ((n : Int) + 1) = t) (h2 : G 98 ((n : Int) + 1) = 2 ∨ G 98 ((n : Int) + 1) = 3) : jzL G t (n + 1) = [] := by
  show (if G 99 ((n : Int) + 1) = t then _ else _) = _
  rw [if_pos h, if_pos h2]
theorem jzL_0 (h : G 99 ((n : Int) + 1) = t) (h2 : G 98 ((n : Int) + 1) = 0) : jzL G t (n + 1) = ((n : Int) + 1) :: jzL G t n := by
  show (if G 99 ((n : Int) + 1) = t then _ else _) = _
  rw [if_pos h, if_neg (by omega), if_pos h2]
theorem jzL_1 (h : G 99 ((n : Int) + 1) = t) (h2 : G 98 ((n : Int) + 1) = 1) : jzL G t (n + 1) = (jzL G t n).tail := by
  show (if G 99 ((n : Int) + 1) = t then _ else _) = _
  rw [if_pos h, if_neg (by omega), if_neg (by omega), if_pos h2]
theorem jzA_o (h : ¬ (G 98 ((n : Int) + 1) ≤ 1 ∧ G 101 ((n : Int) + 1) = x)) : jzA G x (n + 1) = jzA G x n := by
  show (if _ then _ else _) = _
  rw [if_neg h]
theorem jzA_k (h : G 98 ((n : Int) + 1) ≤ 1) (h2 : G 101 ((n : Int) + 1) = x) : jzA G x (n + 1) = G 103 ((n : Int) + 1) := by
  show (if _ then _ else _) = _
  rw [if_pos ⟨h, h2⟩]
theorem jpv_o (h : G 98 ((n : Int) + 1) ≠ 2) : jpv G x (n + 1) = jpv G x n := by
  show (if _ then _ else _) = _
  rw [if_neg (fun z => h z.1)]
theorem jzF.k (h : jzF G (n + 1)) : (0 ≤ G 98 ((n : Int) + 1) ∧ G 98 ((n : Int) + 1) ≤ 7) ∧ ((G 98 ((n : Int) + 1) ≤ 3 → 0 ≤ G 99 ((n : Int) + 1) ∧ G 99 ((n : Int) + 1) < 4) ∧ (4 ≤ G 98 ((n : Int) + 1) → G 99 ((n : Int) + 1) = -1)) ∧ (G 98 ((n : Int) + 1) = 1 → ∃ u : Nat, G 104 ((n : Int) + 1) = u ∧ 1 ≤ u ∧ u < n + 1 ∧ G 98 u = 0 ∧ G 99 u = G 99 ((n : Int) + 1)) := by
  have j := h.1 (n + 1) (by omega) (Nat.le_refl _)
  have e : ((n + 1 : Nat) : Int) = (n : Int) + 1 := by omega
  unfold jl_1 at j
  rw [e] at j
  exact ⟨j.1, j.2.1, j.2.2.2.2.1⟩
/-- what is still to be undone is a CHANGE of the transaction, whose key it has touched -/
theorem jz_key (ht : 0 ≤ t) : ∀ (n : Nat), jzF G n → ∀ u ∈ jzL G t n, (∃ r : Nat, u = r ∧ 1 ≤ r ∧ r ≤ n ∧ G 98 r = 0 ∧ G 99 r = t) ∧ jpp G (G 101 u) t n ≠ -2
  | 0, _, u, hu => absurd hu List.not_mem_nil
  | n + 1, h, u, hu => by
    have k := h.k
    have a := (h.2 n (by omega)).1
    have ih := jz_key ht n (h.le (by omega))
    have up : ∀ v, ((∃ r : Nat, v = (r : Int) ∧ 1 ≤ r ∧ r ≤ n ∧ G 98 r = 0 ∧ G 99 r = t) ∧ jpp G (G 101 v) t n ≠ -2) → (jpp G (G 101 v) t n ≠ -2 → jpp G (G 101 v) t (n + 1) ≠ -2) → (∃ r : Nat, v = (r : Int) ∧ 1 ≤ r ∧ r ≤ n + 1 ∧ G 98 r = 0 ∧ G 99 r = t) ∧ jpp G (G 101 v) t (n + 1) ≠ -2 := fun v hv hp => by
      obtain ⟨⟨r, r1, r2, r3, r4, r5⟩, p⟩ := hv
      exact ⟨⟨r, r1, r2, by omega, r4, r5⟩, hp p⟩
    by_cases e : G 99 ((n : Int) + 1) = t
    · by_cases e2 : G 98 ((n : Int) + 1) = 2 ∨ G 98 ((n : Int) + 1) = 3
      · rw [jzL_e e e2] at hu
        exact absurd hu List.not_mem_nil
      · have w1 : G 98 ((n : Int) + 1) ≤ 1 := by
          have := k.2.1.2
          omega
        have pk : ∀ y, jpp G y t n ≠ -2 → jpp G y t (n + 1) ≠ -2 := fun y hy => by
          rw [jpp_k e w1]
          have := (a w1).2
          split
          · omega
          · exact hy
        by_cases e0 : G 98 ((n : Int) + 1) = 0
        · rw [jzL_0 e e0] at hu
          rcases List.mem_cons.mp hu with hu | hu
          · rw [hu]
            refine ⟨⟨n + 1, by omega, by omega, by omega, by rw [show ((n + 1 : Nat) : Int) = (n : Int) + 1 by omega]; exact e0, by rw [show ((n + 1 : Nat) : Int) = (n : Int) + 1 by omega]; exact e⟩, ?_⟩
            rw [jpp_k e w1, if_pos rfl]
            have := (a w1).2
            omega
          · exact up u (ih u hu) (pk _)
        · have e1 : G 98 ((n : Int) + 1) = 1 := by have := k.1; omega
          rw [jzL_1 e e1] at hu
          exact up u (ih u (List.mem_of_mem_tail hu)) (pk _)
    · rw [jzL_o e] at hu
      exact up u (ih u hu) (fun p => by rw [jpp_o e]; exact p)
/-- it is a stack -/
theorem jz_tail (ht : 0 ≤ t) : ∀ (N n : Nat), n ≤ N → jzF G n → ∀ u l, jzL G t n = u :: l → ∃ r : Nat, u = r ∧ 1 ≤ r ∧ r ≤ n ∧ l = jzL G t (r - 1)
  | 0, n, hn, _, u, l, h => by
    have : n = 0 := by omega
    subst this
    cases h
  | N + 1, n, hn, hF, u, l, h => by
    by_cases en : n ≤ N
    · exact jz_tail ht N n en hF u l h
    · have : n = N + 1 := by omega
      subst this
      have ih := jz_tail ht N
      have k := hF.k
      have up : (∃ r : Nat, u = (r : Int) ∧ 1 ≤ r ∧ r ≤ N ∧ l = jzL G t (r - 1)) → ∃ r : Nat, u = (r : Int) ∧ 1 ≤ r ∧ r ≤ N + 1 ∧ l = jzL G t (r - 1) := fun ⟨r, a, b, c, d⟩ => ⟨r, a, b, by omega, d⟩
      by_cases e : G 99 ((N : Int) + 1) = t
      · by_cases e2 : G 98 ((N : Int) + 1) = 2 ∨ G 98 ((N : Int) + 1) = 3
        · rw [jzL_e e e2] at h
          cases h
        · by_cases e0 : G 98 ((N : Int) + 1) = 0
          · rw [jzL_0 e e0] at h
            injection h with h1 h2
            exact ⟨N + 1, by omega, by omega, by omega, by rw [← h2]; rfl⟩
          · have e1 : G 98 ((N : Int) + 1) = 1 := by
              have := k.1
              have := k.2.1.2
              omega
            rw [jzL_1 e e1] at h
            cases hL : jzL G t N with
            | nil => rw [hL] at h; cases h
            | cons w l1 =>
              rw [hL] at h
              obtain ⟨r, r1, r2, r3, r4⟩ := ih N (Nat.le_refl _) (hF.le (by omega)) w l1 hL
              have h2 : jzL G t (r - 1) = u :: l := by rw [← r4]; exact h
              obtain ⟨q, q1, q2, q3, q4⟩ := ih (r - 1) (by omega) (hF.le (by omega)) u l h2
              exact ⟨q, q1, q2, by omega, q4⟩
      · rw [jzL_o e] at h
        exact up (ih N (Nat.le_refl _) (hF.le (by omega)) u l h)
end Sz
/-- what holds of a key behind the records 1 to n -/
def jzS (G : jg_G) (x : Int) (n : Nat) : Prop := (∀ s t, 0 ≤ s → s < 4 → 0 ≤ t → t < 4 → s ≠ t → jpp G x s n ≠ -2 → jpp G x t n = -2) ∧ (∀ t, 0 ≤ t → t < 4 → jpp G x t n ≠ -2 → jzA G x n = jpp G x t n) ∧ ∀ t, 0 ≤ t → t < 4 → (∀ s, 0 ≤ s → s < 4 → s ≠ t → jpp G x s n = -2) → jzU G (jzL G t n) x (jzA G x n) = jpv G x n
theorem jz_sem {G : jg_G} {x : Int} (hx : 0 ≤ x ∧ x < 32) : ∀ n : Nat, jzF G n → jzS G x n
  | 0, _ => ⟨fun s t _ _ _ _ _ h => absurd rfl h, fun t _ _ h => absurd rfl h, fun t _ _ _ => rfl⟩
  | n + 1, hF => by
    obtain ⟨S1, S2, S3⟩ := jz_sem hx n (hF.le (by omega))
    obtain ⟨k1, ⟨k2, k3⟩, k4⟩ := hF.k
    obtain ⟨a, b, c, d, e⟩ := hF.2 n (by omega)
    have hkey := fun t (ht : 0 ≤ t) => jz_key (G := G) (t := t) ht n (hF.le (by omega))
    have skip : ∀ t y, 0 ≤ t → jpp G x t n = -2 → jzU G (jzL G t n) x y = y := fun t y ht hp => jzU_skip _ _ (fun u hu z => (hkey t ht u hu).2 (by rw [z]; exact hp))
    by_cases w1 : G 98 ((n : Int) + 1) ≤ 1
    · -- CHANGE, UNDO
      obtain ⟨t0, t1⟩ := k2 (by omega)
      obtain ⟨a1, a2⟩ := a w1
      have c := c w1
      by_cases hk : G 101 ((n : Int) + 1) = x
      · have po : ∀ s, 0 ≤ s → s < 4 → s ≠ G 99 ((n : Int) + 1) → jpp G x s (n + 1) = -2 := fun s s0 s1 hs => by
          rw [jpp_o (fun z => hs z.symm), ← hk]
          exact c s s0 s1 hs
        have pt : jpp G x (G 99 ((n : Int) + 1)) (n + 1) = G 103 ((n : Int) + 1) := by rw [jpp_k rfl w1, if_pos hk]
        have pv : jpv G x (n + 1) = jpv G x n := jpv_o (by omega)
        have pA : jzA G x (n + 1) = G 103 ((n : Int) + 1) := jzA_k w1 hk
        refine ⟨fun s t s0 s1 t0 t1 hst hs => ?_, fun t t0 t1 ht => ?_, fun t t2 t3 ht => ?_⟩
        · by_cases z : s = G 99 ((n : Int) + 1)
          · exact po t t0 t1 (fun y => hst (z.trans y.symm))
          · exact absurd (po s s0 s1 z) hs
        · by_cases z : t = G 99 ((n : Int) + 1)
          · rw [pA, z, pt]
          · exact absurd (po t t0 t1 z) ht
        · by_cases z : t = G 99 ((n : Int) + 1)
          · have S3t := S3 t t2 t3 (fun s s0 s1 hs => by rw [← hk]; exact c s s0 s1 (fun y => hs (y.trans z.symm)))
            rw [pv, pA, ← S3t]
            by_cases w0 : G 98 ((n : Int) + 1) = 0
            · rw [jzL_0 z.symm w0]
              show jzU G (jzL G t n) x (if G 101 ((n : Int) + 1) = x then G 102 ((n : Int) + 1) else G 103 ((n : Int) + 1)) = _
              rw [if_pos hk, b w0, hk]
            · have w1' : G 98 ((n : Int) + 1) = 1 := by omega
              obtain ⟨d1, d2, l, d3⟩ := d w1'
              rw [jzL_1 z.symm w1', z, d3]
              show jzU G l x _ = jzU G l x (if G 101 (G 104 ((n : Int) + 1)) = x then G 102 (G 104 ((n : Int) + 1)) else _)
              rw [if_pos (by rw [← d1]; exact hk), d2]
          · have := ht (G 99 ((n : Int) + 1)) t0 t1 (fun y => z y.symm)
            rw [pt] at this
            omega
      · have pp : ∀ t, jpp G x t (n + 1) = jpp G x t n := fun t => by
          by_cases z : G 99 ((n : Int) + 1) = t
          · rw [jpp_k z w1, if_neg hk]
          · exact jpp_o z
        have pv : jpv G x (n + 1) = jpv G x n := jpv_o (by omega)
        have pA : jzA G x (n + 1) = jzA G x n := jzA_o (fun z => hk z.2)
        refine ⟨fun s t s0 s1 t0 t1 hst hs => ?_, fun t t0 t1 ht => ?_, fun t t2 t3 ht => ?_⟩
        · rw [pp] at hs ⊢
          exact S1 s t s0 s1 t0 t1 hst hs
        · rw [pp] at ht ⊢
          rw [pA]
          exact S2 t t0 t1 ht
        · rw [pv, pA, ← S3 t t2 t3 (fun s s0 s1 hs => by rw [← pp]; exact ht s s0 s1 hs)]
          by_cases z : G 99 ((n : Int) + 1) = t
          · by_cases w0 : G 98 ((n : Int) + 1) = 0
            · rw [jzL_0 z w0]
              show jzU G (jzL G t n) x (if G 101 ((n : Int) + 1) = x then G 102 ((n : Int) + 1) else jzA G x n) = _
              rw [if_neg hk]
            · have w1' : G 98 ((n : Int) + 1) = 1 := by omega
              obtain ⟨d1, d2, l, d3⟩ := d w1'
              rw [z] at d3
              rw [jzL_1 z w1', d3]
              show jzU G l x _ = jzU G l x (if G 101 (G 104 ((n : Int) + 1)) = x then G 102 (G 104 ((n : Int) + 1)) else _)
              rw [if_neg (by rw [← d1]; exact hk)]
          · rw [jzL_o z]
    · have pA : jzA G x (n + 1) = jzA G x n := jzA_o (fun z => w1 z.1)
      by_cases w2 : G 98 ((n : Int) + 1) = 2 ∨ G 98 ((n : Int) + 1) = 3
      · -- COMMIT, END
        obtain ⟨t0, t1⟩ := k2 (by omega)
        have po : ∀ s, s ≠ G 99 ((n : Int) + 1) → jpp G x s (n + 1) = jpp G x s n := fun s hs => jpp_o (fun z => hs z.symm)
        have pt : jpp G x (G 99 ((n : Int) + 1)) (n + 1) = -2 := jpp_e rfl w2
        have Lt : jzL G (G 99 ((n : Int) + 1)) (n + 1) = [] := jzL_e rfl w2
        refine ⟨fun s t s0 s1 t0 t1 hst hs => ?_, fun t t0 t1 ht => ?_, fun t t2 t3 ht => ?_⟩
        · by_cases z : s = G 99 ((n : Int) + 1)
          · rw [z] at hs; exact absurd pt hs
          · by_cases y : t = G 99 ((n : Int) + 1)
            · rw [y]; exact pt
            · rw [po s z] at hs
              rw [po t y]
              exact S1 s t s0 s1 t0 t1 hst hs
        · by_cases z : t = G 99 ((n : Int) + 1)
          · rw [z] at ht; exact absurd pt ht
          · rw [po t z] at ht ⊢
            rw [pA]
            exact S2 t t0 t1 ht
        · -- the value behind the end
          have hU : jpp G x (G 99 ((n : Int) + 1)) n ≠ -2 → (∀ s, 0 ≤ s → s < 4 → s ≠ G 99 ((n : Int) + 1) → jpp G x s n = -2) := fun hp s s0 s1 hs => S1 _ s t0 t1 s0 s1 (fun z => hs z.symm) hp
          have pv : jpv G x (n + 1) = if jpp G x (G 99 ((n : Int) + 1)) n ≠ -2 then jzA G x n else jpv G x n := by
            rcases w2 with w | w
            · show (if _ then _ else _) = _
              by_cases hp : jpp G x (G 99 ((n : Int) + 1)) n ≠ -2
              · rw [if_pos ⟨w, hp⟩, if_pos hp]
                exact (S2 _ t0 t1 hp).symm
              · rw [if_neg (fun z => hp z.2), if_neg hp]
            · rw [jpv_o (by omega)]
              by_cases hp : jpp G x (G 99 ((n : Int) + 1)) n ≠ -2
              · rw [if_pos hp, ← S3 _ t0 t1 (hU hp), e w]
                rfl
              · rw [if_neg hp]
          rw [pv, pA]
          by_cases z : t = G 99 ((n : Int) + 1)
          · rw [z, Lt]
            show jzA G x n = _
            by_cases hp : jpp G x (G 99 ((n : Int) + 1)) n ≠ -2
            · rw [if_pos hp]
            · rw [if_neg hp]
              have hp' : jpp G x (G 99 ((n : Int) + 1)) n = -2 := Decidable.not_not.mp hp
              rw [← S3 _ t0 t1 (fun s s0 s1 hs => by rw [← po s hs]; exact ht s s0 s1 (fun y => hs (y.trans z))), skip _ _ t0 hp']
          · rw [jzL_o (fun y => z y.symm)]
            by_cases hp : jpp G x (G 99 ((n : Int) + 1)) n ≠ -2
            · rw [if_pos hp]
              exact skip t _ t2 (hU hp t t2 t3 z)
            · rw [if_neg hp]
              refine S3 t t2 t3 (fun s s0 s1 hs => ?_)
              by_cases y : s = G 99 ((n : Int) + 1)
              · rw [y]; exact Decidable.not_not.mp hp
              · rw [← po s y]; exact ht s s0 s1 hs
      · -- others
        have h99 := k3 (by omega)
        have pp : ∀ t, 0 ≤ t → jpp G x t (n + 1) = jpp G x t n := fun t ht => jpp_o (by omega)
        have pv : jpv G x (n + 1) = jpv G x n := jpv_o (by omega)
        refine ⟨fun s t s0 s1 t0 t1 hst hs => ?_, fun t t0 t1 ht => ?_, fun t t2 t3 ht => ?_⟩
        · rw [pp s s0] at hs
          rw [pp t t0]
          exact S1 s t s0 s1 t0 t1 hst hs
        · rw [pp t t0] at ht ⊢
          rw [pA]
          exact S2 t t0 t1 ht
        · rw [pv, pA, jzL_o (by omega)]
          exact S3 t t2 t3 (fun s s0 s1 hs => by rw [← pp s s0]; exact ht s s0 s1 hs)
/-- a key that nobody has touched has its committed value -/
theorem jz_free {G : jg_G} {x : Int} {n : Nat} (hx : 0 ≤ x ∧ x < 32) (hF : jzF G n) (h : ∀ t, 0 ≤ t → t < 4 → jpp G x t n = -2) : jzA G x n = jpv G x n := by
  have S := (jz_sem hx n hF).2.2 0 (by decide) (by decide) (fun s s0 s1 _ => h s s0 s1)
  rw [← S, jzU_skip]
  exact fun u hu z => ((jz_key (by decide) n hF u hu).2 (by rw [z]; exact h 0 (by decide) (by decide)))
/-- one that has no record stands has touched nothing -/
theorem jpp_jt {G : jg_G} {x t : Int} : ∀ n : Nat, jt G t n = 0 → jpp G x t n = -2
  | 0, _ => rfl
  | n + 1, h => by
    by_cases e : G 99 ((n : Int) + 1) = t
    · by_cases e2 : G 98 ((n : Int) + 1) = 2 ∨ G 98 ((n : Int) + 1) = 3
      · exact jpp_e e e2
      · have : jt G t (n + 1) = (n : Int) + 1 := by
          show (if G 99 ((n : Int) + 1) = t then _ else _) = _
          rw [if_pos e, if_neg e2]
        omega
    · have : jt G t (n + 1) = jt G t n := by
        show (if G 99 ((n : Int) + 1) = t then _ else _) = _
        rw [if_neg e]
      rw [jpp_o e]
      exact jpp_jt n (by omega)
/-- what is to be undone is what was so behind the latest record -/
theorem jzL_jt {G : jg_G} {t : Int} : ∀ n : Nat, jzL G t n = jzL G t (jt G t n).toNat
  | 0 => rfl
  | n + 1 => by
    by_cases e : G 99 ((n : Int) + 1) = t
    · by_cases e2 : G 98 ((n : Int) + 1) = 2 ∨ G 98 ((n : Int) + 1) = 3
      · have : jt G t (n + 1) = 0 := by
          show (if G 99 ((n : Int) + 1) = t then _ else _) = _
          rw [if_pos e, if_pos e2]
        rw [this, jzL_e e e2]
        rfl
      · have : jt G t (n + 1) = (n : Int) + 1 := by
          show (if G 99 ((n : Int) + 1) = t then _ else _) = _
          rw [if_pos e, if_neg e2]
        rw [this, show ((n : Int) + 1).toNat = n + 1 by omega]
    · have : jt G t (n + 1) = jt G t n := by
        show (if G 99 ((n : Int) + 1) = t then _ else _) = _
        rw [if_neg e]
      rw [this, jzL_o e]
      exact jzL_jt n
