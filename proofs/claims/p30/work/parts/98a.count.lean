/-! WHAT HOLDS OF THE LOG, at each of its beginnings: counts -/
def jsum (f : Int → Nat) : Nat → Nat
  | 0 => 0
  | n + 1 => jsum f n + f n
theorem jsum_e {f g : Int → Nat} : ∀ n : Nat, (∀ i : Nat, i < n → f i = g i) → jsum f n = jsum g n
  | 0, _ => rfl
  | n + 1, h => by
    unfold jsum
    rw [jsum_e n (fun i hi => h i (by omega)), h n (by omega)]
theorem jsum_u {f g : Int → Nat} {j d : Nat} (hd : f j + d = g j) : ∀ n : Nat, j < n → (∀ i : Nat, i < n → i ≠ j → f i = g i) → jsum f n + d = jsum g n
  | 0, h, _ => absurd h (Nat.not_lt_zero _)
  | n + 1, h, h2 => by
    unfold jsum
    by_cases e : j = n
    · subst e
      have := jsum_e (f := f) (g := g) j (fun i hi => h2 i (by omega) (by omega))
      omega
    · have := jsum_u (f := f) (g := g) hd n (by omega) (fun i hi hj => h2 i (by omega) hj)
      have := h2 n (by omega) (by omega)
      omega
theorem jsum_le {f g : Int → Nat} : ∀ n : Nat, (∀ i : Nat, i < n → f i ≤ g i) → jsum f n ≤ jsum g n
  | 0, _ => Nat.le_refl _
  | n + 1, h => by
    unfold jsum
    have := jsum_le n (fun i hi => h i (by omega))
    have := h n (by omega)
    omega
theorem jsum_ge {f : Int → Nat} {j : Nat} : ∀ n : Nat, j < n → f j ≤ jsum f n
  | 0, h => absurd h (Nat.not_lt_zero _)
  | n + 1, h => by
    unfold jsum
    by_cases e : j = n
    · subst e; omega
    · have := jsum_ge (f := f) (j := j) n (by omega)
      omega
def jcw (G : jg_G) (w : Int) : Nat → Nat
  | 0 => 0
  | n + 1 => jcw G w n + (if G 98 ((n : Int) + 1) = w then 1 else 0)
theorem jl_a.cw {G G' : jg_G} {n : Int} (h : jl_a G G' n) (w : Int) : ∀ m : Nat, (m : Int) ≤ n → jcw G' w m = jcw G w m
  | 0, _ => rfl
  | m + 1, hm => by
    unfold jcw
    rw [h.cw w m (by omega), h.l (m := 98) (by decide) (by omega) (by omega)]
theorem jcw_mono (G : jg_G) (w : Int) : ∀ (k n : Nat), jcw G w n ≤ jcw G w (n + k)
  | 0, n => Nat.le_refl _
  | k + 1, n => Nat.le_trans (jcw_mono G w k n) (Nat.le_add_right _ _)
theorem jcw_mono2 (G : jg_G) (w : Int) {n m : Nat} (h : n ≤ m) : jcw G w n ≤ jcw G w m := by
  have := jcw_mono G w (m - n) n
  rw [show n + (m - n) = m by omega] at this
  exact this
theorem jcw_all {G : jg_G} : ∀ n : Nat, (∀ r : Nat, 1 ≤ r → r ≤ n → 0 ≤ G 98 r ∧ G 98 r ≤ 7) → jcw G 0 n + jcw G 1 n + jcw G 2 n + jcw G 3 n + jcw G 4 n + jcw G 5 n + jcw G 6 n + jcw G 7 n = n
  | 0, _ => rfl
  | n + 1, h => by
    have ih := jcw_all n (fun r a b => h r a (by omega))
    have h1 := h (n + 1) (by omega) (Nat.le_refl _)
    rw [show (((n + 1 : Nat) : Nat) : Int) = (n : Int) + 1 by omega] at h1
    unfold jcw
    rcases (show G 98 ((n : Int) + 1) = 0 ∨ G 98 ((n : Int) + 1) = 1 ∨ G 98 ((n : Int) + 1) = 2 ∨ G 98 ((n : Int) + 1) = 3 ∨ G 98 ((n : Int) + 1) = 4 ∨ G 98 ((n : Int) + 1) = 5 ∨ G 98 ((n : Int) + 1) = 6 ∨ G 98 ((n : Int) + 1) = 7 by omega) with e | e | e | e | e | e | e | e <;> rw [e] <;> simp <;> omega
theorem jt_b (G : jg_G) (t : Int) : ∀ n : Nat, 0 ≤ jt G t n ∧ jt G t n ≤ n
  | 0 => ⟨Int.le_refl _, Int.le_refl _⟩
  | n + 1 => by
    have := jt_b G t n
    unfold jt
    split
    · split <;> omega
    · omega
/-- how many CHANGEs are still to be undone, going back from r -/
def jpl (G : jg_G) : Nat → Int → Nat
  | 0, _ => 0
  | f + 1, r => if r ≤ 0 then 0 else if G 98 r = 0 then jpl G f (G 100 r) + 1 else if G 98 r = 1 then jpl G f (G 100 (G 104 r)) else jpl G f (G 100 r)
def jl_1 (G : jg_G) (r : Nat) : Prop := (0 ≤ G 98 r ∧ G 98 r ≤ 7) ∧ ((G 98 r ≤ 3 → 0 ≤ G 99 r ∧ G 99 r < 4) ∧ (4 ≤ G 98 r → G 99 r = -1)) ∧ G 100 r = (if G 99 r = -1 then 0 else jt G (G 99 r) (r - 1)) ∧ (G 98 r = 0 → -1 ≤ G 102 r ∧ G 102 r < 1000) ∧ (G 98 r = 1 → ∃ u : Nat, G 104 r = u ∧ 1 ≤ u ∧ u < r ∧ G 98 u = 0 ∧ G 99 u = G 99 r) ∧ (2 ≤ G 98 r → G 101 r = -1)
theorem jl_1.ah {G : jg_G} {r : Nat} (h : jl_1 G r) (h1 : 1 ≤ r) : 0 ≤ G 100 r ∧ G 100 r < r := by
  rw [h.2.2.1]
  split
  · omega
  · have := jt_b G (G 99 r) (r - 1)
    omega
theorem jl_1.a {G G' : jg_G} {n : Int} {r : Nat} (h : jl_1 G r) (hl : jl_a G G' n) (h1 : 1 ≤ r) (h2 : (r : Int) ≤ n) : jl_1 G' r := by
  have l := fun (m : Nat) (hm : 98 ≤ m ∧ m ≤ 105) => hl.l (m := m) (r := (r : Int)) hm (by omega) h2
  unfold jl_1
  rw [l 98 (by decide), l 99 (by decide), l 100 (by decide), l 101 (by decide), l 102 (by decide), l 104 (by decide), hl.t _ (r - 1) (by omega)]
  refine ⟨h.1, h.2.1, h.2.2.1, h.2.2.2.1, fun z => ?_, h.2.2.2.2.2⟩
  obtain ⟨u, u1, u2, u3, u4, u5⟩ := h.2.2.2.2.1 z
  exact ⟨u, u1, u2, u3, by rw [hl.l (m := 98) (by decide) (by omega) (by omega)]; exact u4, by rw [hl.l (m := 99) (by decide) (by omega) (by omega)]; exact u5⟩
/-- enough fuel is enough -/
theorem jpl_f {G : jg_G} {n : Nat} (h : ∀ r : Nat, 1 ≤ r → r ≤ n → jl_1 G r) : ∀ (f f' : Nat) (r : Int), r ≤ f → r ≤ f' → r ≤ n → jpl G f r = jpl G f' r
  | 0, 0, r, _, _, _ => rfl
  | 0, f' + 1, r, h1, _, _ => by
    unfold jpl
    rw [if_pos (show r ≤ 0 by omega)]
  | f + 1, 0, r, _, h2, _ => by
    unfold jpl
    rw [if_pos (show r ≤ 0 by omega)]
  | f + 1, f' + 1, r, h1, h2, h3 => by
    unfold jpl
    by_cases e : r ≤ 0
    · rw [if_pos e, if_pos e]
    · rw [if_neg e, if_neg e]
      have er : ((r.toNat : Nat) : Int) = r := by omega
      have j := h r.toNat (by omega) (by omega)
      have a := j.ah (by omega)
      rw [er] at a
      by_cases k0 : G 98 r = 0
      · rw [if_pos k0, if_pos k0, jpl_f h f f' _ (by omega) (by omega) (by omega)]
      · rw [if_neg k0, if_neg k0]
        by_cases k1 : G 98 r = 1
        · rw [if_pos k1, if_pos k1]
          have j5 := j.2.2.2.2.1
          rw [er] at j5
          obtain ⟨u, u1, u2, u3, u4, u5⟩ := j5 k1
          have au := (h u u2 (by omega)).ah u2
          rw [u1]
          exact jpl_f h f f' _ (by omega) (by omega) (by omega)
        · rw [if_neg k1, if_neg k1]
          exact jpl_f h f f' _ (by omega) (by omega) (by omega)
theorem jl_a.pl {G G' : jg_G} {n : Nat} (hl : jl_a G G' n) (h : ∀ r : Nat, 1 ≤ r → r ≤ n → jl_1 G r) : ∀ (f : Nat) (r : Int), r ≤ n → jpl G' f r = jpl G f r
  | 0, _, _ => rfl
  | f + 1, r, h3 => by
    unfold jpl
    by_cases e : r ≤ 0
    · rw [if_pos e, if_pos e]
    · rw [if_neg e, if_neg e]
      have er : ((r.toNat : Nat) : Int) = r := by omega
      have j := h r.toNat (by omega) (by omega)
      have a := j.ah (by omega)
      rw [er] at a
      rw [hl.l (m := 98) (by decide) (by omega) (by omega), hl.l (m := 100) (by decide) (by omega) (by omega), hl.l (m := 104) (by decide) (by omega) (by omega)]
      by_cases k0 : G 98 r = 0
      · rw [if_pos k0, if_pos k0, hl.pl h f _ (by omega)]
      · rw [if_neg k0, if_neg k0]
        by_cases k1 : G 98 r = 1
        · rw [if_pos k1, if_pos k1]
          have j5 := j.2.2.2.2.1
          rw [er] at j5
          obtain ⟨u, u1, u2, u3, u4, u5⟩ := j5 k1
          have au := (h u u2 (by omega)).ah u2
          rw [u1, hl.l (m := 100) (by decide) (by omega) (by omega)]
          exact hl.pl h f _ (by omega)
        · rw [if_neg k1, if_neg k1]
          exact hl.pl h f _ (by omega)
def jnf (g : Int → jp_C) : Nat := jsum (fun p => if (g p).1 = 0 then 0 else 1) 24
def jpd (G : jg_G) (n : Nat) : Nat := jsum (fun t => jpl G n (jt G t n)) 4
/-- at most one page is not as it stays -/
def jT_q (g : Int → jp_C) : Prop := ∃ e : Int, (∀ p, 1 ≤ p → p < 24 → (g p).1 ≠ 0 → p ≠ e → 0 < (g p).2.1) ∧ ((g 0).1 = 2 → 1 ≤ (g 0).2.1) ∧ ((g 0).1 = 2 → (g 0).2.1 = 1 → ∀ p, 1 ≤ p → p < 24 → (g p).1 ≠ 0 → 0 < (g p).2.1)
theorem jT_q.e {g g' : Int → jp_C} (h : jT_q g) (he : ∀ z, 0 ≤ z → z < 24 → (g' z).1 = (g z).1 ∧ (g' z).2.1 = (g z).2.1) : jT_q g' := by
  obtain ⟨e, a, b, c⟩ := h
  have h0 := he 0 (by decide) (by decide)
  refine ⟨e, fun p p0 p1 k z => ?_, fun k => ?_, fun k k1 p p0 p1 k2 => ?_⟩
  · have hp := he p (by omega) p1
    rw [hp.2]; exact a p p0 p1 (by rw [← hp.1]; exact k) z
  · rw [h0.2]; exact b (by rw [← h0.1]; exact k)
  · have hp := he p (by omega) p1
    rw [hp.2]; exact c (by rw [← h0.1]; exact k) (by rw [← h0.2]; exact k1) p p0 p1 (by rw [← hp.1]; exact k2)
theorem jT_z.q {g : Int → jp_C} (h : jT_z g) : jT_q g := ⟨-1, fun p p0 p1 k _ => h.1 p p0 p1 k, fun k => by have := h.2 k; omega, fun _ _ p p0 p1 k => h.1 p p0 p1 k⟩
/-- what is due of keys behind the records 1 to n -/
def jl_3 (G : jg_G) (n : Nat) : Prop := jzE (fun p => jh G n p) (fun x => jzA G x n) ∧ jzD (fun p => jh G n p) ∧ ∀ m : Nat, n = m + 1 → jl_9 G m
theorem jl_9.a {G G' : jg_G} {n m : Nat} (h : jl_9 G m) (hl : jl_a G G' n) (h1 : jl_1 G (m + 1)) (h2 : m + 1 ≤ n) : jl_9 G' m := by
  have e : ((m + 1 : Nat) : Int) = (m : Int) + 1 := by omega
  have u := h1.2.2.2.2.1
  rw [e] at u
  obtain ⟨a, b, c, d, f⟩ := h
  have g : ∀ k, 98 ≤ k ∧ k ≤ 105 → G' k ((m : Int) + 1) = G k ((m : Int) + 1) := fun k hk => hl.l hk (by omega) (by omega)
  unfold jl_9
  rw [g 98 (by decide), g 101 (by decide), g 103 (by decide), g 102 (by decide), g 99 (by decide), g 104 (by decide)]
  refine ⟨a, fun w => by rw [hl.zA _ m (by omega)]; exact b w, fun w s s0 s1 hs => by rw [hl.pp _ s m (by omega)]; exact c w s s0 s1 hs, fun w => ?_, fun w => by rw [hl.zL _ m (by omega)]; exact f w⟩
  obtain ⟨u, u1, u2, u3, -⟩ := u w
  rw [hl.zL _ m (by omega), u1, hl.l (m := 101) (by decide) (by omega) (by omega), hl.l (m := 102) (by decide) (by omega) (by omega), ← u1]
  exact d w
theorem jl_3.a {G G' : jg_G} {n m : Nat} (h : jl_3 G m) (hl : jl_a G G' n) (h1 : ∀ r : Nat, 1 ≤ r → r ≤ n → jl_1 G r) (h2 : m ≤ n) : jl_3 G' m := by
  have e2 : (fun p => jh G' m p) = fun p => jh G m p := funext (fun p => hl.h p m (by omega))
  have e3 : (fun x => jzA G' x m) = fun x => jzA G x m := funext (fun x => hl.zA x m (by omega))
  unfold jl_3
  rw [e2, e3]
  exact ⟨h.1, h.2.1, fun k hk => (h.2.2 k hk).a hl (h1 (k + 1) (by omega) (by omega)) (by omega)⟩
def jl_2 (G : jg_G) (n : Nat) : Prop := jT_q (fun p => jh G n p) ∧ jcw G 1 n + jpd G n ≤ jcw G 0 n ∧ jnf (fun p => jh G n p) + jcw G 6 n + jcw G 7 n ≤ 1 + 2 * jcw G 5 n ∧ jl_3 G n
def jLg (G : jg_G) (N : Nat) : Prop := (∀ r : Nat, 1 ≤ r → r ≤ N → jl_1 G r) ∧ (∀ n : Nat, n ≤ N → ∃ lo hi rk, jTs (fun p => jh G n p) lo hi rk) ∧ ∀ n : Nat, n ≤ N → jl_2 G n
theorem jl_2.a {G G' : jg_G} {n m : Nat} (h : jl_2 G m) (hl : jl_a G G' n) (h1 : ∀ r : Nat, 1 ≤ r → r ≤ n → jl_1 G r) (h2 : m ≤ n) : jl_2 G' m := by
  have e1 : jpd G' m = jpd G m := by
    unfold jpd
    refine jsum_e 4 (fun i hi => ?_)
    rw [hl.t _ m (by omega)]
    have := jt_b G i m
    exact hl.pl h1 m _ (by omega)
  have e2 : (fun p => jh G' m p) = fun p => jh G m p := funext (fun p => hl.h p m (by omega))
  unfold jl_2
  rw [e1, e2, hl.cw 1 m (by omega), hl.cw 0 m (by omega), hl.cw 6 m (by omega), hl.cw 7 m (by omega), hl.cw 5 m (by omega)]
  exact ⟨h.1, h.2.1, h.2.2.1, h.2.2.2.a hl h1 h2⟩
theorem jLg.a {G G' : jg_G} {n m : Nat} (h : jLg G n) (hl : jl_a G G' m) (h2 : m ≤ n) : jLg G' m := by
  refine ⟨fun r a b => (h.1 r a (by omega)).a hl a (by omega), fun k hk => ?_, fun k hk => ?_⟩
  · have e2 : (fun p => jh G' k p) = fun p => jh G k p := funext (fun p => hl.h p k (by omega))
    rw [e2]
    exact h.2.1 k (by omega)
  · exact (h.2.2 k (by omega)).a hl (fun r a b => h.1 r a (by omega)) hk
theorem jLg.le {G : jg_G} {n m : Nat} (h : jLg G n) (h2 : m ≤ n) : jLg G m := h.a (jl_a.refl G m) h2
/-- the log grows by one -/
theorem jLg.up {G G' : jg_G} {N : Nat} (h : jLg G N) (hl : jl_a G G' N) (h1 : jl_1 G' (N + 1)) (h2 : ∃ lo hi rk, jTs (fun p => jh G' (N + 1) p) lo hi rk) (h3 : jl_2 G' (N + 1)) : jLg G' (N + 1) := by
  have b := h.a hl (Nat.le_refl _)
  refine ⟨fun r r0 r1 => ?_, fun n hn => ?_, fun n hn => ?_⟩
  · by_cases e : r = N + 1
    · rw [e]; exact h1
    · exact b.1 r r0 (by omega)
  · by_cases e : n = N + 1
    · rw [e]; exact h2
    · exact b.2.1 n (by omega)
  · by_cases e : n = N + 1
    · rw [e]; exact h3
    · exact b.2.2 n (by omega)
theorem jLg.len {G : jg_G} {N : Nat} (h : jLg G N) {E B : Nat} (hE : 2 * (jcw G 2 N + jcw G 3 N) ≤ E) (hB : jcw G 0 N + jcw G 5 N + jcw G 4 N ≤ B) : 2 * N ≤ 6 * B + E := by
  have a := jcw_all N (fun r r0 r1 => (h.1 r r0 r1).1)
  obtain ⟨_, b, c, -⟩ := h.2.2 N (Nat.le_refl _)
  have d : 1 ≤ jnf (fun p => jh G N p) := by
    obtain ⟨lo, hi, rk, hT⟩ := h.2.1 N (Nat.le_refl _)
    have := jsum_ge (f := fun p => if (jh G N p).1 = 0 then 0 else 1) (j := 0) 24 (by decide)
    have r := hT.1.2.1
    have e : (if (jh G N ((0 : Nat) : Int)).1 = 0 then 0 else 1) = 1 := if_neg r
    rw [e] at this
    exact this
  omega
