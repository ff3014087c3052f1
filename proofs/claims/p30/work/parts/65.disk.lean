/-! THE DISK: class and reference alike -/
/-- only ints of things in S have changed -/
def jk_s (S : Nat → Prop) (K K' : jc_K) : Prop := (K'.1 = K.1 ∧ K'.2.1 = K.2.1 ∧ K'.2.2.2 = K.2.2.2) ∧ ∀ n, ¬ S n → ∀ i, jc_i K' n i = jc_i K n i
section JkS
variable {S T : Nat → Prop} {K K' K'' : jc_K}
theorem jk_s.refl : jk_s S K K := ⟨⟨rfl, rfl, rfl⟩, fun _ _ _ => rfl⟩
theorem jk_s.trans (h : jk_s S K K') (h2 : jk_s S K' K'') : jk_s S K K'' := ⟨⟨h2.1.1.trans h.1.1, h2.1.2.1.trans h.1.2.1, h2.1.2.2.trans h.1.2.2⟩, fun n h3 i => (h2.2 n h3 i).trans (h.2 n h3 i)⟩
theorem jk_s.mono (h : jk_s S K K') (hs : ∀ n, S n → T n) : jk_s T K K' := ⟨h.1, fun n hn i => h.2 n (fun z => hn (hs n z)) i⟩
theorem jk_s.u {n : Nat} {i v : Int} (hn : S n) : jk_s S K (jc_ui K n i v) := ⟨⟨rfl, rfl, rfl⟩, fun m hm j => jc_uN (fun e => hm (by rw [e]; exact hn))⟩
theorem jk_s.f {p : Nat} (h : jk_f K K' p) (h0 : S p) (h1 : S (p + 1)) : jk_s S K K' := ⟨h.1, fun n hn i => h.2 n (fun e => hn (by rw [e]; exact h0)) (fun e => hn (by rw [e]; exact h1)) i⟩
theorem jk_s.pg (h : jk_s S K K') {q : Nat} (h2 : jc_pg K q) : jc_pg K' q := by
  obtain ⟨⟨e1, e2, e3⟩, _⟩ := h
  unfold jc_pg at *
  rw [e1, e2, e3]
  exact h2
theorem jk_s.rc (h : jk_s S K K') {q : Nat} (h2 : jc_rc K q) : jc_rc K' q := by
  obtain ⟨⟨e1, e2, e3⟩, _⟩ := h
  unfold jc_rc at *
  rw [e1, e2, e3]
  exact h2
theorem jk_s.k (h : jk_s S K K') {q : Nat} {c : jp_C} (h0 : ¬ S q) (h1 : ¬ S (q + 1)) (h2 : jp_k K q c) : jp_k K' q c := by
  obtain ⟨h3, h4, h5, h6⟩ := h2
  exact ⟨h.pg h3, (h.2 q h0 0).trans h4, (h.2 q h0 2).trans h5, fun i i0 i1 => (h.2 _ h1 i).trans (h6 i i0 i1)⟩
end JkS
/-- the log is the same, all of it -/
def jl_s (G G' : jg_G) : Prop := (∀ m, 98 ≤ m → m ≤ 106 → ∀ j, G' m j = G m j) ∧ ∀ j, 67 * 54 ≤ j → G' 93 j = G 93 j
theorem jl_s.refl (G : jg_G) : jl_s G G := ⟨fun _ _ _ _ => rfl, fun _ _ => rfl⟩
theorem jl_s.trans {G G' G'' : jg_G} (h : jl_s G G') (h2 : jl_s G' G'') : jl_s G G'' := ⟨fun m a b j => (h2.1 m a b j).trans (h.1 m a b j), fun j a => (h2.2 j a).trans (h.2 j a)⟩
theorem jl_s.a {G G' : jg_G} (h : jl_s G G') (n : Int) : jl_a G G' n := fun m j e => by
  rcases e with e | e | e
  · exact h.1 m (by omega) (by omega) j
  · exact h.1 m (by omega) (by omega) j
  · rw [e.1]; exact h.2 j e.2.1
theorem jl_s.h {G G' : jg_G} (h : jl_s G G') (n : Nat) (p : Int) : jh G' n p = jh G n p := (h.a n).h p n (Int.le_refl _)
theorem jl_s.v {G G' : jg_G} (h : jl_s G G') (p : Int) (n : Nat) : jv G' p n = jv G p n := (h.a n).v p n (Int.le_refl _)
theorem jl_s.t {G G' : jg_G} (h : jl_s G G') (t : Int) (n : Nat) : jt G' t n = jt G t n := (h.a n).t t n (Int.le_refl _)
/-- a row holds a version of a page, of a record not above D -/
def jd_h (G : jg_G) (D r p : Int) : Prop := ∃ v : Nat, G 93 (67 * r + 1) = v ∧ (v : Int) ≤ D ∧ jv G p v = v ∧ jp_w (jh G v p) ∧ jp_r G r (jh G v p)
/-- a page of the class holds the version that the row holds -/
def jd_k (K : jc_K) (q : Nat) (G : jg_G) (r p : Int) : Prop := jc_i K q 1 = G 93 (67 * r + 1) ∧ jp_k K q (jh G (G 93 (67 * r + 1)).toNat p)
def jd_t (K : jc_K) (G : jg_G) (D p : Int) : Prop := (G 94 52 = G 94 53 ∧ 0 < G 92 3 ∧ G 92 4 = p ∧ jc_i K 3 4 = p) ∧ (jd_h G D 52 p ∧ jd_h G D 53 p ∧ G 93 (67 * 52 + 1) = G 93 (67 * 53 + 1) ∧ jd_k K 7 G 53 p) ∧ G 93 (67 * (4 + 2 * p) + 1) ≤ G 93 (67 * 53 + 1) ∧ G 93 (67 * (5 + 2 * p) + 1) ≤ G 93 (67 * 53 + 1) ∧ G 94 (4 + 2 * p) = G 94 52
def jd_p (K : jc_K) (G : jg_G) (D p : Int) : Prop := (jc_i K 5 p = G 94 (4 + 2 * p) ∧ jc_i K 6 p = G 94 (5 + 2 * p)) ∧ (jd_h G D (4 + 2 * p) p ∧ jd_h G D (5 + 2 * p) p) ∧ jd_k K (9 + 2 * p.toNat) G (5 + 2 * p) p ∧ (G 94 (4 + 2 * p) = G 94 (5 + 2 * p) → G 93 (67 * (4 + 2 * p) + 1) = G 93 (67 * (5 + 2 * p) + 1)) ∧ (G 94 (4 + 2 * p) ≠ G 94 (5 + 2 * p) → jd_t K G D p)
def jdc (K : jc_K) (G : jg_G) (D : Int) : Prop := (jc_i K 3 7 = G 92 3 ∧ jc_i K 3 5 = G 94 52 ∧ jc_i K 3 6 = G 94 53 ∧ (-1 ≤ jc_i K 3 4 ∧ jc_i K 3 4 < 24) ∧ (0 ≤ G 92 4 ∧ G 92 4 < 24) ∧ jc_pg K 7) ∧ (∀ i, 0 ≤ i → i < 54 → 0 ≤ G 94 i ∧ G 94 i ≤ G 92 3) ∧ ∀ p, 0 ≤ p → p < 24 → jd_p K G D p
/-- rows alike -/
theorem jd_h.m {G G' : jg_G} {D D' r r' p : Int} (h : jd_h G D r p) (hl : jl_s G G') (hr : ∀ j, 0 ≤ j → j < 67 → G' 93 (67 * r' + j) = G 93 (67 * r + j)) (hD : D ≤ D') : jd_h G' D' r' p := by
  obtain ⟨v, h1, h2, h3, h4, h5⟩ := h
  refine ⟨v, (hr 1 (by decide) (by decide)).trans h1, by omega, by rw [hl.v]; exact h3, by rw [hl.h]; exact h4, ?_⟩
  rw [hl.h]
  have hb := h4.1.2
  refine ⟨?_, (hr 2 (by decide) (by decide)).trans h5.2.1, fun i i0 i1 => ⟨?_, ?_⟩⟩
  · have := hr 0 (by decide) (by decide)
    rw [Int.add_zero, Int.add_zero] at this
    exact this.trans h5.1
  · rw [Int.add_assoc, hr (3 + 2 * i) (by omega) (by omega), ← Int.add_assoc]
    exact (h5.2.2 i i0 i1).1
  · rw [Int.add_assoc, hr (4 + 2 * i) (by omega) (by omega), ← Int.add_assoc]
    exact (h5.2.2 i i0 i1).2
theorem jd_k.m {K K' : jc_K} {q q' : Nat} {G G' : jg_G} {r r' p : Int} (h : jd_k K q G r p) (hl : jl_s G G') (hn : G' 93 (67 * r' + 1) = G 93 (67 * r + 1)) (h1 : jc_i K' q' 1 = jc_i K q 1) (hk : ∀ c, jp_k K q c → jp_k K' q' c) : jd_k K' q' G' r' p := by
  refine ⟨by rw [hn, h1]; exact h.1, ?_⟩
  rw [hn, hl.h]
  exact hk _ h.2
/-- one half written: the row to is now as the row f, and bears the writing's number -/
def jx_e (G G' : jg_G) (f to : Int) : Prop := (∀ j, 0 ≤ j → j < 67 → G' 93 (67 * to + j) = G 93 (67 * f + j)) ∧ (∀ j, ¬ (67 * to ≤ j ∧ j < 67 * to + 67) → G' 93 j = G 93 j) ∧ G' 94 to = G 92 3 ∧ (∀ i, i ≠ to → G' 94 i = G 94 i) ∧ (∀ i, i ≠ 5 → i ≠ 6 → G' 92 i = G 92 i) ∧ ∀ n, n ≠ 92 → n ≠ 93 → n ≠ 94 → ∀ j, G' n j = G n j
theorem jx_h_e (G : jg_G) (f to : Int) : jx_e G (jx_h G f to) f to := by
  have a : ∀ n j, n ≠ 92 → fr_w G 1 n j = G n j := fun n j h => (jg_uN h).trans (jg_uN h)
  refine ⟨fun j j0 j1 => ?_, fun j hj => ?_, jg_uH, fun i hi => ?_, fun i h5 h6 => jx_h92 h5 h6, fun n h2 h3 h4 j => ?_⟩
  · unfold jx_h fr_copies
    rw [jg_uN (by decide)]
    show (if (93 : Nat) = 93 ∧ _ then _ else _) = _
    rw [if_pos ⟨rfl, by omega, by omega⟩, a _ _ (by decide)]
    congr 1
    omega
  · unfold jx_h fr_copies
    rw [jg_uN (by decide)]
    show (if (93 : Nat) = 93 ∧ _ then _ else _) = _
    rw [if_neg (fun z => hj z.2), a _ _ (by decide)]
  · unfold jx_h fr_copies
    rw [jg_uI hi]
    show (if (94 : Nat) = 93 ∧ _ then _ else _) = _
    rw [if_neg (fun z => absurd z.1 (by decide)), a _ _ (by decide)]
  · unfold jx_h fr_copies
    rw [jg_uN h4]
    show (if n = 93 ∧ _ then _ else _) = _
    rw [if_neg (fun z => h3 z.1), a _ _ h2]
theorem jx_e.l {G G' : jg_G} {f to : Int} (h : jx_e G G' f to) (ht : to < 54) : jl_s G G' := ⟨fun m a b j => h.2.2.2.2.2 m (by omega) (by omega) (by omega) j, fun j hj => h.2.1 j (by omega)⟩
theorem jx_e.row {G G' : jg_G} {f to r : Int} (h : jx_e G G' f to) (hr : r ≠ to) : ∀ j, 0 ≤ j → j < 67 → G' 93 (67 * r + j) = G 93 (67 * r + j) := fun j j0 j1 => h.2.1 _ (by omega)
/-- what does not touch the disk's contents keeps them -/
theorem jdc.keep {K K' : jc_K} {G G' : jg_G} {D D' : Int} (h : jdc K G D) (hD : D ≤ D') (hK : (K'.1 = K.1 ∧ K'.2.1 = K.2.1 ∧ K'.2.2.2 = K.2.2.2) ∧ (∀ i, i = 4 ∨ i = 5 ∨ i = 6 → jc_i K' 3 i = jc_i K 3 i) ∧ ∀ n, 5 ≤ n → n < 57 → ∀ i, jc_i K' n i = jc_i K n i) (h7 : jc_i K' 3 7 = G' 92 3) (hw : G 92 3 ≤ G' 92 3) (h4 : G' 92 4 = G 92 4) (hl : jl_s G G') (hr : ∀ j, 67 * 4 ≤ j → j < 67 * 54 → G' 93 j = G 93 j) (h94 : ∀ i, G' 94 i = G 94 i) : jdc K' G' D' := by
  obtain ⟨⟨a1, a2, a3, a4, a5, a6⟩, b, c⟩ := h
  have s : jk_s (fun n => ¬ (5 ≤ n ∧ n < 57)) K K' := ⟨hK.1, fun n hn i => by
    have hn : 5 ≤ n ∧ n < 57 := Decidable.byContradiction hn
    exact hK.2.2 n hn.1 hn.2 i⟩
  have row : ∀ r, 4 ≤ r → r < 54 → ∀ j, 0 ≤ j → j < 67 → G' 93 (67 * r + j) = G 93 (67 * r + j) := fun r r0 r1 j j0 j1 => hr _ (by omega) (by omega)
  refine ⟨⟨h7, by rw [hK.2.1 5 (by omega), h94]; exact a2, by rw [hK.2.1 6 (by omega), h94]; exact a3, by rw [hK.2.1 4 (by omega)]; exact a4, by rw [h4]; exact a5, s.pg a6⟩, fun i i0 i1 => by rw [h94]; have := b i i0 i1; omega, fun p p0 p1 => ?_⟩
  obtain ⟨c1, c2, c3, c4, c5⟩ := c p p0 p1
  have kk : ∀ q, 5 ≤ q → q + 1 < 57 → ∀ c, jp_k K q c → jp_k K' q c := fun q q0 q1 c hc => s.k (by simp only [Classical.not_not]; omega) (by simp only [Classical.not_not]; omega) hc
  have n1 : ∀ r, 4 ≤ r → r < 54 → G' 93 (67 * r + 1) = G 93 (67 * r + 1) := fun r r0 r1 => row r r0 r1 1 (by decide) (by decide)
  refine ⟨⟨by rw [hK.2.2 5 (by decide) (by decide), h94]; exact c1.1, by rw [hK.2.2 6 (by decide) (by decide), h94]; exact c1.2⟩, ⟨c2.1.m hl (row _ (by omega) (by omega)) hD, c2.2.m hl (row _ (by omega) (by omega)) hD⟩, c3.m hl (n1 _ (by omega) (by omega)) (hK.2.2 _ (by omega) (by omega) _) (kk _ (by omega) (by omega)), fun e => ?_, fun e => ?_⟩
  · rw [n1 _ (by omega) (by omega), n1 _ (by omega) (by omega)]
    rw [h94, h94] at e
    exact c4 e
  · rw [h94, h94] at e
    obtain ⟨⟨t1, t2, t3, t4⟩, ⟨t5, t6, t7, t8⟩, t9, t10, t11⟩ := c5 e
    refine ⟨⟨by rw [h94, h94]; exact t1, by omega, by rw [h4]; exact t3, by rw [hK.2.1 4 (by omega)]; exact t4⟩, ⟨t5.m hl (row _ (by decide) (by decide)) hD, t6.m hl (row _ (by decide) (by decide)) hD, by rw [n1 52 (by decide) (by decide), n1 53 (by decide) (by decide)]; exact t7, t8.m hl (n1 _ (by decide) (by decide)) (hK.2.2 7 (by decide) (by decide) _) (kk 7 (by decide) (by decide))⟩, ?_, ?_, by rw [h94, h94]; exact t11⟩
    · rw [n1 53 (by decide) (by decide), n1 _ (by omega) (by omega)]; exact t9
    · rw [n1 53 (by decide) (by decide), n1 _ (by omega) (by omega)]; exact t10
