/-! THE CLASS'S THINGS GROW: what is made stays; owners; room -/
def jk_g (S : Nat → Prop) (K K' : jc_K) : Prop := K.1.1 ≤ K'.1.1 ∧ (∀ n, n < K.1.1 → K'.2.1 n = K.2.1 n) ∧ (∀ n i, n < K.1.1 → ¬ S n → jc_p K' n i = jc_p K n i) ∧ ∀ n i, n < K.1.1 → ¬ S n → jc_i K' n i = jc_i K n i
section JkG
variable {S T : Nat → Prop} {K K' K'' : jc_K}
theorem jk_g.refl : jk_g S K K := ⟨Nat.le_refl _, fun _ _ => rfl, fun _ _ _ _ => rfl, fun _ _ _ _ => rfl⟩
theorem jk_g.trans (h : jk_g S K K') (h2 : jk_g S K' K'') : jk_g S K K'' :=
  ⟨Nat.le_trans h.1 h2.1, fun n a => (h2.2.1 n (Nat.lt_of_lt_of_le a h.1)).trans (h.2.1 n a), fun n i a b => (h2.2.2.1 n i (Nat.lt_of_lt_of_le a h.1) b).trans (h.2.2.1 n i a b), fun n i a b => (h2.2.2.2 n i (Nat.lt_of_lt_of_le a h.1) b).trans (h.2.2.2 n i a b)⟩
theorem jk_g.mono (h : jk_g S K K') (hs : ∀ n, S n → T n) : jk_g T K K' := ⟨h.1, h.2.1, fun n i a b => h.2.2.1 n i a (fun z => b (hs n z)), fun n i a b => h.2.2.2 n i a (fun z => b (hs n z))⟩
theorem jk_g.s (h : jk_s S K K') : jk_g S K K' := ⟨by rw [h.1.1]; exact Nat.le_refl _, fun n _ => by rw [h.1.2.1], fun n i _ _ => by unfold jc_p; rw [h.1.2.2], fun n i _ b => h.2 n b i⟩
theorem jk_g.new {t len sl : Nat} : jk_g S K (jc_new K t len sl) :=
  ⟨Nat.le_succ _, fun n h => if_neg (Nat.ne_of_lt h), fun n i h _ => if_neg (Nat.ne_of_lt h), fun n i h _ => if_neg (Nat.ne_of_lt h)⟩
theorem jk_g.up {n q : Nat} {i : Int} (hn : S n ∨ K.1.1 ≤ n) : jk_g S K (jc_up K n i q) :=
  ⟨Nat.le_refl _, fun _ _ => rfl, fun m j hm hs => if_neg (fun z => by rcases hn with h | h; exact hs (by rw [z.1]; exact h); omega), fun _ _ _ _ => rfl⟩
theorem jk_g.ui {n : Nat} {i v : Int} (hn : S n ∨ K.1.1 ≤ n) : jk_g S K (jc_ui K n i v) :=
  ⟨Nat.le_refl _, fun _ _ => rfl, fun _ _ _ _ => rfl, fun m j hm hs => jc_uN (fun z => by rcases hn with h | h; exact hs (by rw [z]; exact h); omega)⟩
theorem jk_g.pg (h : jk_g S K K') {q : Nat} (h2 : jc_pg K q) (hq : ¬ S q) : jc_pg K' q := by
  obtain ⟨⟨a, b⟩, ⟨c, d⟩, e, f⟩ := h2
  have := h.1
  refine ⟨⟨a, by omega⟩, ⟨by rw [h.2.1 q (by omega)]; exact c, by rw [h.2.1 _ b]; exact d⟩, ?_, f⟩
  have := h.2.2.1 q 3 (by omega) hq
  unfold jc_p at this
  rw [this]
  exact e
theorem jk_g.rc (h : jk_g S K K') {q : Nat} (h2 : jc_rc K q) (hq : ¬ S q) : jc_rc K' q := by
  obtain ⟨⟨a, b⟩, ⟨c, d, d2⟩, e, f⟩ := h2
  have := h.1
  have p9 := h.2.2.1 q 9 (by omega) hq
  have p10 := h.2.2.1 q 10 (by omega) hq
  unfold jc_p at p9 p10
  exact ⟨⟨a, by omega⟩, ⟨by rw [h.2.1 q (by omega)]; exact c, by rw [h.2.1 _ (by omega)]; exact d, by rw [h.2.1 _ b]; exact d2⟩, by rw [p9]; exact e, by rw [p10]; exact f⟩
theorem jk_g.ta (h : jk_g S K K') {q n : Nat} (h2 : jc_ta K q n) : jc_ta K' q n := by
  obtain ⟨a, b, c⟩ := h2
  have := h.1
  exact ⟨a, by omega, by rw [h.2.1 q b]; exact c⟩
theorem jk_g.k (h : jk_g S K K') {q : Nat} {c : jp_C} (h2 : jp_k K q c) (h0 : ¬ S q) (h1 : ¬ S (q + 1)) : jp_k K' q c := by
  obtain ⟨a, b, d, e⟩ := h2
  have hb := a.1.2
  exact ⟨h.pg a h0, (h.2.2.2 q 0 (by omega) h0).trans b, (h.2.2.2 q 2 (by omega) h0).trans d, fun i i0 i1 => (h.2.2.2 (q + 1) i hb h1).trans (e i i0 i1)⟩
end JkG
/-- growth beside disk, cache and the pages of both keeps the state -/
def jN_k (n : Nat) : Prop := n = 3 ∨ (5 ≤ n ∧ n < 57) ∨ (66 ≤ n ∧ n < 79)
theorem jN.grow {K K' : jc_K} {G : jg_G} {cv : Int → Nat} {N : Nat} {S : Nat → Prop} (h : jN K G cv N) (g : jk_g S K K') (hS : ∀ n, jN_k n → ¬ S n) (hx : 98 ≤ K.1.1) : jN K' G cv N := by
  obtain ⟨⟨⟨⟨p1, p2, p3, p4, p5, p6⟩, pb, pc⟩, a2, a3⟩, b, ⟨⟨ca1, ca2, ca3⟩, c2, c3, c4⟩⟩ := h
  have i0 : ∀ n i, jN_k n → jc_i K' n i = jc_i K n i := fun n i hn => g.2.2.2 n i (by unfold jN_k at hn; omega) (hS n hn)
  have dk : ∀ q r p, jN_k q → jN_k (q + 1) → jd_k K q G r p → jd_k K' q G r p := fun q r p h0 h1 ⟨x, y⟩ => ⟨(i0 q 1 h0).trans x, g.k y (hS q h0) (hS _ h1)⟩
  refine ⟨⟨⟨⟨by rw [i0 3 _ (by unfold jN_k; omega)]; exact p1, by rw [i0 3 _ (by unfold jN_k; omega)]; exact p2, by rw [i0 3 _ (by unfold jN_k; omega)]; exact p3, by rw [i0 3 _ (by unfold jN_k; omega)]; exact p4, p5, g.pg p6 (hS 7 (by unfold jN_k; omega))⟩, pb, fun p x y => ?_⟩, ?_, a3⟩, b, ⟨⟨by rw [i0 66 _ (by unfold jN_k; omega)]; exact ca1, fun f f0 f1 => ?_, ca3⟩, fun f f0 f1 hf => ?_, c3, c4⟩⟩
  · obtain ⟨q1, q2, q3, q4, q5⟩ := pc p x y
    refine ⟨by rw [i0 5 _ (by unfold jN_k; omega), i0 6 _ (by unfold jN_k; omega)]; exact q1, q2, dk _ _ _ (by unfold jN_k; omega) (by unfold jN_k; omega) q3, q4, fun z => ?_⟩
    obtain ⟨t1, ⟨t2, t3, t4, t5⟩, t6⟩ := q5 z
    exact ⟨by rw [i0 3 _ (by unfold jN_k; omega)]; exact t1, ⟨t2, t3, t4, dk _ _ _ (by unfold jN_k; omega) (by unfold jN_k; omega) t5⟩, t6⟩
  · obtain ⟨n1, n2⟩ := a2
    exact ⟨by rw [i0 3 _ (by unfold jN_k; omega), i0 3 _ (by unfold jN_k; omega), i0 3 _ (by unfold jN_k; omega)]; exact n1, n2⟩
  · obtain ⟨x1, x2, x3, x4⟩ := ca2 f f0 f1
    exact ⟨by rw [i0 68 _ (by unfold jN_k; omega), i0 69 _ (by unfold jN_k; omega), i0 70 _ (by unfold jN_k; omega)]; exact x1, x2, x3, g.pg x4 (hS _ (by unfold jN_k; omega))⟩
  · obtain ⟨d1, d2, d3, d4⟩ := c2 f f0 f1 hf
    exact ⟨d1, d2, dk _ _ _ (by unfold jN_k; omega) (by unfold jN_k; omega) d3, d4⟩
/-- the reference's side of what does not touch disk and cache -/
theorem jN.ref {K : jc_K} {G G' : jg_G} {cv : Int → Nat} {N M : Nat} (h : jN K G cv N) (hNM : N ≤ M) (hM : M ≤ 1100) (h12 : G' 92 12 = M) (h92 : ∀ i, i = 3 ∨ i = 4 ∨ i = 5 ∨ i = 6 ∨ i = 7 ∨ i = 8 ∨ i = 13 → G' 92 i = G 92 i) (hn : ∀ n, (n = 94 ∨ n = 95 ∨ n = 96 ∨ n = 97) → ∀ j, G' n j = G n j) (h93 : ∀ j, j < 67 * 54 → G' 93 j = G 93 j) (hl : jl_a G G' N) : jN K G' cv M := by
  obtain ⟨⟨⟨⟨p1, p2, p3, p4, p5, p6⟩, pb, pc⟩, a2, a3⟩, ⟨b1, b2, b3, b4, b5⟩, ⟨⟨ca1, ca2, ca3⟩, c2, c3, c4⟩⟩ := h
  have g94 : ∀ j, G' 94 j = G 94 j := hn 94 (by decide)
  have dh : ∀ D r p, r < 54 → D ≤ (N : Int) → jd_h G D r p → jd_h G' D r p := by
    intro D r p hr hD ⟨v, v1, v2, v3, v4, v5⟩
    have hv : v ≤ N := by omega
    refine ⟨v, by rw [h93 _ (by omega)]; exact v1, v2, by rw [hl.v p v (by omega)]; exact v3, by rw [hl.h p v (by omega)]; exact v4, ?_⟩
    rw [hl.h p v (by omega)]
    have hb := v4.1.2
    exact ⟨by rw [h93 _ (by omega)]; exact v5.1, by rw [h93 _ (by omega)]; exact v5.2.1, fun i i0 i1 => ⟨by rw [h93 _ (by omega)]; exact (v5.2.2 i i0 i1).1, by rw [h93 _ (by omega)]; exact (v5.2.2 i i0 i1).2⟩⟩
  have dk : ∀ q D r p, r < 54 → D ≤ (N : Int) → jd_h G D r p → jd_k K q G r p → jd_k K q G' r p := by
    intro q D r p hr hD ⟨v, v1, v2, v3, v4, v5⟩ ⟨k1, k2⟩
    refine ⟨by rw [h93 _ (by omega)]; exact k1, ?_⟩
    rw [h93 _ (by omega)]
    rw [v1] at k2 ⊢
    rw [Int.toNat_natCast] at k2 ⊢
    rw [hl.h p v (by omega)]
    exact k2
  have kk : ∀ (r : Nat) p, 1 ≤ r → r ≤ N → jh_k G' r p = jh_k G r p := fun r p x y => hl.k (by omega) (by omega) p
  refine ⟨⟨⟨⟨by rw [h92 3 (by omega)]; exact p1, by rw [g94]; exact p2, by rw [g94]; exact p3, p4, by rw [h92 4 (by omega)]; exact p5, p6⟩, fun i i0 i1 => by rw [g94, h92 3 (by omega)]; exact pb i i0 i1, fun p x y => ?_⟩, ?_, fun p x y => by rw [g94, g94]; exact a3 p x y⟩, ⟨by rw [h92 7 (by omega)]; exact b1, by rw [h92 5 (by omega)]; exact b2, h12, hM, by rw [h92 13 (by omega)]; omega⟩, ⟨⟨by rw [h92 8 (by omega)]; exact ca1, fun f f0 f1 => ?_, fun f f' x0 x1 y0 y1 hz hw => ?_⟩, fun f f0 f1 hf => ?_, fun f f0 f1 hf => ?_, fun p x y hp => ?_⟩⟩
  · obtain ⟨q1, ⟨q2, q2'⟩, q3, q4, q5⟩ := pc p x y
    rw [h92 13 (by omega)]
    refine ⟨by rw [g94, g94]; exact q1, ⟨dh _ _ _ (by omega) b5 q2, dh _ _ _ (by omega) b5 q2'⟩, dk _ _ _ _ (by omega) b5 q2' q3, fun z => ?_, fun z => ?_⟩
    · rw [g94, g94] at z
      rw [h93 _ (by omega), h93 _ (by omega)]
      exact q4 z
    · rw [g94, g94] at z
      exact absurd (a3 p x y) z
  · obtain ⟨⟨n1, n2, n3⟩, n4, n5, n6⟩ := a2
    exact ⟨⟨by rw [h92 13 (by omega)]; exact n1, by rw [h92 5 (by omega)]; exact n2, by rw [h92 6 (by omega)]; exact n3⟩, by rw [h92 6 (by omega)]; exact n4, by rw [h92 13 (by omega)]; exact n5, by rw [h92 3 (by omega)]; exact n6⟩
  · rw [hn 95 (by decide), hn 96 (by decide), hn 97 (by decide)]; exact ca2 f f0 f1
  · rw [hn 95 (by decide)] at hz hw
    rw [hn 95 (by decide)] at hw
    exact ca3 f f' x0 x1 y0 y1 hz hw
  · rw [hn 95 (by decide)] at hf ⊢
    obtain ⟨d1, d2, d3, d4⟩ := c2 f f0 f1 hf
    obtain ⟨v, v1, v2, v3, v4, v5⟩ := id d2
    have hbf := (ca2 f f0 f1).2.2.1
    have d2' := dh _ _ _ (by omega) (Int.le_refl _) d2
    refine ⟨by rw [h93 _ (by omega)]; exact d1, ?_, dk _ _ _ _ (by omega) (Int.le_refl _) d2 d3, ?_⟩
    · obtain ⟨u, u1, u2, u3⟩ := d2'
      exact ⟨u, u1, by omega, u3⟩
    · have hc : (cv (G 95 f) : Int) ≤ N := by omega
      unfold jf_d
      rw [hn 97 (by decide), h93 _ (by omega)]
      have n5 := (pc (G 95 f) hf hbf.2).2.1.2
      obtain ⟨w, w1, _⟩ := n5
      rcases d4 with d4 | ⟨d, e1, e2, e3, e4, e5, e6⟩
      · exact Or.inl d4
      · refine Or.inr ⟨d, e1, e2, e3, e4, by rw [kk d _ (by omega) (by omega)]; exact e5, fun r' s1 s2 => by rw [kk r' _ (by omega) (by omega)]; exact e6 r' s1 s2⟩
  · rw [hn 95 (by decide)] at hf
    rw [hn 97 (by decide)]
    exact c3 f f0 f1 hf
  · rw [h93 _ (by omega)]
    exact c4 p x y (fun f f0 f1 => by rw [← hn 95 (by decide)]; exact hp f f0 f1)
