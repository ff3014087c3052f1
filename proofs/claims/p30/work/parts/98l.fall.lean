/-! TRANSACTIONS: ends, and the class's fall -/
theorem jfc53 (t : Int) : ∀ (m : Nat) (l : Int) (K : jc_K), 0 ≤ l → l ≤ 32 → 32 < l + m → ∃ K', fc63_53 m K t l = some (K', 0) ∧ jk_s (fun n => n = 62) K K' ∧ ∀ k, jc_i K' 62 k = if l ≤ k ∧ k < 32 ∧ jc_i K 62 k = t then -1 else jc_i K 62 k
  | 0, l, K, h0, h1, h2 => by omega
  | m + 1, l, K, h0, h1, h2 => by
    unfold fc63_53
    by_cases e : 32 ≤ l
    · rw [if_pos e]
      exact ⟨K, rfl, jk_s.refl, fun k => by rw [if_neg (by omega)]⟩
    · rw [if_neg e, if_pos ⟨h0, by omega⟩]
      by_cases c : jc_i K 62 l = t
      · rw [if_pos c, if_pos (by omega)]
        obtain ⟨K', a1, a2, a3⟩ := jfc53 t m (l + 1) (jc_ui K 62 l (-1)) (by omega) (by omega) (by omega)
        refine ⟨K', a1, (jk_s.u (S := fun n => n = 62) rfl).trans a2, fun k => ?_⟩
        rw [a3]
        by_cases z : k = l
        · rw [z, if_neg (by omega), jc_uH, if_pos ⟨Int.le_refl _, by omega, c⟩]
        · rw [jc_uI z]
          by_cases y : l + 1 ≤ k ∧ k < 32 ∧ jc_i K 62 k = t
          · rw [if_pos y, if_pos ⟨by omega, y.2⟩]
          · rw [if_neg y, if_neg (fun w => y ⟨by omega, w.2⟩)]
      · rw [if_neg c, if_pos (by omega)]
        obtain ⟨K', a1, a2, a3⟩ := jfc53 t m (l + 1) K (by omega) (by omega) (by omega)
        refine ⟨K', a1, a2, fun k => ?_⟩
        rw [a3]
        by_cases y : l + 1 ≤ k ∧ k < 32 ∧ jc_i K 62 k = t
        · rw [if_pos y, if_pos ⟨by omega, y.2⟩]
        · rw [if_neg y, if_neg (fun w => y ⟨by
            by_cases z : k = l
            · rw [z] at w; exact absurd w.2.2 c
            · omega, w.2⟩)]
theorem jfc23 (t : Int) : ∀ (m : Nat) (l : Int) (K : jc_K), 0 ≤ l → l ≤ 4 → 4 < l + m → ∃ K', fc63_23 m K t l = some (K', 0) ∧ jk_s (fun n => n = 61 ∨ n = 62) K K' ∧ (∀ j, jc_i K' 61 j = if l ≤ j ∧ j < 4 ∧ jc_i K 61 j = t then -1 else jc_i K 61 j) ∧ ∀ k, jc_i K' 62 k = if 0 ≤ k ∧ k < 32 ∧ jc_i K 62 k = t then -1 else jc_i K 62 k
  | 0, l, K, h0, h1, h2 => by omega
  | m + 1, l, K, h0, h1, h2 => by
    unfold fc63_23
    by_cases e : 4 ≤ l
    · rw [if_pos e]
      obtain ⟨K', a1, a2, a3⟩ := jfc53 t jo_N 0 K (by decide) (by decide) (by unfold jo_N; omega)
      exact ⟨K', a1, a2.mono (fun n h => Or.inr h), fun j => by rw [a2.2 61 (by decide), if_neg (by omega)], a3⟩
    · rw [if_neg e, if_pos ⟨h0, by omega⟩]
      by_cases c : jc_i K 61 l = t
      · rw [if_pos c, if_pos (by omega)]
        obtain ⟨K', a1, a2, a3, a4⟩ := jfc23 t m (l + 1) (jc_ui K 61 l (-1)) (by omega) (by omega) (by omega)
        refine ⟨K', a1, (jk_s.u (Or.inl rfl)).trans a2, fun k => ?_, fun k => by rw [a4, jc_uN (by decide)]⟩
        rw [a3]
        by_cases z : k = l
        · rw [z, if_neg (by omega), jc_uH, if_pos ⟨Int.le_refl _, by omega, c⟩]
        · rw [jc_uI z]
          by_cases y : l + 1 ≤ k ∧ k < 4 ∧ jc_i K 61 k = t
          · rw [if_pos y, if_pos ⟨by omega, y.2⟩]
          · rw [if_neg y, if_neg (fun w => y ⟨by omega, w.2⟩)]
      · rw [if_neg c, if_pos (by omega)]
        obtain ⟨K', a1, a2, a3, a4⟩ := jfc23 t m (l + 1) K (by omega) (by omega) (by omega)
        refine ⟨K', a1, a2, fun k => ?_, a4⟩
        rw [a3]
        by_cases y : l + 1 ≤ k ∧ k < 4 ∧ jc_i K 61 k = t
        · rw [if_pos y, if_pos ⟨by omega, y.2⟩]
        · rw [if_neg y, if_neg (fun w => y ⟨by
            by_cases z : k = l
            · rw [z] at w; exact absurd w.2.2 c
            · omega, w.2⟩)]
def jTn (n : Nat) : Prop := n = 58 ∨ n = 59 ∨ n = 61 ∨ n = 62
/-- finish() -/
theorem jk_fc63 {K : jc_K} {t : Int} (ht : 0 ≤ t ∧ t < 4) : ∃ K', fc63 K t = some (K', 0) ∧ jk_s jTn K K' ∧ (∀ j, jc_i K' 58 j = if j = t then 0 else jc_i K 58 j) ∧ (∀ j, jc_i K' 59 j = if j = t then 0 else jc_i K 59 j) ∧ (∀ j, jc_i K' 61 j = if j = t ∨ (0 ≤ j ∧ j < 4 ∧ jc_i K 61 j = t) then -1 else jc_i K 61 j) ∧ ∀ k, jc_i K' 62 k = if 0 ≤ k ∧ k < 32 ∧ jc_i K 62 k = t then -1 else jc_i K 62 k := by
  unfold fc63
  rw [if_pos ht]
  obtain ⟨K', a1, a2, a3, a4⟩ := jfc23 t jo_N 0 (jc_ui (jc_ui (jc_ui K 58 t 0) 59 t 0) 61 t (-1)) (by decide) (by decide) (by unfold jo_N; omega)
  refine ⟨K', a1, (((jk_s.u (S := jTn) (Or.inl rfl)).trans (jk_s.u (Or.inr (Or.inl rfl)))).trans (jk_s.u (Or.inr (Or.inr (Or.inl rfl))))).trans (a2.mono (fun n h => Or.inr (Or.inr h))), fun j => ?_, fun j => ?_, fun j => ?_, fun k => ?_⟩
  · rw [a2.2 58 (by decide), jc_uN (by decide), jc_uN (by decide)]
    by_cases e : j = t
    · rw [e, jc_uH, if_pos rfl]
    · rw [jc_uI e, if_neg e]
  · rw [a2.2 59 (by decide), jc_uN (by decide)]
    by_cases e : j = t
    · rw [e, jc_uH, if_pos rfl]
    · rw [jc_uI e, if_neg e, jc_uN (by decide)]
  · rw [a3]
    by_cases e : j = t
    · rw [e, jc_uH, if_neg (by omega), if_pos (Or.inl rfl)]
    · rw [jc_uI e, jc_uN (by decide), jc_uN (by decide)]
      by_cases y : 0 ≤ j ∧ j < 4 ∧ jc_i K 61 j = t
      · rw [if_pos y, if_pos (Or.inr y)]
      · rw [if_neg y, if_neg (fun w => w.elim e y)]
  · rw [a4, jc_uN (by decide), jc_uN (by decide), jc_uN (by decide)]
/-- open, waits and holders: alike -/
def jTr (K : jc_K) (G : jg_G) : Prop := (∀ t, 0 ≤ t → t < 4 → jc_i K 58 t = G 107 t ∧ (G 107 t = 0 ∨ G 107 t = 1) ∧ jc_i K 61 t = G 110 t ∧ -1 ≤ G 110 t ∧ G 110 t < 4) ∧ ∀ k, 0 ≤ k → k < 32 → jc_i K 62 k = G 111 k ∧ -1 ≤ G 111 k ∧ G 111 k < 4
theorem jTr.s {K K' : jc_K} {G G' : jg_G} {S : Nat → Prop} (h : jTr K G) (s : jk_g S K K') (hx : 98 ≤ K.1.1) (hS : ¬ S 58 ∧ ¬ S 61 ∧ ¬ S 62) (g : ∀ j, G' 107 j = G 107 j ∧ G' 110 j = G 110 j ∧ G' 111 j = G 111 j) : jTr K' G' := by
  refine ⟨fun t t0 t1 => ?_, fun k k0 k1 => ?_⟩
  · rw [s.2.2.2 58 t (by omega) hS.1, s.2.2.2 61 t (by omega) hS.2.1, (g t).1, (g t).2.1]
    exact h.1 t t0 t1
  · rw [s.2.2.2 62 k (by omega) hS.2.2, (g k).2.2]
    exact h.2 k k0 k1
theorem jTr.fin {K K' : jc_K} {G : jg_G} {t : Int} (h : jTr K G) (ht : 0 ≤ t ∧ t < 4) (e : fc63 K t = some (K', 0)) : jTr K' (fr_cl G t) := by
  obtain ⟨K2, a1, a2, a3, a4, a5, a6⟩ := jk_fc63 (K := K) ht
  rw [a1] at e
  obtain ⟨e1, _⟩ := Prod.mk.inj (Option.some.inj e)
  subst e1
  refine ⟨fun s s0 s1 => ?_, fun k k0 k1 => ?_⟩
  · obtain ⟨b1, b2, b3, b4⟩ := h.1 s s0 s1
    have g1 : fr_cl G t 107 s = if s = t then 0 else G 107 s := by
      unfold fr_cl
      by_cases z : s = t
      · rw [if_pos ⟨Or.inl rfl, z⟩, if_pos z]
      · rw [if_neg (fun w => z w.2), if_neg (fun w => absurd w.1 (by decide)), if_neg (fun w => absurd w.1 (by decide)), if_neg z]
    have g2 : fr_cl G t 110 s = if s = t ∨ (0 ≤ s ∧ s < 4 ∧ G 110 s = t) then -1 else G 110 s := by
      unfold fr_cl
      rw [if_neg (fun w => by have := w.1; omega)]
      by_cases z : s = t ∨ (0 ≤ s ∧ s < 4 ∧ G 110 s = t)
      · rw [if_pos ⟨rfl, z⟩, if_pos z]
      · rw [if_neg (fun w => z w.2), if_neg (fun w => absurd w.1 (by decide)), if_neg z]
    rw [g1, g2, a3, a5, b1, b3]
    refine ⟨rfl, ?_, rfl, ?_⟩
    · split
      · exact Or.inl rfl
      · exact b2
    · split <;> omega
  · obtain ⟨b1, b2⟩ := h.2 k k0 k1
    have g3 : fr_cl G t 111 k = if 0 ≤ k ∧ k < 32 ∧ G 111 k = t then -1 else G 111 k := by
      unfold fr_cl
      rw [if_neg (fun w => by have := w.1; omega), if_neg (fun w => absurd w.1 (by decide))]
      by_cases z : 0 ≤ k ∧ k < 32 ∧ G 111 k = t
      · rw [if_pos ⟨rfl, z⟩, if_pos z]
      · rw [if_neg (fun w => z w.2), if_neg z]
    rw [g3, a6, b1]
    refine ⟨rfl, ?_⟩
    split <;> omega
/-- clear() -/
theorem jk_fc64_l : ∀ (m : Nat) (l : Int) (K : jc_K), 0 ≤ l → l ≤ 4 → 4 < l + m → (∀ t, 0 ≤ t → t < l → jc_i K 58 t = 0 ∧ jc_i K 59 t = 0 ∧ jc_i K 61 t = -1) → (∀ k, 0 ≤ k → k < 32 → jc_i K 62 k < 4 ∧ (-1 ≤ jc_i K 62 k) ∧ (0 ≤ jc_i K 62 k → l ≤ jc_i K 62 k)) → ∃ K', fc64_2 m K l = some (K', 0) ∧ jk_s jTn K K' ∧ (∀ t, 0 ≤ t → t < 4 → jc_i K' 58 t = 0 ∧ jc_i K' 59 t = 0 ∧ jc_i K' 61 t = -1) ∧ ∀ k, 0 ≤ k → k < 32 → jc_i K' 62 k = -1
  | 0, l, K, h0, h1, h2, _, _ => by omega
  | m + 1, l, K, h0, h1, h2, h3, h4 => by
    unfold fc64_2
    by_cases e : 4 ≤ l
    · rw [if_pos e]
      exact ⟨K, rfl, jk_s.refl, fun t t0 t1 => h3 t t0 (by omega), fun k k0 k1 => by have := h4 k k0 k1; omega⟩
    · obtain ⟨K2, a1, a2, a3, a4, a5, a6⟩ := jk_fc63 (K := K) (t := l) ⟨h0, by omega⟩
      rw [if_neg e, a1, jo_bs]
      dsimp only
      rw [if_pos (by omega)]
      obtain ⟨K', b1, b2, b3, b4⟩ := jk_fc64_l m (l + 1) K2 (by omega) (by omega) (by omega) (fun t t0 t1 => by
        rw [a3, a4, a5]
        by_cases z : t = l
        · rw [if_pos z, if_pos z, if_pos (Or.inl z)]
          exact ⟨rfl, rfl, rfl⟩
        · rw [if_neg z, if_neg z]
          obtain ⟨x1, x2, x3⟩ := h3 t t0 (by omega)
          refine ⟨x1, x2, ?_⟩
          split
          · rfl
          · exact x3) (fun k k0 k1 => by
        obtain ⟨x1, x2, x3⟩ := h4 k k0 k1
        rw [a6]
        by_cases z : jc_i K 62 k = l
        · rw [if_pos ⟨k0, k1, z⟩]; omega
        · rw [if_neg (fun w => z w.2.2)]
          exact ⟨x1, x2, fun y => by have := x3 y; omega⟩)
      exact ⟨K', b1, a2.trans b2, b3, b4⟩
theorem jk_fc64 {K : jc_K} (h : ∀ k, 0 ≤ k → k < 32 → -1 ≤ jc_i K 62 k ∧ jc_i K 62 k < 4) : ∃ K', fc64 K = some (K', 0) ∧ jk_s jTn K K' ∧ (∀ t, 0 ≤ t → t < 4 → jc_i K' 58 t = 0 ∧ jc_i K' 59 t = 0 ∧ jc_i K' 61 t = -1) ∧ ∀ k, 0 ≤ k → k < 32 → jc_i K' 62 k = -1 := by
  unfold fc64
  exact jk_fc64_l jo_N 0 K (by decide) (by decide) (by unfold jo_N; omega) (fun t t0 t1 => by omega) (fun k k0 k1 => ⟨(h k k0 k1).2, (h k k0 k1).1, fun z => z⟩)
/-- empty() -/
theorem jk_fc1_l : ∀ (m : Nat) (l : Int) (K : jc_K), 0 ≤ l → l ≤ 4 → 4 < l + m → (∀ f, 0 ≤ f → f < l → jc_i K 68 f = -1 ∧ jc_i K 69 f = 0 ∧ jc_i K 70 f = 0) → ∃ K', fc1_2 m K l = some (K', 0) ∧ jk_s (fun n => n = 66 ∨ n = 68 ∨ n = 69 ∨ n = 70) K K' ∧ (∀ f, 0 ≤ f → f < 4 → jc_i K' 68 f = -1 ∧ jc_i K' 69 f = 0 ∧ jc_i K' 70 f = 0) ∧ jc_i K' 66 5 = 0
  | 0, l, K, h0, h1, h2, _ => by omega
  | m + 1, l, K, h0, h1, h2, h3 => by
    unfold fc1_2
    by_cases e : 4 ≤ l
    · rw [if_pos e]
      exact ⟨_, rfl, jk_s.u (Or.inl rfl), fun f f0 f1 => by rw [jc_uN (by decide), jc_uN (by decide), jc_uN (by decide)]; exact h3 f f0 (by omega), jc_uH⟩
    · rw [if_neg e, if_pos ⟨h0, by omega⟩, if_pos (by omega)]
      obtain ⟨K', b1, b2, b3⟩ := jk_fc1_l m (l + 1) (jc_ui (jc_ui (jc_ui K 68 l (-1)) 69 l 0) 70 l 0) (by omega) (by omega) (by omega) (fun f f0 f1 => by
        by_cases z : f = l
        · rw [z, jc_uN (by decide), jc_uN (by decide), jc_uH, jc_uN (by decide), jc_uH, jc_uH]
          exact ⟨rfl, rfl, rfl⟩
        · rw [jc_uN (by decide), jc_uN (by decide), jc_uI z, jc_uN (by decide), jc_uI z, jc_uN (by decide), jc_uI z, jc_uN (by decide), jc_uN (by decide)]
          exact h3 f f0 (by omega))
      exact ⟨K', b1, (((jk_s.u (S := fun n => n = 66 ∨ n = 68 ∨ n = 69 ∨ n = 70) (Or.inr (Or.inl rfl))).trans (jk_s.u (Or.inr (Or.inr (Or.inl rfl))))).trans (jk_s.u (Or.inr (Or.inr (Or.inr rfl))))).trans b2, b3⟩
/-- fallen, between calls -/
def jFl (K : jc_K) (G : jg_G) (x : Nat) : Prop := jE K G x ∧ jc_i K 2 8 = 1 ∧ jc_i K 63 4 = G 92 12 ∧ (∀ f, 0 ≤ f → f < 4 → jc_i K 68 f = -1 ∧ jc_i K 69 f = 0 ∧ jc_i K 70 f = 0) ∧ jc_i K 66 5 = 0 ∧ (∀ t, 0 ≤ t → t < 4 → jc_i K 58 t = 0 ∧ jc_i K 59 t = 0 ∧ jc_i K 61 t = -1) ∧ ∀ k, 0 ≤ k → k < 32 → jc_i K 62 k = -1
theorem jE.s {K K' : jc_K} {G : jg_G} {x : Nat} {S : Nat → Prop} (h : jE K G x) (s : jk_s S K K') (hS : ∀ n, S n → n < 98 ∧ n ≠ 3 ∧ ¬ (5 ≤ n ∧ n < 57)) (h63 : G 92 13 ≤ jc_i K' 63 4) : jE K' G x := by
  obtain ⟨⟨a1, a2, a3⟩, b, ⟨c1, c2, c3⟩, d1, d2, d3⟩ := h
  refine ⟨⟨a1.keep (Int.le_refl _) ⟨s.1, fun i _ => s.2 3 (fun z => (hS _ z).2.1 rfl) i, fun n n0 n1 i => s.2 n (fun z => (hS _ z).2.2 ⟨n0, n1⟩) i⟩ (by rw [s.2 3 (fun z => (hS _ z).2.1 rfl)]; exact a1.1.1) (Int.le_refl _) rfl (jl_s.refl G) (fun _ _ _ => rfl) (fun _ => rfl), ?_, a3⟩, b, ⟨c1.s s (fun n hn z => by have := hS n z; omega) (jl_a.refl G _), h63, c3⟩, d1.s s, d2.s s, fun f f0 f1 => s.pg (d3 f f0 f1)⟩
  have e3 := s.2 3 (fun z => (hS _ z).2.1 rfl)
  unfold jdn
  rw [e3 8, e3 9, e3 10]
  exact a2
theorem jfall {K : jc_K} {G : jg_G} {x : Nat} (h : jE K G x) (h62 : ∀ k, 0 ≤ k → k < 32 → -1 ≤ jc_i K 62 k ∧ jc_i K 62 k < 4) : ∃ K', fc141 K = some (K', 0) ∧ jFl K' G x ∧ ∀ n, n ≠ 2 → ¬ jTn n → n ≠ 63 → n ≠ 66 → n ≠ 68 → n ≠ 69 → n ≠ 70 → ∀ i, jc_i K' n i = jc_i K n i := by
  have e13 : jc_i K 3 8 = G 92 13 := h.1.2.1.1.1
  obtain ⟨K1, a1, a2, a3, a4⟩ := jk_fc1_l jo_N 0 (jc_ui K 2 8 1) (by decide) (by decide) (by unfold jo_N; omega) (fun f f0 f1 => by omega)
  have s1 : jk_s (fun n => n = 2 ∨ n = 66 ∨ n = 68 ∨ n = 69 ∨ n = 70) K K1 := (jk_s.u (Or.inl rfl)).trans (a2.mono (fun n e => Or.inr e))
  have e21 : ∃ K2, fc21 K1 = some (K2, 0) ∧ jk_s (fun n => n = 63) K1 K2 ∧ jc_i K2 63 4 = G 92 13 := by
    unfold fc21
    rw [s1.2 3 (by decide), e13, s1.2 63 (by decide)]
    have le := h.2.2.1.2.1
    by_cases c : jc_i K 63 4 ≤ G 92 13
    · rw [if_pos c]
      exact ⟨K1, rfl, jk_s.refl, by rw [s1.2 63 (by decide)]; omega⟩
    · rw [if_neg c]
      exact ⟨_, rfl, jk_s.u rfl, jc_uH⟩
  obtain ⟨K2, b1, b2, b3⟩ := e21
  have s2 : jk_s (fun n => n = 2 ∨ n = 63 ∨ n = 66 ∨ n = 68 ∨ n = 69 ∨ n = 70) K K2 := (s1.mono (fun n e => by omega)).trans (b2.mono (fun n e => by omega))
  obtain ⟨K3, c1, c2, c3, c4⟩ := jk_fc64 (K := K2) (fun k k0 k1 => by rw [s2.2 62 (by decide)]; exact h62 k k0 k1)
  have s3 : jk_s (fun n => n = 2 ∨ jTn n ∨ n = 63 ∨ n = 66 ∨ n = 68 ∨ n = 69 ∨ n = 70) K K3 := (s2.mono (fun n e => by omega)).trans (c2.mono (fun n e => Or.inr (Or.inl e)))
  refine ⟨K3, ?_, ⟨h.s s3 (fun n e => by unfold jTn at e; omega) (by rw [c2.2 63 (by unfold jTn; decide), b3]; exact Int.le_refl _), ?_, ?_, fun f f0 f1 => ?_, ?_, c3, c4⟩, fun n x1 x2 x3 x4 x5 x6 x7 i => s3.2 n (fun e => e.elim x1 (fun e => e.elim x2 (fun e => by omega))) i⟩
  · unfold fc141 fc1
    rw [a1, jo_bs]
    dsimp only
    rw [b1, jo_bs]
    dsimp only
    rw [c1, jo_bs]
  · rw [c2.2 2 (by unfold jTn; decide), b2.2 2 (by decide), a2.2 2 (by decide), jc_uH]
  · rw [c2.2 63 (by unfold jTn; decide), b3, h.2.1.2.1]
  · rw [c2.2 68 (by unfold jTn; decide), c2.2 69 (by unfold jTn; decide), c2.2 70 (by unfold jTn; decide), b2.2 68 (by decide), b2.2 69 (by decide), b2.2 70 (by decide)]
    exact a3 f f0 f1
  · rw [c2.2 66 (by unfold jTn; decide), b2.2 66 (by decide), a4]
