/-! A SMALL ACTION BEGUN, class and reference; its rows written; its record alike -/
theorem ja_g_o {G : jg_G} {N : Nat} {w x0 x1 x2 n : Int} (h12 : G 92 12 = N) : jr_b (fr_no G w (-1)) (ja_g G w ((N : Int) + 1) x0 x1 x2 n) ((N : Int) + 1) ∧ (ja_g G w ((N : Int) + 1) x0 x1 x2 n 105 ((N : Int) + 1) = n ∧ ja_g G w ((N : Int) + 1) x0 x1 x2 n 106 (3 * ((N : Int) + 1) + 0) = x0 ∧ ja_g G w ((N : Int) + 1) x0 x1 x2 n 106 (3 * ((N : Int) + 1) + 1) = x1 ∧ ja_g G w ((N : Int) + 1) x0 x1 x2 n 106 (3 * ((N : Int) + 1) + 2) = x2) := by
  unfold ja_g
  refine ⟨fun m j a b c => ?_, ?_, ?_, ?_, ?_⟩
  · rw [jg_u, if_neg (by omega), jg_u, if_neg (by omega), jg_u, if_neg (by omega), jg_u, if_neg (by omega)]
  · rw [jg_uH]
  · rw [jg_uN (by decide), jg_uI (by omega), jg_uI (by omega), Int.add_zero, jg_uH]
  · rw [jg_uN (by decide), jg_uI (by omega), jg_uH]
  · rw [jg_uN (by decide), jg_uH]
theorem ja_g_f {G : jg_G} {w r x0 x1 x2 n : Int} {m : Nat} (h5 : m ≠ 105) (h6 : m ≠ 106) (j : Int) : ja_g G w r x0 x1 x2 n m j = fr_no G w (-1) m j := by
  unfold ja_g
  rw [jg_uN h5, jg_uN h6, jg_uN h6, jg_uN h6]
theorem ja_acts {K : jc_K} {G : jg_G} {N x : Nat} {w a b c : Int} (h : jY K G N x) (hN : N < 1100) (ha : 0 ≤ a ∧ a < 24) (hb : 0 ≤ b ∧ b < 24) (hc0 : -1 ≤ c ∧ c < 24) (hab : a ≠ b) (hc : c ≠ a ∧ c ≠ b) : ∃ K1 q G1, fc20 K w (-1) = some (K1, q) ∧ fo171 G w a b c = some (G1, (N : Int) + 1) ∧ jB K1 G1 N x q ∧ jI K1 q 0 (fun p => jh G N p) (fun _ => False) ∧ jr_I G1 ((N : Int) + 1) (if c = -1 then 2 else 3) (fun p => jh G N p) (fun y => y = a ∨ y = b ∨ (c ≠ -1 ∧ y = c)) ∧ (jc_i K1 q 0 = (N : Int) + 1 ∧ jc_i K1 q 1 = w ∧ jc_i K1 q 2 = -1 ∧ jc_i K1 q 3 = -1 ∧ jc_i K1 q 6 = 0 ∧ jc_i K1 q 7 = -1) ∧ jk_g (jA_S q) K K1 ∧ jr_b (fr_no G w (-1)) G1 ((N : Int) + 1) ∧ (G1 98 ((N : Int) + 1) = w ∧ G1 99 ((N : Int) + 1) = -1 ∧ G1 100 ((N : Int) + 1) = 0 ∧ G1 101 ((N : Int) + 1) = -1 ∧ G1 104 ((N : Int) + 1) = -1) := by
  have h12 : G 92 12 = N := h.1.2.1.2.2.1
  obtain ⟨K1, q, a1, a2, a3, a4, a5⟩ := jB.start (w := w) (t := -1) h hN (by decide)
  obtain ⟨x0, x1, x2, lo, hi, y1, y2, y3⟩ := jo_171 (w := w) h12 hN hab hc
  obtain ⟨g1, g2, g3, g4, g5⟩ := ja_g_o (w := w) (x0 := x0) (x1 := x1) (x2 := x2) (n := if c = -1 then 2 else 3) h12
  have gf := fun (m : Nat) (h5 : m ≠ 105) (h6 : m ≠ 106) => ja_g_f (G := G) (w := w) (r := (N : Int) + 1) (x0 := x0) (x1 := x1) (x2 := x2) (n := if c = -1 then 2 else 3) h5 h6 ((N : Int) + 1)
  have gn := fr_no_is (G := G) (w := w) (t := -1) (by decide)
  rw [h12] at gn
  generalize ja_g G w ((N : Int) + 1) x0 x1 x2 (if c = -1 then 2 else 3) = Ga at y1 g1 g2 g3 g4 g5 gf
  have q1 := a2.2.2.2.2.1.2
  have b1 : jB K1 Ga N x q := a2.s (jk_s.refl (S := fun _ => False)) (fun n e => e.elim) g1
  have hl0 : jl_a G Ga N := fun m j e => (g1.l m j e).trans (fr_no_o (by omega) (by omega) (by omega))
  have hm : (if c = -1 then (2 : Int) else 3) ≤ 3 := by split <;> decide
  have h2m : 2 ≤ (if c = -1 then (2 : Int) else 3) := by split <;> decide
  have x0b : 0 ≤ x0 ∧ x0 < 24 := by omega
  have x1b : 0 ≤ x1 ∧ x1 < 24 := by omega
  have x2b : (if c = -1 then (2 : Int) else 3) = 3 → 0 ≤ x2 ∧ x2 < 24 ∧ x1 < x2 ∧ c ≠ -1 := fun e => by
    by_cases z : c = -1
    · rw [if_pos z] at e; exact absurd e (by decide)
    · omega
  have k3 : ∀ k, 0 ≤ k → k < (if c = -1 then (2 : Int) else 3) → k = 0 ∨ k = 1 ∨ (k = 2 ∧ (if c = -1 then (2 : Int) else 3) = 3) := fun k k0 k1 => by omega
  have hk : ∀ k, 0 ≤ k → k < (if c = -1 then (2 : Int) else 3) → 0 ≤ Ga 106 (3 * ((N : Int) + 1) + k) ∧ Ga 106 (3 * ((N : Int) + 1) + k) < 24 := fun k k0 k1 => by
    rcases k3 k k0 k1 with e | e | ⟨e, e'⟩
    · rw [e, g3]; exact x0b
    · rw [e, g4]; exact x1b
    · rw [e, g5]; exact ⟨(x2b e').1, (x2b e').2.1⟩
  obtain ⟨G1, z1, z2, z3⟩ := jo_171l (w := w) (a := a) (b := b) (c7 := c) (lo := lo) (hi := hi) (c := fun p => jh G N p) (r := (N : Int) + 1) ⟨by omega, by omega⟩ hm jo_N 0 Ga g2 (Int.le_refl _) (by omega) (by unfold jo_N; omega) hk (fun p p0 p1 => by
    obtain ⟨_, _, _, v4, v5, v6⟩ := b1.seen ⟨p0, p1⟩
    rw [hl0.h p N (Int.le_refl _)] at v5 v6
    exact ⟨v4, v5, v6.1.2⟩) (fun j j0 j1 => by omega)
  have rb : jr_b Ga G1 ((N : Int) + 1) := fun m j _ _ e => z2 m j e
  have b2 : jB K1 G1 N x q := b1.s (jk_s.refl (S := fun _ => False)) (fun n e => e.elim) rb
  have e106 : ∀ j, G1 106 j = Ga 106 j := fun j => z2 106 j (by omega)
  refine ⟨K1, q, G1, a1, by rw [y1, z1], b2, ⟨a4.2.2.2.2.2.2.2.2, fun k k0 k1 => by omega, fun k k0 k1 => by omega, fun y hy => hy.elim⟩, ⟨(z2 105 _ (by omega)).trans g2, fun k k0 k1 => ?_, fun k k0 k1 => ?_, fun y hy => ?_⟩, ⟨a4.1, a4.2.1, a4.2.2.1, a4.2.2.2.1, ?_, a4.2.2.2.2.2.2.2.1⟩, a3, g1.trans rb, ⟨(z2 98 _ (by omega)).trans ((gf 98 (by decide) (by decide)).trans gn.2.1), (z2 99 _ (by omega)).trans ((gf 99 (by decide) (by decide)).trans gn.2.2.1), (z2 100 _ (by omega)).trans ((gf 100 (by decide) (by decide)).trans (gn.2.2.2.1.trans (if_pos rfl))), (z2 101 _ (by omega)).trans ((gf 101 (by decide) (by decide)).trans gn.2.2.2.2.1), (z2 104 _ (by omega)).trans ((gf 104 (by decide) (by decide)).trans gn.2.2.2.2.2.1)⟩⟩
  · rw [e106]
    refine ⟨hk k k0 k1, z3 k k0 k1, ?_⟩
    rcases k3 k k0 k1 with e | e | ⟨e, e'⟩
    · rw [e, g3]; omega
    · rw [e, g4]; omega
    · have := x2b e'
      rw [e, g5]; omega
  · rw [e106, e106]
    rcases k3 k k0 (by omega) with e | e | ⟨e, e'⟩
    · rw [e, g3, show (0 : Int) + 1 = 1 by omega, g4]; exact y2
    · have := x2b (by omega)
      rw [e, g4, show (1 : Int) + 1 = 2 by omega, g5]; omega
    · omega
  · have : y = x0 ∨ y = x1 ∨ ((if c = -1 then (2 : Int) else 3) = 3 ∧ y = x2) := by
      by_cases z : c = -1
      · omega
      · rw [if_neg z]; omega
    rcases this with e | e | ⟨e', e⟩
    · exact ⟨0, by omega, by omega, by rw [e106, g3, e]⟩
    · exact ⟨1, by omega, by omega, by rw [e106, g4, e]⟩
    · exact ⟨2, by omega, by omega, by rw [e106, g5, e]⟩
  · rw [a4.2.2.2.2.2.2.1, if_pos rfl]
/-- the row of a page in an action -/
theorem jr_I.row {G : jg_G} {r m y : Int} {c : Int → jp_C} {P : Int → Prop} (h : jr_I G r m c P) (hm : m ≤ 3) (hy : P y) : ∃ k, (0 ≤ k ∧ k < m ∧ G 106 (3 * r + k) = y) ∧ fr_ri G r y = 54 + 3 * (r - 1) + k ∧ jp_r G (54 + 3 * (r - 1) + k) (c y) := by
  obtain ⟨k, k0, k1, k2⟩ := h.2.2.2 y hy
  refine ⟨k, ⟨k0, k1, k2⟩, ?_, by rw [← k2]; exact (h.2.1 k k0 k1).2.1⟩
  have s := h.2.2.1
  unfold fr_ri
  rw [h.1]
  rcases (show k = 0 ∨ k = 1 ∨ k = 2 by omega) with e | e | e
  · subst e
    have s0 := s 0 (by omega)
    have s1 := s 1 (by omega)
    rw [show (0 : Int) + 1 = 1 by omega] at s0
    rw [show (1 : Int) + 1 = 2 by omega] at s1
    rw [if_neg (fun z => by have := s0 (by omega); have := s1 (by omega); have := z.2; omega), if_neg (fun z => by have := s0 (by omega); have := z.2; omega)]
  · subst e
    have s1 := s 1 (by omega)
    rw [show (1 : Int) + 1 = 2 by omega] at s1
    rw [if_neg (fun z => by have := s1 (by omega); have := z.2; omega), if_pos ⟨by omega, k2⟩]
  · subst e
    rw [if_pos ⟨by omega, k2⟩]
theorem jr_I.put {G G' : jg_G} {r m y k : Int} {c : Int → jp_C} {P : Int → Prop} {c' : jp_C} (h : jr_I G r m c P) (hm : m ≤ 3) (hr : 1 ≤ r) (hk : 0 ≤ k ∧ k < m ∧ G 106 (3 * r + k) = y) (ho : jr_o G G' (54 + 3 * (r - 1) + k)) (hc : jp_r G' (54 + 3 * (r - 1) + k) c') (hw : ∀ z, P z → (c z).2.1 ≤ 32) : jr_I G' r m (fun z => if z = y then c' else c z) P ∧ jr_b G G' r ∧ G' 106 (3 * r + k) = y := by
  have e106 : ∀ j, G' 106 j = G 106 j := fun j => ho.n (by decide) j
  refine ⟨⟨(ho.n (by decide) r).trans h.1, fun j j0 j1 => ?_, fun j j0 j1 => by rw [e106, e106]; exact h.2.2.1 j j0 j1, fun z hz => ?_⟩, fun m j _ _ z => ho m j (by omega), (e106 _).trans hk.2.2⟩
  · obtain ⟨w1, w2, w3⟩ := h.2.1 j j0 j1
    rw [e106]
    refine ⟨w1, ?_, w3⟩
    show jp_r G' _ (if G 106 (3 * r + j) = y then c' else c (G 106 (3 * r + j)))
    by_cases e : j = k
    · rw [e, hk.2.2, if_pos rfl]; exact hc
    · have ne : G 106 (3 * r + j) ≠ y := by
        intro z
        have s := h.2.2.1
        have s0 := s 0 (by omega)
        have s1 := s 1 (by omega)
        rw [show (0 : Int) + 1 = 1 by omega] at s0
        rw [show (1 : Int) + 1 = 2 by omega] at s1
        have hk2 := hk.2.2
        rcases (show j = 0 ∨ j = 1 ∨ j = 2 by omega) with e1 | e1 | e1 <;> rcases (show k = 0 ∨ k = 1 ∨ k = 2 by omega) with e2 | e2 | e2 <;> subst e1 <;> subst e2 <;> first | exact e rfl | (have := s0 (by omega); omega) | (have := s1 (by omega); omega) | (have := s0 (by omega); have := s1 (by omega); omega)
      rw [if_neg ne]
      exact ho.r (by omega) (hw _ w3) w2
  · obtain ⟨k, a, b, d⟩ := h.2.2.2 z hz
    exact ⟨k, a, b, (e106 _).trans d⟩
