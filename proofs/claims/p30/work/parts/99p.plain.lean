/-! PLAIN: the committed values, class and reference -/
/-- what the looks need of the log -/
def jLr (K : jc_K) (G : jg_G) (M : Nat) : Prop := (M ≤ 1100 ∧ jc_i K 63 4 = M) ∧ ∀ r : Int, 1 ≤ r → r ≤ M → ((98 ≤ jc_p K 64 (r - 1) ∧ jc_rc K (jc_p K 64 (r - 1))) ∧ (jc_i K (jc_p K 64 (r - 1)) 1 = G 98 r ∧ jc_i K (jc_p K 64 (r - 1)) 3 = G 101 r ∧ jc_i K (jc_p K 64 (r - 1)) 6 = G 100 r) ∧ (G 98 r ≤ 1 → jc_i K (jc_p K 64 (r - 1)) 5 = G 103 r)) ∧ ((0 ≤ G 98 r ∧ G 98 r ≤ 7) ∧ (G 98 r ≤ 3 → 0 ≤ G 99 r ∧ G 99 r < 4) ∧ (4 ≤ G 98 r → G 99 r = -1) ∧ (0 ≤ G 99 r → G 100 r = jt G (G 99 r) (r.toNat - 1)) ∧ (2 ≤ G 98 r → G 101 r = -1) ∧ (G 98 r ≤ 1 → (0 ≤ G 101 r ∧ G 101 r < 32) ∧ -1 ≤ G 103 r))
theorem jLr.s {K K' : jc_K} {G : jg_G} {M : Nat} (h : jLr K G M) (s : jk_s jSw K K') : jLr K' G M := by
  have ki : ∀ n, ¬ (n = 65 ∨ (86 ≤ n ∧ n < 92)) → ∀ i, jc_i K' n i = jc_i K n i := fun n hn i => s.2 n hn i
  have kp : ∀ n i, jc_p K' n i = jc_p K n i := fun n i => congrFun (congrFun s.1.2.2 n) i
  refine ⟨⟨h.1.1, (ki 63 (by decide) 4).trans h.1.2⟩, fun r r0 r1 => ?_⟩
  obtain ⟨⟨⟨a1, a2⟩, b, c⟩, d⟩ := h.2 r r0 r1
  rw [kp]
  refine ⟨⟨⟨a1, ?_⟩, ?_, ?_⟩, d⟩
  · unfold jc_rc at a2 ⊢
    rw [s.1.1, s.1.2.1, s.1.2.2]
    exact a2
  · rw [ki _ (by omega), ki _ (by omega), ki _ (by omega)]
    exact b
  · rw [ki _ (by omega)]
    exact c
theorem jIn.lr {K : jc_K} {G : jg_G} {k : Nat} (h : jIn K G k) : ∃ M : Nat, jLr K G M ∧ G 92 12 = M ∧ 0 ≤ G 92 13 ∧ G 92 13 ≤ M ∧ jc_i K 3 8 = G 92 13 := by
  obtain ⟨M, a, b, c, d, e, f, g, i⟩ := h.log
  refine ⟨M, ⟨⟨b, c⟩, fun r r0 r1 => ?_⟩, a, f, g, i⟩
  have er : ((r.toNat : Nat) : Int) = r := by omega
  obtain ⟨z1, z2⟩ := d r.toNat (by omega) (by omega)
  have j1 := e.1 r.toNat (by omega) (by omega)
  unfold jl_1 at j1
  unfold jl_v at z2
  rw [er] at z1 j1 z2
  obtain ⟨y1, ⟨_, y2, _, y3, y4, _⟩, y5, _⟩ := z1
  refine ⟨⟨⟨y1.1.1, y1⟩, ⟨y2, y3, y4⟩, y5⟩, j1.1, j1.2.1.1, j1.2.1.2, fun z => ?_, j1.2.2.2.2.2, fun z => ⟨(z2.2.2.2.1 z).1, (z2.2.2.2.1 z).2.1.1⟩⟩
  have := j1.2.2.1
  rw [if_neg (by omega)] at this
  exact this
theorem jLr.at {K : jc_K} {G : jg_G} {M : Nat} (h : jLr K G M) {r : Int} (r0 : 1 ≤ r) (r1 : r ≤ M) : fc19 K r = some (K, jc_p K 64 (r - 1)) := by
  have := h.1
  unfold fc19
  rw [if_neg (by omega), if_neg (by omega), if_neg (by omega), if_pos (by omega), jo_lne]
theorem jLr.at0 {K : jc_K} {r : Int} (r0 : r < 1) : fc19 K r = some (K, 0) := by
  unfold fc19
  rw [if_pos r0]
theorem jSw.u {K : jc_K} {i v : Int} : jk_s jSw K (jc_ui K 65 i v) := jk_s.u (Or.inl rfl)
theorem jk_23 {G : jg_G} {M : Nat} {l1 : Nat} : ∀ (n m : Nat) (t l3 : Int) (K : jc_K), jLr K G M → n ≤ M → n < m → 0 ≤ l3 → l3 + n ≤ 1100 → 0 ≤ t → t < 4 → ∃ q K', fc19 K (jt G t n) = some (K, q) ∧ fc23_11 m K l1 q l3 = some (K', 0) ∧ jk_s jSw K K' ∧ ∀ x, 0 ≤ x → x < 32 → jc_i K' 65 x = if jc_i K 65 x = -2 then jpp G x t n else jc_i K 65 x := by
  intro n
  induction n with
  | zero =>
    intro m t l3 K h h1 h2 h3 h4 t0 t1
    cases m with
    | zero => omega
    | succ m =>
      refine ⟨0, K, jLr.at0 (by show (0 : Int) < 1; decide), ?_, jk_s.refl, fun x x0 x1 => ?_⟩
      · unfold fc23_11
        split
        · rfl
        · rw [if_pos rfl]
      · by_cases e : jc_i K 65 x = -2
        · rw [if_pos e, e]; rfl
        · rw [if_neg e]
  | succ n ih =>
    intro m t l3 K h h1 h2 h3 h4 t0 t1
    have ec : (((n + 1 : Nat) : Nat) : Int) = (n : Int) + 1 := by omega
    by_cases o : G 99 ((n : Int) + 1) = t
    · by_cases en : G 98 ((n : Int) + 1) = 2 ∨ G 98 ((n : Int) + 1) = 3
      · have ej : jt G t (n + 1) = 0 := by
          show (if _ then _ else _) = _
          rw [if_pos o, if_pos en]
        cases m with
        | zero => omega
        | succ m =>
          refine ⟨0, K, by rw [ej]; exact jLr.at0 (by decide), ?_, jk_s.refl, fun x x0 x1 => ?_⟩
          · unfold fc23_11
            split
            · rfl
            · rw [if_pos rfl]
          · have e2 : jpp G x t (n + 1) = -2 := by
              show (if _ then _ else _) = _
              rw [if_pos o, if_pos en]
            rw [e2]
            by_cases e : jc_i K 65 x = -2
            · rw [if_pos e, e]
            · rw [if_neg e]
      · have ej : jt G t (n + 1) = (n : Int) + 1 := by
          show (if _ then _ else _) = _
          rw [if_pos o, if_neg en]
        have hr := h.2 ((n : Int) + 1) (by omega) (by omega)
        obtain ⟨⟨⟨a1, a2⟩, ⟨b1, b2, b3⟩, c⟩, d1, d2, d3, d4, d5, d6⟩ := hr
        have ah : G 100 ((n : Int) + 1) = jt G t n := by
          rw [d4 (by omega), o]
          congr 1
        have k1 : G 98 ((n : Int) + 1) ≤ 1 := by
          by_cases z : G 98 ((n : Int) + 1) ≤ 3
          · omega
          · have := d3 (by omega)
            omega
        have d6 := d6 k1
        have c := c k1
        cases m with
        | zero => omega
        | succ m =>
          have ep : ∀ x, jpp G x t (n + 1) = if G 101 ((n : Int) + 1) = x then G 103 ((n : Int) + 1) else jpp G x t n := fun x => by
            show (if _ then _ else _) = _
            rw [if_pos o, if_neg en]
          refine ⟨jc_p K 64 ((n : Int) + 1 - 1), ?_⟩
          rw [ej]
          generalize eq : jc_p K 64 ((n : Int) + 1 - 1) = q at *
          have f19 : fc19 K ((n : Int) + 1) = some (K, q) := by
            rw [h.at (by omega) (by omega), eq]
          by_cases e : jc_i K 65 (G 101 ((n : Int) + 1)) = -2
          · have h' : jLr (jc_ui K 65 (G 101 ((n : Int) + 1)) (G 103 ((n : Int) + 1))) G M := h.s jSw.u
            obtain ⟨q', K', y1, y2, y3, y4⟩ := ih m t (l3 + 1) _ h' (by omega) (by omega) (by omega) (by omega) t0 t1
            refine ⟨K', f19, ?_, jSw.u.trans y3, fun x x0 x1 => ?_⟩
            · unfold fc23_11
              rw [if_neg (by omega), if_neg (by omega), if_pos a2, b2, if_neg (by omega), if_neg (by omega), if_pos d6.1, if_pos e, c, jc_uN (by omega), b3, ah, y1, jo_bs, if_pos (by omega)]
              exact y2
            · rw [y4 x x0 x1, ep x]
              by_cases ex : G 101 ((n : Int) + 1) = x
              · subst ex
                rw [jc_uH, if_neg (by omega), if_pos e, if_pos rfl]
              · rw [jc_uI (fun z => ex z.symm), if_neg ex]
          · obtain ⟨q', K', y1, y2, y3, y4⟩ := ih m t (l3 + 1) K h (by omega) (by omega) (by omega) (by omega) t0 t1
            refine ⟨K', f19, ?_, y3, fun x x0 x1 => ?_⟩
            · unfold fc23_11
              rw [if_neg (by omega), if_neg (by omega), if_pos a2, b2, if_neg (by omega), if_neg (by omega), if_pos d6.1, if_neg e, b3, ah, y1, jo_bs, if_pos (by omega)]
              exact y2
            · rw [y4 x x0 x1, ep x]
              by_cases ex : G 101 ((n : Int) + 1) = x
              · subst ex
                rw [if_neg e, if_neg e]
              · rw [if_neg ex]
    · have ej : jt G t (n + 1) = jt G t n := by
        show (if _ then _ else _) = _
        rw [if_neg o]
      obtain ⟨q', K', y1, y2, y3, y4⟩ := ih m t l3 K h (by omega) (by omega) h3 (by omega) t0 t1
      refine ⟨q', K', by rw [ej]; exact y1, y2, y3, fun x x0 x1 => ?_⟩
      rw [y4 x x0 x1]
      have ep : jpp G x t (n + 1) = jpp G x t n := by
        show (if _ then _ else _) = _
        rw [if_neg o]
      rw [ep]
theorem jk_66 : ∀ (m : Nat) (l : Int) (K : jc_K), 0 ≤ l → l ≤ 32 → 32 < l + m → ∃ K', fc22_66 m K l = some (K', 0) ∧ jk_s jSw K K' ∧ (∀ x, l ≤ x → x < 32 → jc_i K' 65 x = if jc_i K 65 x = -2 then -1 else jc_i K 65 x) ∧ ∀ x, x < l → jc_i K' 65 x = jc_i K 65 x := by
  intro m
  induction m with
  | zero => intro l K h0 h1 h2; omega
  | succ m ih =>
    intro l K h0 h1 h2
    unfold fc22_66
    by_cases e : 32 ≤ l
    · rw [if_pos e]
      exact ⟨K, rfl, jk_s.refl, fun x x0 x1 => by omega, fun x _ => rfl⟩
    · rw [if_neg e, if_pos (by omega)]
      by_cases c : jc_i K 65 l = -2
      · rw [if_pos c, if_pos (by omega)]
        obtain ⟨K', y1, y2, y3, y4⟩ := ih (l + 1) (jc_ui K 65 l (-1)) (by omega) (by omega) (by omega)
        refine ⟨K', y1, jSw.u.trans y2, fun x x0 x1 => ?_, fun x x0 => ?_⟩
        · by_cases ex : x = l
          · rw [y4 x (by omega), ex, jc_uH, if_pos c]
          · rw [y3 x (by omega) x1, jc_uI ex]
        · rw [y4 x (by omega), jc_uI (by omega)]
      · rw [if_neg c, if_pos (by omega)]
        obtain ⟨K', y1, y2, y3, y4⟩ := ih (l + 1) K (by omega) (by omega) (by omega)
        refine ⟨K', y1, y2, fun x x0 x1 => ?_, fun x x0 => ?_⟩
        · by_cases ex : x = l
          · rw [y4 x (by omega), ex, if_neg c]
          · rw [y3 x (by omega) x1]
        · rw [y4 x (by omega)]
theorem jk_30 {G : jg_G} {M : Nat} : ∀ (n m : Nat) (K : jc_K), jLr K G M → n ≤ M → n < m → ∃ K', fc22_30 m K n = some (K', 0) ∧ jk_s jSw K K' ∧ ∀ x, 0 ≤ x → x < 32 → jc_i K' 65 x = if jc_i K 65 x = -2 then jpv G x n else jc_i K 65 x := by
  intro n
  induction n with
  | zero =>
    intro m K h h1 h2
    cases m with
    | zero => omega
    | succ m =>
      unfold fc22_30
      rw [if_pos (by decide)]
      obtain ⟨K', y1, y2, y3, y4⟩ := jk_66 jo_N 0 K (by decide) (by decide) (by decide)
      exact ⟨K', y1, y2, fun x x0 x1 => y3 x x0 x1⟩
  | succ n ih =>
    intro m K h h1 h2
    cases m with
    | zero => omega
    | succ m =>
      rw [show (((n + 1 : Nat) : Nat) : Int) = (n : Int) + 1 by omega]
      obtain ⟨⟨⟨a1, a2⟩, ⟨b1, b2, b3⟩, c⟩, d1, d2, d3, d4, d5, d6⟩ := h.2 ((n : Int) + 1) (by omega) (by omega)
      have h11 := h.1.1
      unfold fc22_30
      rw [if_neg (by omega), h.at (by omega) (by omega), jo_bs]
      dsimp only
      rw [if_neg (by omega), if_pos a2, b1]
      by_cases e : G 98 ((n : Int) + 1) = 2
      · rw [if_pos e]
        have d2 := d2 (by omega)
        have d4 := d4 (by omega)
        rw [show ((n : Int) + 1).toNat - 1 = n by omega] at d4
        obtain ⟨q, K1, y1, y2, y3, y4⟩ := jk_23 (l1 := jc_p K 64 ((n : Int) + 1 - 1)) n jo_N (G 99 ((n : Int) + 1)) 0 K h (by omega) (by unfold jo_N; omega) (by decide) (by omega) d2.1 d2.2
        have f23 : fc23 K (jc_p K 64 ((n : Int) + 1 - 1)) = some (K1, 0) := by
          unfold fc23
          rw [if_pos a2, b3, d4, y1, jo_bs]
          exact y2
        rw [f23, jo_bs, if_pos (by omega), show (n : Int) + 1 + -1 = n by omega]
        obtain ⟨K', z1, z2, z3⟩ := ih m K1 (h.s y3) (by omega) (by omega)
        refine ⟨K', z1, y3.trans z2, fun x x0 x1 => ?_⟩
        rw [z3 x x0 x1, y4 x x0 x1]
        have ev : jpv G x (n + 1) = if jpp G x (G 99 ((n : Int) + 1)) n ≠ -2 then jpp G x (G 99 ((n : Int) + 1)) n else jpv G x n := by
          show (if _ then _ else _) = _
          by_cases u : jpp G x (G 99 ((n : Int) + 1)) n ≠ -2
          · rw [if_pos ⟨e, u⟩, if_pos u]
          · rw [if_neg (fun w => u w.2), if_neg u]
        rw [ev]
        by_cases u : jc_i K 65 x = -2
        · rw [if_pos u, if_pos u]
          by_cases w : jpp G x (G 99 ((n : Int) + 1)) n = -2
          · rw [if_pos w, if_neg (fun w2 => w2 w)]
          · rw [if_neg w, if_pos w]
        · rw [if_neg u, if_neg u, if_neg u]
      · rw [if_neg e, if_pos (by omega), show (n : Int) + 1 + -1 = n by omega]
        obtain ⟨K', z1, z2, z3⟩ := ih m K h (by omega) (by omega)
        refine ⟨K', z1, z2, fun x x0 x1 => ?_⟩
        rw [z3 x x0 x1]
        have ev : jpv G x (n + 1) = jpv G x n := by
          show (if _ then _ else _) = _
          rw [if_neg (fun w => e w.1)]
        rw [ev]
theorem jk_222 {G : jg_G} {M D : Nat} (hD : D ≤ M) : ∀ (m : Nat) (l : Int) (K : jc_K), jLr K G M → jc_i K 3 8 = D → 0 ≤ l → l ≤ 32 → 32 < l + m → (∀ x, 0 ≤ x → x < l → jc_i K 65 x = -2) → ∃ K', fc22_2 m K l = some (K', 0) ∧ jk_s jSw K K' ∧ ∀ x, 0 ≤ x → x < 32 → jc_i K' 65 x = jpv G x D := by
  intro m
  induction m with
  | zero => intro l K _ _ h0 h1 h2; omega
  | succ m ih =>
    intro l K h h8 h0 h1 h2 hx
    unfold fc22_2
    by_cases e : 32 ≤ l
    · rw [if_pos e, h8]
      have := h.1.1
      obtain ⟨K', y1, y2, y3⟩ := jk_30 D jo_N K h hD (by unfold jo_N; omega)
      refine ⟨K', y1, y2, fun x x0 x1 => ?_⟩
      rw [y3 x x0 x1, if_pos (hx x x0 (by omega))]
    · rw [if_neg e, if_pos (by omega), if_pos (by omega)]
      obtain ⟨K', y1, y2, y3⟩ := ih (l + 1) (jc_ui K 65 l (-2)) (h.s jSw.u) ((jc_uN (by decide)).trans h8) (by omega) (by omega) (by omega) (fun x x0 x1 => by
        by_cases ex : x = l
        · rw [ex, jc_uH]
        · rw [jc_uI ex]; exact hx x x0 (by omega))
      exact ⟨K', y1, jSw.u.trans y2, y3⟩
theorem jk_22 {K : jc_K} {G : jg_G} {M D : Nat} (h : jLr K G M) (hD : D ≤ M) (h8 : jc_i K 3 8 = D) : ∃ K', fc22 K = some (K', 0) ∧ jk_s jSw K K' ∧ ∀ x, 0 ≤ x → x < 32 → jc_i K' 65 x = jpv G x D := jk_222 hD jo_N 0 K h h8 (by decide) (by decide) (by decide) (fun x _ _ => by omega)
/-- only the pending values differ -/
def jx_6 (G X : jg_G) : Prop := ∀ n, n ≠ 116 → ∀ j, X n j = G n j
theorem jr_25 {K : jc_K} {G : jg_G} {M D : Nat} {x : Int} (h : jLr K G M) (hD : D ≤ M) (h13 : G 92 13 = D) (hx : 0 ≤ x ∧ x < 32) : ∀ (d m n : Nat) (X : jg_G), n + d = D → d < m → jx_6 G X → (∀ t, 0 ≤ t → t < 4 → X 116 t = jpp G x t n) → ∃ X', fo224_25 m X x (jpv G x n) ((n : Int) + 1) = some (X', jpv G x D) ∧ jx_6 G X' := by
  intro d
  induction d with
  | zero =>
    intro m n X h1 h2 hX hp
    cases m with
    | zero => omega
    | succ m =>
      unfold fo224_25
      rw [hX 92 (by decide), h13, if_pos (by omega), show D = n by omega]
      exact ⟨X, rfl, hX⟩
  | succ d ih =>
    intro m n X h1 h2 hX hp
    cases m with
    | zero => omega
    | succ m =>
      have h11 := h.1.1
      obtain ⟨_, d1, d2, d3, d4, d5, d6⟩ := h.2 ((n : Int) + 1) (by omega) (by omega)
      have next : ∀ (X1 : jg_G) (v : Int), jx_6 G X1 → v = jpv G x (n + 1) → (∀ t, 0 ≤ t → t < 4 → X1 116 t = jpp G x t (n + 1)) → ∃ X', fo224_25 m X1 x v ((n : Int) + 1 + 1) = some (X', jpv G x D) ∧ jx_6 G X' := fun X1 v a b c => by
        have := ih m (n + 1) X1 (by omega) (by omega) a c
        rw [b]
        rw [show (((n + 1 : Nat) : Nat) : Int) = (n : Int) + 1 by omega] at this
        exact this
      have hX2 : ∀ i v, jx_6 G (jg_u X 116 i v) := fun i v n' hn j => by rw [jg_uN hn]; exact hX n' hn j
      have v2 : G 98 ((n : Int) + 1) ≠ 2 → jpv G x n = jpv G x (n + 1) := fun e => by
        show _ = (if _ then _ else _)
        rw [if_neg (fun w => e w.1)]
      have p0 : ∀ t, G 99 ((n : Int) + 1) ≠ t → jpp G x t (n + 1) = jpp G x t n := fun t e => by
        show (if _ then _ else _) = _
        rw [if_neg e]
      have p1 : G 98 ((n : Int) + 1) = 2 ∨ G 98 ((n : Int) + 1) = 3 → jpp G x (G 99 ((n : Int) + 1)) (n + 1) = -2 := fun e => by
        show (if _ then _ else _) = _
        rw [if_pos rfl, if_pos e]
      have p2 : ¬ (G 98 ((n : Int) + 1) = 2 ∨ G 98 ((n : Int) + 1) = 3) → jpp G x (G 99 ((n : Int) + 1)) (n + 1) = if G 101 ((n : Int) + 1) = x then G 103 ((n : Int) + 1) else jpp G x (G 99 ((n : Int) + 1)) n := fun e => by
        show (if _ then _ else _) = _
        rw [if_pos rfl, if_neg e]
      have put : ∀ v, v = jpp G x (G 99 ((n : Int) + 1)) (n + 1) → ∀ t, 0 ≤ t → t < 4 → jg_u X 116 (G 99 ((n : Int) + 1)) v 116 t = jpp G x t (n + 1) := fun v e t t0 t1 => by
        by_cases c : t = G 99 ((n : Int) + 1)
        · rw [c, jg_uH]; exact e
        · rw [jg_uI c, p0 t (fun z => c z.symm)]; exact hp t t0 t1
      unfold fo224_25
      rw [hX 92 (by decide), h13, if_neg (by omega), if_pos (by omega), hX 99 (by decide), hX 98 (by decide), hX 101 (by decide), hX 103 (by decide)]
      by_cases o : G 99 ((n : Int) + 1) = -1
      · have kk : 4 ≤ G 98 ((n : Int) + 1) := by
          by_cases z : G 98 ((n : Int) + 1) ≤ 3
          · have := d2 z; omega
          · omega
        rw [if_pos o, if_neg (by omega), if_neg (by omega), if_pos (by omega)]
        exact next X _ hX (v2 (by omega)) (fun t t0 t1 => (hp t t0 t1).trans (p0 t (by omega)).symm)
      · have k3 : G 98 ((n : Int) + 1) ≤ 3 := by
          by_cases z : 4 ≤ G 98 ((n : Int) + 1)
          · exact absurd (d3 z) o
          · omega
        have d2 := d2 k3
        rw [if_neg o]
        by_cases ex : G 101 ((n : Int) + 1) = x
        · have k1 : G 98 ((n : Int) + 1) ≤ 1 := by
            by_cases z : 2 ≤ G 98 ((n : Int) + 1)
            · have := d5 z; omega
            · omega
          rw [if_pos ex, if_pos d2, if_neg (by omega), if_neg (by omega), if_pos (by omega)]
          exact next _ _ (hX2 _ _) (v2 (by omega)) (put _ (by rw [p2 (by omega), if_pos ex]))
        · rw [if_neg ex]
          by_cases e2 : G 98 ((n : Int) + 1) = 2
          · rw [if_pos e2, if_pos d2, hp _ d2.1 d2.2]
            have ev : jpv G x (n + 1) = if jpp G x (G 99 ((n : Int) + 1)) n ≠ -2 then jpp G x (G 99 ((n : Int) + 1)) n else jpv G x n := by
              show (if _ then _ else _) = _
              by_cases u : jpp G x (G 99 ((n : Int) + 1)) n ≠ -2
              · rw [if_pos ⟨e2, u⟩, if_pos u]
              · rw [if_neg (fun w => u w.2), if_neg u]
            by_cases w : jpp G x (G 99 ((n : Int) + 1)) n = -2
            · rw [if_pos w, if_pos (by omega)]
              exact next _ _ (hX2 _ _) (by rw [ev, if_neg (fun w2 => w2 w)]) (put _ (p1 (Or.inl e2)).symm)
            · rw [if_neg w, if_pos (by omega)]
              exact next _ _ (hX2 _ _) (by rw [ev, if_pos w]) (put _ (p1 (Or.inl e2)).symm)
          · rw [if_neg e2]
            by_cases e3 : G 98 ((n : Int) + 1) = 3
            · rw [if_pos e3, if_pos d2, if_pos (by omega)]
              exact next _ _ (hX2 _ _) (v2 e2) (put _ (p1 (Or.inr e3)).symm)
            · rw [if_neg e3, if_pos (by omega)]
              refine next _ _ hX (v2 e2) (fun t t0 t1 => ?_)
              by_cases c : G 99 ((n : Int) + 1) = t
              · rw [← c, p2 (by omega), if_neg ex]
                exact hp _ d2.1 d2.2
              · rw [p0 t c]; exact hp t t0 t1
theorem jr_244 {K : jc_K} {G : jg_G} {M D : Nat} {x : Int} (h : jLr K G M) (hD : D ≤ M) (h13 : G 92 13 = D) (hx : 0 ≤ x ∧ x < 32) : ∀ (m : Nat) (l : Int) (X : jg_G), 0 ≤ l → l ≤ 4 → 4 < l + m → jx_6 G X → (∀ t, 0 ≤ t → t < l → X 116 t = -2) → ∃ X', fo224_4 m X x (-1) l = some (X', jpv G x D) ∧ jx_6 G X' := by
  intro m
  induction m with
  | zero => intro l X h0 h1 h2; omega
  | succ m ih =>
    intro l X h0 h1 h2 hX hp
    unfold fo224_4
    by_cases e : 4 ≤ l
    · rw [if_pos e]
      have := h.1.1
      exact jr_25 h hD h13 hx D jo_N 0 X (by omega) (by unfold jo_N; omega) hX (fun t t0 t1 => hp t t0 (by omega))
    · rw [if_neg e, if_pos (by omega), if_pos (by omega)]
      exact ih (l + 1) _ (by omega) (by omega) (by omega) (fun n hn j => by rw [jg_uN hn]; exact hX n hn j) (fun t t0 t1 => by
        by_cases ex : t = l
        · rw [ex, jg_uH]
        · rw [jg_uI ex]; exact hp t t0 (by omega))
theorem jr_224 {K : jc_K} {G X : jg_G} {M D : Nat} {x : Int} (h : jLr K G M) (hD : D ≤ M) (h13 : G 92 13 = D) (hx : 0 ≤ x ∧ x < 32) (hX : jx_6 G X) : ∃ X', fo224 X x = some (X', jpv G x D) ∧ jx_6 G X' := jr_244 h hD h13 hx jo_N 0 X (by decide) (by decide) (by decide) hX (fun t _ _ => by omega)
theorem jLr.u0 {K : jc_K} {G : jg_G} {M : Nat} {v : Int} (h : jLr K G M) : jLr K (jg_u G 92 0 v) M := by
  have n : ∀ n, n ≠ 92 → ∀ j, jg_u G 92 0 v n j = G n j := fun n hn j => jg_uN hn
  have ht : ∀ t n, jt (jg_u G 92 0 v) t n = jt G t n := fun t n => by
    induction n with
    | zero => rfl
    | succ n ih =>
      show (if _ then _ else jt (jg_u G 92 0 v) t n) = (if _ then _ else jt G t n)
      rw [ih]
      rfl
  refine ⟨h.1, fun r r0 r1 => ?_⟩
  rw [n 98 (by decide), n 99 (by decide), n 100 (by decide), n 101 (by decide), n 103 (by decide), ht]
  exact h.2 r r0 r1
/-- plain -/
theorem jplain {K : jc_K} {G : jg_G} {N k : Nat} {W : jZW} (hs : jSt K G N k W) {a : Int} (ha : 0 ≤ a ∧ a < 32) : ∃ K', fc131 K a = some (K', .inl (G 113 (-1 - a))) ∧ jSt K' G N k W := by
  obtain ⟨M, hl, h12, d0, d1, h8⟩ := hs.I.lr
  have ed : ((G 92 13).toNat : Int) = G 92 13 := by omega
  obtain ⟨K', y1, y2, y3⟩ := jk_22 (D := (G 92 13).toNat) hl (by omega) (by rw [h8, ed])
  have MN : M = N := by
    have := hs.2.2.2.1.h12
    omega
  refine ⟨K', ?_, hs.w y2⟩
  unfold fc131
  rw [if_neg (by omega), if_pos ha.2, y1, jo_bs]
  dsimp only
  rw [if_pos ha, y3 a ha.1 ha.2]
  have px := hs.2.2.2.2.1.2.2.2.2.2.2.2.1 (G 92 13).toNat (by omega) (Or.inr (by omega)) a ha.1 ha.2
  rw [px]
