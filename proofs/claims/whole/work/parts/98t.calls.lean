/-! BETWEEN CALLS: what holds behind k of them; calls that throw -/
theorem jR.le {K : jc_K} {x x' : Nat} (h : jR K x) (hx : x ≤ x') : jR K x' := ⟨by have := h.1; omega, by have := h.2; omega⟩
theorem jY.le {K : jc_K} {G : jg_G} {N x x' : Nat} (h : jY K G N x) (hx : x ≤ x') : jY K G N x' := ⟨h.1, h.2.1, h.2.2.1, h.2.2.2.1, h.2.2.2.2.le hx⟩
theorem jE.le {K : jc_K} {G : jg_G} {x x' : Nat} (h : jE K G x) (hx : x ≤ x') : jE K G x' := ⟨h.1, h.2.1, h.2.2.1, h.2.2.2.1, h.2.2.2.2.1.le hx, h.2.2.2.2.2⟩
theorem jFl.le {K : jc_K} {G : jg_G} {x x' : Nat} (h : jFl K G x) (hx : x ≤ x') : jFl K G x' := ⟨h.1.le hx, h.2⟩
theorem jLv.le {K : jc_K} {G : jg_G} {N x x' κ κ' B B' : Nat} {W : jZW} (h : jLv K G N x κ W B) (hx : x ≤ x') (hκ : κ ≤ κ') (hB : B ≤ B') : jLv K G N x' κ' W B' := ⟨h.1.le hx, h.2.1.le hκ hB, h.2.2⟩
/-- what the law calls thrown is set -/
theorem jLv.t {K : jc_K} {G : jg_G} {N x κ B : Nat} {W : jZW} (h : jLv K G N x κ W B) (v : Int) : jLv K (jg_u G 92 0 v) N x κ (W.1, v, W.2.2) B := by
  obtain ⟨hY, hM, hz, hT, ⟨hWo, ρ, hρ⟩, hcl⟩ := h
  have hg : ∀ n j, ¬ (n = 110 ∨ n = 111 ∨ (n = 92 ∧ j = 0) ∨ 112 ≤ n) → jg_u G 92 0 v n j = G n j := fun n j h => by
    by_cases e : n = 92
    · subst e; exact jg_uI (by omega)
    · exact jg_uN e
  have hl : jl_a G (jg_u G 92 0 v) N := fun m j e => jg_uN (by omega)
  have n : ∀ n, n ≠ 92 → ∀ j, jg_u G 92 0 v n j = G n j := fun n hn j => jg_uN hn
  have ph : jph (jg_u G 92 0 v) N = jph G N := by
    rw [jph_tm, jph_tm, hl.cw 2 N (Int.le_refl _), hl.cw 3 N (Int.le_refl _)]
    congr 1
    refine jsum_e 4 (fun i hi => ?_)
    unfold jtm
    rw [hl.t _ N (Int.le_refl _), n 107 (by decide), n 110 (by decide)]
  refine ⟨hY.g hg, hM.g hg (fun k k0 k1 => by rw [n 111 (by decide)]; exact hM.2.2.1 k k0 k1) (by rw [ph]; exact hM.2.2.2.1) ⟨jg_uH, fun j => (n 113 (by decide) j).trans (hM.2.2.2.2.2.2.2 j)⟩ (Nat.le_refl _), hz.same (fun z => hl.h z N (Int.le_refl _)), ⟨fun s s0 s1 => ?_, fun k k0 k1 => ?_⟩, ⟨⟨fun k k0 k1 h0 => ?_, fun s s0 s1 h0 => ?_⟩, ρ, fun s s0 s1 h0 => ?_⟩, fun s s0 s1 h0 => ?_⟩
  · rw [n 107 (by decide), n 110 (by decide)]; exact hT.1 s s0 s1
  · rw [n 111 (by decide)]; exact hT.2 k k0 k1
  · rw [n 111 (by decide)] at h0 ⊢
    rw [n 107 (by decide)]; exact hWo.1 k k0 k1 h0
  · rw [n 110 (by decide)] at h0 ⊢
    rw [n 107 (by decide), n 107 (by decide)]; exact hWo.2 s s0 s1 h0
  · rw [n 110 (by decide)] at h0 ⊢
    exact hρ s s0 s1 h0
  · rw [n 107 (by decide)] at h0
    rw [hl.t s N (Int.le_refl _)]; exact hcl s s0 s1 h0
theorem jE.g {K : jc_K} {G G' : jg_G} {x : Nat} (h : jE K G x) (hg : ∀ n j, ¬ ((n = 92 ∧ j = 0) ∨ 112 ≤ n) → G' n j = G n j) : jE K G' x := by
  obtain ⟨⟨a1, a2, a3⟩, ⟨b1, b2, b3, b4, b5, b6⟩, ⟨c1, c2, c3⟩, d⟩ := h
  have n92 : ∀ j, j ≠ 0 → G' 92 j = G 92 j := fun j hj => hg 92 j (by omega)
  have hl : jl_a G G' (G 92 13).toNat := fun m j e => hg m j (by omega)
  refine ⟨⟨?_, ?_, by rw [n92 5 (by decide)]; exact a3⟩, ⟨by rw [n92 7 (by decide)]; exact b1, by rw [n92 12 (by decide), n92 13 (by decide)]; exact b2, by rw [n92 8 (by decide)]; exact b3, fun f f0 f1 => by rw [hg 95 f (by omega), hg 96 f (by omega), hg 97 f (by omega)]; exact b4 f f0 f1, fun t t0 t1 => by rw [hg 107 t (by omega), hg 108 t (by omega), hg 109 t (by omega), hg 110 t (by omega)]; exact b5 t t0 t1, fun k k0 k1 => by rw [hg 111 k (by omega)]; exact b6 k k0 k1⟩, ⟨?_, by rw [n92 13 (by decide)]; exact c2, by rw [n92 13 (by decide)]; exact c3⟩, d⟩
  · rw [n92 13 (by decide)]
    exact a1.keep (Int.le_refl _) ⟨⟨rfl, rfl, rfl⟩, fun _ _ => rfl, fun _ _ _ _ => rfl⟩ (by rw [n92 3 (by decide)]; exact a1.1.1) (by rw [n92 3 (by decide)]; exact Int.le_refl _) (n92 4 (by decide)) ⟨fun m a b j => hg m j (by omega), fun j _ => hg 93 j (by omega)⟩ (fun j _ _ => hg 93 j (by omega)) (fun i => hg 94 i (by omega))
  · unfold jdn
    rw [n92 13 (by decide), n92 5 (by decide), n92 6 (by decide), n92 3 (by decide)]
    exact a2
  · rw [n92 13 (by decide)]
    exact c1.s (jk_s.refl (S := fun _ => False)) (fun _ _ z => z) hl
theorem jMf.g {G G' : jg_G} {κ B : Nat} {W W' : jZW} (h : jMf G κ W B) (hg : ∀ n j, ¬ ((n = 92 ∧ j = 0) ∨ 112 ≤ n) → G' n j = G n j) (h3 : jgz W' G') (h4 : W.1 ≤ W'.1) : jMf G' κ W' B := by
  obtain ⟨n, a, ⟨b1, b2⟩, c, d, e, f⟩ := h
  have hl : jl_a G G' n := fun m j e => hg m j (by omega)
  refine ⟨n, by rw [hg 92 12 (by omega)]; exact a, ⟨b1.a hl (Nat.le_refl _), b2.a hl (jd_m.same (fun j _ _ => hg 93 j (by omega))) (Nat.le_refl _)⟩, by rw [hl.ph0 (Int.le_refl _)]; exact c, by rw [hl.cw 0 n (Int.le_refl _), hl.cw 5 n (Int.le_refl _), hl.cw 4 n (Int.le_refl _)]; exact d, by rw [hg 92 3 (by omega)]; omega, h3⟩
def jPs (K : jc_K) (G : jg_G) : Prop := ∀ j, 0 ≤ j → j < 4 → jc_i K 85 j = G 113 j
def jIn (K : jc_K) (G : jg_G) (k : Nat) : Prop := jPs K G ∧ ((jc_i K 2 8 = 0 ∧ ∃ N W, W.1 ≤ 9000 * k ∧ jLv K G N k k W 223) ∨ ∃ W : jZW, W.1 ≤ 9000 * k ∧ jFl K G k ∧ jMf G k W 223)
/-- nothing changes, but thrown -/
theorem jIn.ro {K : jc_K} {G : jg_G} {k : Nat} (h : jIn K G k) (v : Int) : jIn K (jg_u G 92 0 v) (k + 1) := by
  have hg : ∀ n j, ¬ ((n = 92 ∧ j = 0) ∨ 112 ≤ n) → jg_u G 92 0 v n j = G n j := fun n j h => by
    by_cases e : n = 92
    · subst e; exact jg_uI (by omega)
    · exact jg_uN e
  refine ⟨fun j j0 j1 => by rw [jg_uN (by decide)]; exact h.1 j j0 j1, ?_⟩
  rcases h.2 with ⟨h8, N, W, hW, hL⟩ | ⟨W, hW, hF, hM⟩
  · exact Or.inl ⟨h8, N, _, by show W.1 ≤ _; omega, (hL.t v).le (by omega) (by omega) (Nat.le_refl _)⟩
  · obtain ⟨f1, f2, f3, f4⟩ := hF
    have hgz : jgz (W.1, v, W.2.2) (jg_u G 92 0 v) := by
      obtain ⟨n, _, _, _, _, _, f⟩ := hM
      exact ⟨jg_uH, fun j => (jg_uN (by decide)).trans (f.2 j)⟩
    exact Or.inr ⟨(W.1, v, W.2.2), by show W.1 ≤ _; omega, ⟨(f1.g hg).le (by omega), f2, by rw [f3]; exact (hg 92 12 (by omega)).symm, f4⟩, (hM.g hg hgz (Nat.le_refl _)).le (by omega) (Nat.le_refl _)⟩
theorem jk_g.cost {K : jc_K} {a b : Nat} : jk_g (fun _ => False) K (jc_cost K a b) := ⟨Nat.le_refl _, fun _ _ => rfl, fun _ _ _ _ => rfl, fun _ _ _ _ => rfl⟩
theorem jD.cost {K : jc_K} {a b : Nat} (h : jD K) : jD (jc_cost K a b) := by
  obtain ⟨h1, ⟨τ, h2⟩, h3⟩ := h
  refine ⟨h1, ⟨τ, fun i i0 i1 => ?_⟩, ?_⟩
  · rcases h2 i i0 i1 with z | z
    · exact Or.inl z
    · exact Or.inr (z.g jk_g.cost (fun _ _ y => y.elim) (fun _ _ => rfl))
  · rw [jw_sum_e (K := K) (K' := jc_cost K a b) 1100 (fun i _ => rfl)]
    exact h3
theorem jZ.cost {K : jc_K} {G : jg_G} {N a b : Nat} (h : jZ K G N) (hN : N ≤ 1100) (hD : jD K) : jZ (jc_cost K a b) G N := h.g hN jk_g.cost (fun _ _ y => y.elim) hD (jl_a.refl G N) (fun _ _ _ => rfl)
theorem jY.cost {K : jc_K} {G : jg_G} {N x : Nat} (h : jY K G N x) : jY (jc_cost K 1 6) G N (x + 1) :=
  ⟨h.1.grow (S := fun _ => False) jk_g.cost (fun _ _ z => z) h.2.2.2.1.1, ⟨h.2.1.1, h.2.1.2.cost h.1.2.1.2.2.2.1 h.2.2.2.1⟩, h.2.2.1, h.2.2.2.1.cost, ⟨by show K.1.2.1 + 1 ≤ K.1.1 + (x + 1); have := h.2.2.2.2.1; omega, by show K.1.2.2 + 6 ≤ 324816 + 32 * K.1.1 + 6 * (x + 1); have := h.2.2.2.2.2; omega⟩⟩
theorem jc_pg.cost {K : jc_K} {a b p : Nat} (h : jc_pg K p) : jc_pg (jc_cost K a b) p := h
theorem jp_k.cost {K : jc_K} {a b p : Nat} {c : jp_C} (h : jp_k K p c) : jp_k (jc_cost K a b) p c := h
theorem jE.cost {K : jc_K} {G : jg_G} {x : Nat} (h : jE K G x) : jE (jc_cost K 1 6) G (x + 1) := by
  obtain ⟨⟨a1, a2, a3⟩, b, ⟨c1, c2, c3⟩, d1, d2, d3⟩ := h
  refine ⟨⟨?_, a2, a3⟩, b, ⟨c1.cost (by omega) d1, c2, c3⟩, d1.cost, ⟨by show K.1.2.1 + 1 ≤ K.1.1 + (x + 1); have := d2.1; omega, by show K.1.2.2 + 6 ≤ 324816 + 32 * K.1.1 + 6 * (x + 1); have := d2.2; omega⟩, fun f f0 f1 => (d3 f f0 f1).cost⟩
  obtain ⟨e1, e2, e3⟩ := a1
  exact ⟨e1, e2, fun p p0 p1 => e3 p p0 p1⟩
theorem jIn.thr {K : jc_K} {G : jg_G} {k : Nat} (h : jIn K G k) (v : Int) : jIn (jc_cost K 1 6) (jg_u G 92 0 v) (k + 1) := by
  have hg : ∀ n j, ¬ ((n = 92 ∧ j = 0) ∨ 112 ≤ n) → jg_u G 92 0 v n j = G n j := fun n j h => by
    by_cases e : n = 92
    · subst e; exact jg_uI (by omega)
    · exact jg_uN e
  refine ⟨fun j j0 j1 => by rw [jg_uN (by decide)]; exact h.1 j j0 j1, ?_⟩
  rcases h.2 with ⟨h8, N, W, hW, hL⟩ | ⟨W, hW, hF, hM⟩
  · obtain ⟨y1, y2, y3, y4, y5⟩ := hL.t v
    exact Or.inl ⟨h8, N, _, by show W.1 ≤ _; omega, y1.cost, y2.le (by omega) (Nat.le_refl _), y3, y4, y5⟩
  · obtain ⟨f1, f2, f3, f4⟩ := hF
    have hgz : jgz (W.1, v, W.2.2) (jg_u G 92 0 v) := by
      obtain ⟨n, _, _, _, _, _, f⟩ := hM
      exact ⟨jg_uH, fun j => (jg_uN (by decide)).trans (f.2 j)⟩
    exact Or.inr ⟨(W.1, v, W.2.2), by show W.1 ≤ _; omega, ⟨(f1.g hg).cost, f2, by show jc_i K 63 4 = _; rw [f3]; exact (hg 92 12 (by omega)).symm, f4⟩, (hM.g hg hgz (Nat.le_refl _)).le (by omega) (Nat.le_refl _)⟩
/-- told: a crash -/
theorem jtold_f {K : jc_K} {G : jg_G} {x : Nat} (h : jE K G x) (h62 : ∀ k, 0 ≤ k → k < 32 → -1 ≤ jc_i K 62 k ∧ jc_i K 62 k < 4) : ∃ K', fc140 K (-4) = some (K', -4) ∧ jFl K' G x ∧ ∀ i, jc_i K' 85 i = jc_i K 85 i := by
  obtain ⟨K', a, b, c⟩ := jfall h h62
  refine ⟨K', ?_, b, fun i => c 85 (by decide) (by unfold jTn; decide) (by decide) (by decide) (by decide) (by decide) (by decide) i⟩
  unfold fc140
  rw [if_pos rfl, a, jo_bs]
theorem jtold_a {K : jc_K} {v : Int} (h : v ≠ -4) : fc140 K v = some (K, v) := by
  unfold fc140
  rw [if_neg h]
theorem jl_cmp_l {mp : Nat → Int} {K : jc_K} {G : jg_G} {v w : Int} (h0 : G 92 0 = 0) (h : v = w) : jl_cmp mp (K, .inl v) (G, w) = some (K, G) := by
  show (if G 92 0 = 0 ∧ v = w then some (K, G) else none) = _
  rw [if_pos ⟨h0, h⟩]
theorem jl_cmp_r {mp : Nat → Int} {K : jc_K} {G : jg_G} {e : Nat} {w : Int} (h : mp e ≠ 0) (h0 : G 92 0 = mp e) : jl_cmp mp (K, .inr e) (G, w) = some (K, G) := by
  show (if mp e ≠ 0 ∧ G 92 0 = mp e then some (K, G) else none) = _
  rw [if_pos ⟨h, h0⟩]
theorem jl_cmv_l {mp : Nat → Int} {K : jc_K} {G : jg_G} {v w : Int} (h0 : G 92 0 = 0) : jl_cmv mp (K, .inl v) (G, w) = some (K, G) := by
  show (if G 92 0 = 0 then some (K, G) else none) = _
  rw [if_pos h0]
theorem jl_cmv_r {mp : Nat → Int} {K : jc_K} {G : jg_G} {e : Nat} {w : Int} (h : mp e ≠ 0) (h0 : G 92 0 = mp e) : jl_cmv mp (K, .inr e) (G, w) = some (K, G) := by
  show (if mp e ≠ 0 ∧ G 92 0 = mp e then some (K, G) else none) = _
  rw [if_pos ⟨h, h0⟩]
