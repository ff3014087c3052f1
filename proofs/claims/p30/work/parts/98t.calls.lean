/-! BETWEEN CALLS: what holds behind k of them; calls that throw -/
theorem jR.le {K : jc_K} {x x' : Nat} (h : jR K x) (hx : x ≤ x') : jR K x' := ⟨by have := h.1; omega, by have := h.2; omega⟩
theorem jY.le {K : jc_K} {G : jg_G} {N x x' : Nat} (h : jY K G N x) (hx : x ≤ x') : jY K G N x' := ⟨h.1, h.2.1, h.2.2.1, h.2.2.2.1, h.2.2.2.2.le hx⟩
theorem jE.le {K : jc_K} {G : jg_G} {x x' : Nat} (h : jE K G x) (hx : x ≤ x') : jE K G x' := ⟨h.1, h.2.1, h.2.2.1, h.2.2.2.1, h.2.2.2.2.1.le hx, h.2.2.2.2.2⟩
theorem jFl.le {K : jc_K} {G : jg_G} {x x' : Nat} (h : jFl K G x) (hx : x ≤ x') : jFl K G x' := ⟨h.1.le hx, h.2⟩
theorem jLv.le {K : jc_K} {G : jg_G} {N x x' κ κ' B B' : Nat} {W : jZW} (h : jLv K G N x κ W B) (hx : x ≤ x') (hκ : κ ≤ κ') (hB : B ≤ B') : jLv K G N x' κ' W B' := ⟨h.1.le hx, h.2.1.le hκ hB, h.2.2⟩
/-- what the law calls thrown is set -/
theorem jLv.t {K : jc_K} {G : jg_G} {N x κ B : Nat} {W : jZW} (h : jLv K G N x κ W B) (v : Int) : jLv K (jg_u G 92 0 v) N x κ (W.1, v, W.2.2) B := by
  obtain ⟨hY, hM, hz, hT, ⟨hWo, ρ, hρ⟩, hcl⟩ := h
  have hg : ∀ n j, ¬ (n = 110 ∨ n = 111 ∨ (n = 92 ∧ j = 0) ∨ 112 ≤ n) → jg_u G 92 0 v n j = G n j := fun n j h => by
    by_cases e : n = 92
    · subst e; exact jg_uI (by omega)
    · exact jg_uN e
  have hl : jl_a G (jg_u G 92 0 v) N := fun m j e => jg_uN (by omega)
  have n : ∀ n, n ≠ 92 → ∀ j, jg_u G 92 0 v n j = G n j := fun n hn j => jg_uN hn
  have ph : jph (jg_u G 92 0 v) N = jph G N := by
    rw [jph_tm, jph_tm, hl.cw 2 N (Int.le_refl _), hl.cw 3 N (Int.le_refl _)]
    congr 1
    refine jsum_e 4 (fun i hi => ?_)
    unfold jtm
    rw [hl.t _ N (Int.le_refl _), n 107 (by decide), n 110 (by decide)]
  refine ⟨hY.g hg, hM.g hg (fun k k0 k1 => by rw [n 111 (by decide)]; exact hM.2.2.1 k k0 k1) (by rw [ph]; exact hM.2.2.2.1) ⟨jg_uH, fun j => (n 113 (by decide) j).trans (hM.2.2.2.2.2.2.1.2 j)⟩ (Nat.le_refl _) (fun _ _ _ => n 113 (by decide) _) (fun _ _ _ _ _ _ _ _ h => by rw [n 111 (by decide)]; exact h), hz.same (fun z => hl.h z N (Int.le_refl _)), ⟨fun s s0 s1 => ?_, fun k k0 k1 => ?_⟩, ⟨⟨fun k k0 k1 h0 => ?_, fun s s0 s1 h0 => ?_⟩, ρ, fun s s0 s1 h0 => ?_⟩, fun s s0 s1 h0 => ?_⟩
  · rw [n 107 (by decide), n 110 (by decide)]; exact hT.1 s s0 s1
  · rw [n 111 (by decide)]; exact hT.2 k k0 k1
  · rw [n 111 (by decide)] at h0 ⊢
    rw [n 107 (by decide)]; exact hWo.1 k k0 k1 h0
  · rw [n 110 (by decide)] at h0 ⊢
    rw [n 107 (by decide), n 107 (by decide)]; exact hWo.2 s s0 s1 h0
  · rw [n 110 (by decide)] at h0 ⊢
    exact hρ s s0 s1 h0
  · rw [n 107 (by decide)] at h0
    rw [hl.t s N (Int.le_refl _)]; exact hcl s s0 s1 h0
theorem jE.g {K : jc_K} {G G' : jg_G} {x : Nat} (h : jE K G x) (hg : ∀ n j, ¬ ((n = 92 ∧ j = 0) ∨ 112 ≤ n) → G' n j = G n j) : jE K G' x := by
  obtain ⟨⟨a1, a2, a3⟩, ⟨b1, b2, b3, b4, b5, b6⟩, ⟨c1, c2, c3⟩, d⟩ := h
  have n92 : ∀ j, j ≠ 0 → G' 92 j = G 92 j := fun j hj => hg 92 j (by omega)
  have hl : jl_a G G' (G 92 13).toNat := fun m j e => hg m j (by omega)
  refine ⟨⟨?_, ?_, by rw [n92 5 (by decide)]; exact a3⟩, ⟨by rw [n92 7 (by decide)]; exact b1, by rw [n92 12 (by decide), n92 13 (by decide)]; exact b2, by rw [n92 8 (by decide)]; exact b3, fun f f0 f1 => by rw [hg 95 f (by omega), hg 96 f (by omega), hg 97 f (by omega)]; exact b4 f f0 f1, fun t t0 t1 => by rw [hg 107 t (by omega), hg 108 t (by omega), hg 109 t (by omega), hg 110 t (by omega)]; exact b5 t t0 t1, fun k k0 k1 => by rw [hg 111 k (by omega)]; exact b6 k k0 k1⟩, ⟨?_, by rw [n92 13 (by decide)]; exact c2, by rw [n92 13 (by decide)]; exact c3⟩, d⟩
  · rw [n92 13 (by decide)]
    exact a1.keep (Int.le_refl _) ⟨⟨rfl, rfl, rfl⟩, fun _ _ => rfl, fun _ _ _ _ => rfl⟩ (by rw [n92 3 (by decide)]; exact a1.1.1) (by rw [n92 3 (by decide)]; exact Int.le_refl _) (n92 4 (by decide)) ⟨fun m a b j => hg m j (by omega), fun j _ => hg 93 j (by omega)⟩ (fun j _ _ => hg 93 j (by omega)) (fun i => hg 94 i (by omega))
  · unfold jdn
    rw [n92 13 (by decide), n92 5 (by decide), n92 6 (by decide), n92 3 (by decide)]
    exact a2
  · rw [n92 13 (by decide)]
    exact c1.s (jk_s.refl (S := fun _ => False)) (fun _ _ z => z) hl
theorem jMf.g {G G' : jg_G} {κ B : Nat} {W W' : jZW} (h : jMf G κ W B) (hg : ∀ n j, ¬ ((n = 92 ∧ j = 0) ∨ 112 ≤ n) → G' n j = G n j) (h3 : jgz W' G') (h4 : W.1 ≤ W'.1) (h5 : ∀ x, 0 ≤ x → x < 32 → G' 113 (-1 - x) = G 113 (-1 - x)) : jMf G' κ W' B := by
  obtain ⟨n, a, ⟨b1, b2⟩, c, d, e, f, f9⟩ := h
  have hl : jl_a G G' n := fun m j e => hg m j (by omega)
  refine ⟨n, by rw [hg 92 12 (by omega)]; exact a, ⟨b1.a hl (Nat.le_refl _), b2.a hl (jd_m.same (fun j _ _ => hg 93 j (by omega))) (Nat.le_refl _)⟩, by rw [hl.ph0 (Int.le_refl _)]; exact c, by rw [hl.cw 0 n (Int.le_refl _), hl.cw 5 n (Int.le_refl _), hl.cw 4 n (Int.le_refl _)]; exact d, by rw [hg 92 3 (by omega)]; omega, h3, fun x x0 x1 => by rw [hl.pv x n (Int.le_refl _), h5 x x0 x1]; exact f9 x x0 x1⟩
def jPs (K : jc_K) (G : jg_G) : Prop := ∀ j, 0 ≤ j → j < 4 → jc_i K 85 j = G 113 j
def jIn (K : jc_K) (G : jg_G) (k : Nat) : Prop := jPs K G ∧ ((jc_i K 2 8 = 0 ∧ ∃ N W, W.1 ≤ 9000 * k ∧ jLv K G N k k W 223) ∨ ∃ W : jZW, W.1 ≤ 9000 * k ∧ jFl K G k ∧ jMf G k W 223)
/-- told: a crash -/
theorem jtold_f {K : jc_K} {G : jg_G} {x : Nat} (h : jE K G x) (h62 : ∀ k, 0 ≤ k → k < 32 → -1 ≤ jc_i K 62 k ∧ jc_i K 62 k < 4) : ∃ K', fc140 K (-4) = some (K', -4) ∧ jFl K' G x ∧ ∀ i, jc_i K' 85 i = jc_i K 85 i := by
  obtain ⟨K', a, b, c⟩ := jfall h h62
  refine ⟨K', ?_, b, fun i => c 85 (by decide) (by unfold jTn; decide) (by decide) (by decide) (by decide) (by decide) (by decide) i⟩
  unfold fc140
  rw [if_pos rfl, a, jo_bs]
theorem jtold_a {K : jc_K} {v : Int} (h : v ≠ -4) : fc140 K v = some (K, v) := by
  unfold fc140
  rw [if_neg h]
/-! what the law sees of a stretch of the log -/
/-- nothing -/
def jzs (G : jg_G) (N : Nat) (G' : jg_G) (N' : Nat) : Prop := (∀ y, jzA G' y N' = jzA G y N) ∧ (∀ t, 0 ≤ t → t < 4 → jzL G' t N' = jzL G t N) ∧ (∀ j, G' 107 j = G 107 j ∧ G' 110 j = G 110 j ∧ G' 111 j = G 111 j) ∧ (∀ t, 0 ≤ t → t < 4 → G 107 t = 1 → G' 109 t = G 109 t) ∧ jl_a G G' N ∧ N ≤ N' ∧ (∀ j, G' 113 j = G 113 j) ∧ ∀ t, 0 ≤ t → t < 4 → G' 108 t = G 108 t
/-- one change -/
def jzc (G : jg_G) (N : Nat) (G' : jg_G) (N' : Nat) (t key v : Int) : Prop := (∀ y, jzA G' y N' = if y = key then v else jzA G y N) ∧ (∃ r : Nat, G' 108 t = r ∧ jzL G' t N' = (r : Int) :: jzL G t N ∧ G' 101 r = key ∧ G' 102 r = jzA G key N ∧ N < r ∧ r ≤ N') ∧ (∀ s, 0 ≤ s → s < 4 → s ≠ t → jzL G' s N' = jzL G s N) ∧ (∀ j, G' 107 j = G 107 j ∧ G' 110 j = G 110 j ∧ G' 111 j = G 111 j) ∧ (∀ s, 0 ≤ s → s < 4 → G 107 s = 1 → G' 109 s = if s = t then G 109 s + 1 else G 109 s) ∧ jl_a G G' N ∧ N ≤ N' ∧ ∀ j, G' 113 j = G 113 j
theorem jzs.refl (G : jg_G) (N : Nat) : jzs G N G N := ⟨fun _ => rfl, fun _ _ _ => rfl, fun _ => ⟨rfl, rfl, rfl⟩, fun _ _ _ _ => rfl, jl_a.refl G N, Nat.le_refl _, fun _ => rfl, fun _ _ _ => rfl⟩
theorem jzs.trans {G G1 G2 : jg_G} {N N1 N2 : Nat} (h : jzs G N G1 N1) (h2 : jzs G1 N1 G2 N2) : jzs G N G2 N2 := by
  obtain ⟨a1, a2, a3, a4, a5, a6, a7, a8⟩ := h
  obtain ⟨b1, b2, b3, b4, b5, b6, b7, b8⟩ := h2
  exact ⟨fun y => (b1 y).trans (a1 y), fun t t0 t1 => (b2 t t0 t1).trans (a2 t t0 t1), fun j => ⟨(b3 j).1.trans (a3 j).1, (b3 j).2.1.trans (a3 j).2.1, (b3 j).2.2.trans (a3 j).2.2⟩, fun t t0 t1 h7 => (b4 t t0 t1 (by rw [(a3 t).1]; exact h7)).trans (a4 t t0 t1 h7), a5.trans (b5.le (by omega)), by omega, fun j => (b7 j).trans (a7 j), fun t t0 t1 => (b8 t t0 t1).trans (a8 t t0 t1)⟩
theorem jzs.c {G G1 G2 : jg_G} {N N1 N2 : Nat} {t key v : Int} (h : jzs G N G1 N1) (h2 : jzc G1 N1 G2 N2 t key v) (ht : 0 ≤ t ∧ t < 4) : jzc G N G2 N2 t key v := by
  obtain ⟨a1, a2, a3, a4, a5, a6, a7, a8⟩ := h
  obtain ⟨b1, ⟨r, c1, c2, c3, c4, c5, c6⟩, b3, b4, b5, b6, b7, b8⟩ := h2
  refine ⟨fun y => by rw [b1 y, a1 y], ⟨r, c1, by rw [c2, a2 t ht.1 ht.2], c3, by rw [c4, a1], by omega, c6⟩, fun s s0 s1 hs => (b3 s s0 s1 hs).trans (a2 s s0 s1), fun j => ⟨(b4 j).1.trans (a3 j).1, (b4 j).2.1.trans (a3 j).2.1, (b4 j).2.2.trans (a3 j).2.2⟩, fun s s0 s1 h7 => ?_, a5.trans (b6.le (by omega)), by omega, fun j => (b8 j).trans (a7 j)⟩
  rw [b5 s s0 s1 (by rw [(a3 s).1]; exact h7), a4 s s0 s1 h7]
theorem jzc.s {G G1 G2 : jg_G} {N N1 N2 : Nat} {t key v : Int} (h : jzc G N G1 N1 t key v) (h2 : jzs G1 N1 G2 N2) (ht : 0 ≤ t ∧ t < 4) : jzc G N G2 N2 t key v := by
  obtain ⟨a1, ⟨r, c1, c2, c3, c4, c5, c6⟩, a3, a4, a5, a6, a7, a8⟩ := h
  obtain ⟨b1, b2, b3, b4, b5, b6, b7, b8⟩ := h2
  refine ⟨fun y => (b1 y).trans (a1 y), ⟨r, (b8 t ht.1 ht.2).trans c1, (b2 t ht.1 ht.2).trans c2, by rw [b5.l (m := 101) (by decide) (by omega) (by omega)]; exact c3, by rw [b5.l (m := 102) (by decide) (by omega) (by omega)]; exact c4, c5, by omega⟩, fun s s0 s1 hs => (b2 s s0 s1).trans (a3 s s0 s1 hs), fun j => ⟨(b3 j).1.trans (a4 j).1, (b3 j).2.1.trans (a4 j).2.1, (b3 j).2.2.trans (a4 j).2.2⟩, fun s s0 s1 h7 => ?_, a6.trans (b5.le (by omega)), by omega, fun j => (b7 j).trans (a8 j)⟩
  rw [b4 s s0 s1 (by rw [(a4 s).1]; exact h7), a5 s s0 s1 h7]
theorem jzs.f {G G' : jg_G} {N : Nat} (w : jw_f G G') : jzs G N G' N :=
  ⟨fun y => (w.l.a N).zA y N (Int.le_refl _), fun t _ _ => (w.l.a N).zL t N (Int.le_refl _), fun j => ⟨w.1 107 (by decide) (by decide) j, w.1 110 (by decide) (by decide) j, w.1 111 (by decide) (by decide) j⟩, fun t _ _ _ => w.1 109 (by decide) (by decide) t, w.l.a N, Nat.le_refl _, fun j => w.1 113 (by decide) (by decide) j, fun t _ _ => w.1 108 (by decide) (by decide) t⟩
theorem jzs.no {G G' : jg_G} {N N' κ κ' B B' : Nat} {W W' : jZW} (hM : jM G N κ W B) (hM' : jM G' N' κ' W' B') (v : jV G G' N N') (n : jNo G' N N') (h8 : ∀ t, 0 ≤ t → t < 4 → G' 108 t = G 108 t) : jzs G N G' N' := by
  obtain ⟨a, b, _⟩ := jNo.all v.1.1 v.1.2.1 hM'.1.1.F n
  refine ⟨a, fun t t0 _ => b t t0, fun j => ⟨v.2.2.1 107 (by decide) j, v.2.2.1 110 (by decide) j, v.2.2.1 111 (by decide) j⟩, fun t t0 t1 h7 => ?_, v.1.1, v.1.2.1, fun j => v.2.2.1 113 (by decide) j, h8⟩
  rw [hM'.2.2.2.2.2.2.2.2.2 t t0 t1 (by rw [v.2.2.1 107 (by decide)]; exact h7), hM.2.2.2.2.2.2.2.2.2 t t0 t1 h7]
  exact jzn_ot v.1.1 (by rw [← hM'.2.1 t t0 t1, h8 t t0 t1, hM.2.1 t t0 t1])
theorem jzc.of {G G' : jg_G} {N κ κ' B B' : Nat} {W W' : jZW} {t key v : Int} (hM : jM G N κ W B) (hM' : jM G' (N + 1) κ' W' B') (V : jV G G' N (N + 1)) (ht : 0 ≤ t ∧ t < 4) (f98 : G' 98 ((N : Int) + 1) = 0) (f99 : G' 99 ((N : Int) + 1) = t) (f101 : G' 101 ((N : Int) + 1) = key) (f103 : G' 103 ((N : Int) + 1) = v) (f108 : G' 108 t = (N : Int) + 1) : jzc G N G' (N + 1) t key v := by
  have hl := V.1.1
  have ec : ((N + 1 : Nat) : Int) = (N : Int) + 1 := by omega
  have f102 := (hM'.1.1.F.2 N (by omega)).2.1 f98
  rw [f101, hl.zA key N (Int.le_refl _)] at f102
  refine ⟨fun y => ?_, ⟨N + 1, by rw [ec]; exact f108, by rw [ec, jzL_0 f99 f98, hl.zL t N (Int.le_refl _)], by rw [ec]; exact f101, by rw [ec]; exact f102, by omega, Nat.le_refl _⟩, fun s s0 s1 hs => by rw [jzL_o (by omega), hl.zL s N (Int.le_refl _)], fun j => ⟨V.2.2.1 107 (by decide) j, V.2.2.1 110 (by decide) j, V.2.2.1 111 (by decide) j⟩, fun s s0 s1 h7 => ?_, hl, by omega, fun j => V.2.2.1 113 (by decide) j⟩
  · by_cases e : y = key
    · rw [if_pos e, jzA_k (by omega) (by rw [f101, e]), f103]
    · rw [if_neg e, jzA_o (fun z => e (z.2.symm.trans f101)), hl.zA y N (Int.le_refl _)]
  · rw [hM'.2.2.2.2.2.2.2.2.2 s s0 s1 (by rw [V.2.2.1 107 (by decide)]; exact h7), hM.2.2.2.2.2.2.2.2.2 s s0 s1 h7]
    by_cases e : s = t
    · rw [if_pos e, jzn_k (by rw [f99, e]) (by omega), hl.zn s N (Int.le_refl _)]
    · rw [if_neg e, jzn_o (by rw [f99]; exact fun z => e z.symm), hl.zn s N (Int.le_refl _)]
