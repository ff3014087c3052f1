/-! A RECORD DONE: perform() and does() -/
def jl_v (G : jg_G) (r : Nat) : Prop := (0 ≤ G 98 r ∧ G 98 r ≤ 7) ∧ (0 ≤ G 105 r ∧ G 105 r ≤ 3) ∧ (∀ k, 0 ≤ k → k < G 105 r → (0 ≤ G 106 (3 * (r : Int) + k) ∧ G 106 (3 * (r : Int) + k) < 24) ∧ jh_k G r (G 106 (3 * (r : Int) + k)) = k) ∧ (G 98 r ≤ 1 → (0 ≤ G 101 r ∧ G 101 r < 32) ∧ (-1 ≤ G 103 r ∧ G 103 r < 1000) ∧ ∀ p, jh_k G r p ≠ -1 → (jh G (r - 1) p).1 = 1) ∧ (0 < G 105 r → 1 < G 98 r → 5 ≤ G 98 r) ∧ ∀ p, 0 ≤ p → p < 24 → jp_w (jh G r p)
theorem jl_v.a {G G' : jg_G} {r : Nat} (h : jl_v G r) (hl : jl_a G G' r) (h1 : 1 ≤ r) : jl_v G' r := by
  obtain ⟨a, b, c, d, e, f⟩ := h
  have l : ∀ m, 98 ≤ m → m ≤ 105 → G' m r = G m r := fun m x y => hl.l ⟨x, y⟩ (by omega) (Int.le_refl _)
  refine ⟨by rw [l 98 (by decide) (by decide)]; exact a, by rw [l 105 (by decide) (by decide)]; exact b, fun k k0 k1 => ?_, fun z => ?_, by rw [l 98 (by decide) (by decide), l 105 (by decide) (by decide)]; exact e, fun p p0 p1 => by rw [hl.h p r (Int.le_refl _)]; exact f p p0 p1⟩
  · rw [l 105 (by decide) (by decide)] at k1
    rw [hl.c (by omega) (Int.le_refl _) k0 (by omega), hl.k (by omega) (Int.le_refl _)]
    exact c k k0 k1
  · rw [l 98 (by decide) (by decide)] at z
    rw [l 101 (by decide) (by decide), l 103 (by decide) (by decide)]
    have := d z
    refine ⟨this.1, this.2.1, fun p hp => ?_⟩
    rw [hl.k (by omega) (Int.le_refl _)] at hp
    rw [hl.h p (r - 1) (by omega)]
    exact this.2.2 p hp
theorem jX.t {K' : jc_K} {G G1 G' : jg_G} (h : jw_s G G1) (h2 : jX K' G' G1) : jX K' G' G := ⟨h2.1, h2.2.elim (fun X hX => ⟨X, hX.1, h.trans hX.2.1, hX.2.2⟩)⟩
theorem jX.c {K' : jc_K} {G' G : jg_G} (h : jX K' G' G) : G' 92 7 = 1 := by
  obtain ⟨_, X, e, _⟩ := h
  rw [e]
  exact fr_fw7 X
/-- the versions while a record is being done: its pages below the k-th have it -/
def jcp (G : jg_G) (r : Nat) (k : Int) : Int → Nat := fun p => if jh_k G r p ≠ -1 ∧ jh_k G r p < k then r else jv G p (r - 1)
theorem jcp_all {G : jg_G} {r : Nat} {k : Int} (hr : 1 ≤ r) (hk : G 105 r ≤ k) : jcp G r k = fun p => jv G p r := by
  funext p
  unfold jcp
  obtain ⟨m, rfl⟩ : ∃ m, r = m + 1 := ⟨r - 1, by omega⟩
  have em : ((m + 1 : Nat) : Int) = (m : Int) + 1 := by omega
  show _ = (if jh_k G ((m : Int) + 1) p = -1 then jv G p m else m + 1)
  have hb := jh_k_b G ((m : Int) + 1) p
  rw [em] at hk ⊢
  by_cases c : jh_k G ((m : Int) + 1) p = -1
  · rw [if_pos c, if_neg (fun z => z.1 c), show m + 1 - 1 = m by omega]
  · rw [if_neg c, if_pos ⟨c, by have := hb.2.2 (by omega); omega⟩]
theorem jcp_0 {G : jg_G} {r : Nat} : jcp G r 0 = fun p => jv G p (r - 1) := by
  funext p
  unfold jcp
  have hb := jh_k_b G r p
  rw [if_neg (fun z => by omega)]
theorem jcp_s {G : jg_G} {r : Nat} {k p : Int} (h0 : 0 ≤ k) (hp : jh_k G r p = k) (hu : ∀ p', jh_k G r p' = k → p' = p) : jcv (jcp G r k) p r = jcp G r (k + 1) := by
  funext x
  unfold jcv jcp
  by_cases e : x = p
  · rw [if_pos e, e, hp, if_pos ⟨by omega, by omega⟩]
  · rw [if_neg e]
    by_cases c : jh_k G r x ≠ -1 ∧ jh_k G r x < k
    · rw [if_pos c, if_pos ⟨c.1, by omega⟩]
    · rw [if_neg c, if_neg]
      intro z
      have : jh_k G r x = k := by
        have := jh_k_b G r x
        by_cases c2 : jh_k G r x < k
        · exact absurd ⟨z.1, c2⟩ c
        · omega
      exact e (hu x this)
theorem jN_perform {r : Nat} {q : Nat} (hr : 1 ≤ r) : ∀ (m : Nat) (k : Int) (K : jc_K) (G : jg_G), jN K G (jcp G r k) r → jg_rec K G r q → jl_v G r → 0 ≤ k → k ≤ G 105 r → G 105 r < k + m → jP G + (G 105 r - k) < 2147483647 → ∃ K' G' b, fc80_17 m K r q k = some (K', b) ∧ fo174_2 m G r k = some (G', 0) ∧ jk_s jS_n K K' ∧ ((b = 1 ∧ jN K' G' (fun p => jv G p r) r ∧ jw_s G G' ∧ jP G' ≤ jP G + (G 105 r - k)) ∨ (b = 0 ∧ jX K' G' G ∧ G' 92 3 ≤ jP G + (G 105 r - k))) := by
  intro m
  induction m with
  | zero => intro k K G _ _ _ h0 h1 h2; omega
  | succ m ih =>
    intro k K G h hq hv h0 h1 h2 hP
    have hN := h.2.1.2.2.2.1
    obtain ⟨qa, ⟨qb0, qb1, qb2, qb3, qb6, qb7, qb8⟩, qc, qd, qe, qf, qg⟩ := hq
    have hq : jg_rec K G r q := ⟨qa, ⟨qb0, qb1, qb2, qb3, qb6, qb7, qb8⟩, qc, qd, qe, qf, qg⟩
    unfold fc80_17 fo174_2
    rw [if_pos qa, qb8, if_pos (show 0 ≤ (r : Int) ∧ (r : Int) < 1501 by omega)]
    by_cases ck : G 105 r ≤ k
    · rw [if_pos ck, if_pos ck]
      have e := jcp_all (G := G) hr ck
      rw [e] at h
      exact ⟨K, G, 1, rfl, rfl, jk_s.refl, Or.inl ⟨rfl, h, jw_s.refl G, by omega⟩⟩
    · have v3 := hv.2.1.2
      obtain ⟨cp, ckk⟩ := hv.2.2.1 k h0 (by omega)
      have e30 : fc30 K q k = some (K, G 106 (3 * (r : Int) + k)) := by
        unfold fc30
        rw [if_neg (by omega), if_pos qa, qb8, if_neg ck, if_neg (by omega), if_pos ⟨by omega, by omega⟩, qe k h0 (by omega)]
      generalize hp : G 106 (3 * (r : Int) + k) = p at e30 cp ckk
      rw [if_neg ck, if_neg ck, if_pos h.2.1.1, if_pos (show 0 ≤ 3 * (r : Int) + k ∧ 3 * (r : Int) + k < 4503 by omega), e30, jo_bs]
      dsimp only
      obtain ⟨K1, G1, b, u1, u2, u3, u4⟩ := jN_use h cp (by omega)
      rw [u1, u2, jo_bs, jo_bs]
      dsimp only
      rcases u4 with ⟨rfl, n1, w1, P1, f1⟩ | ⟨rfl, x1, P1⟩
      · rw [if_neg (by decide), if_pos n1.2.1.1]
        have hl := w1.l
        have la : jl_a G G1 r := hl.a r
        have hv1 := hv.a la hr
        have hq1 : jg_rec K1 G1 r q := hq.s u3 (fun n hn => by unfold jS_n; omega) la (by omega) v3
        have l : ∀ m, 98 ≤ m → m ≤ 105 → G1 m r = G m r := fun m x y => la.l ⟨x, y⟩ (by omega) (Int.le_refl _)
        have ecp : ∀ k', jcp G1 r k' = jcp G r k' := fun k' => by
          funext x
          unfold jcp
          rw [la.k (by omega) (Int.le_refl _), la.v x (r - 1) (by omega)]
        have f2 := fr_fo_r G1 p
        have hkk1 : jh_k G1 r p = k := by rw [la.k (by omega) (Int.le_refl _)]; exact ckk
        have hcvp : jcp G r k p = jv G p (r - 1) := by
          unfold jcp
          rw [if_neg (fun z => by omega)]
        have hjle := jv_le G p (r - 1)
        obtain ⟨K2, K3, G3, c1, c2, c3, c4, c5, c6, c7, c8, c9, c10⟩ := jN_change (r := r) (p := p) (k := k) n1 ⟨f1, f2.2.1⟩ (f2.2.2 f1) cp.1 ⟨hr, Nat.le_refl _⟩ hq1 (by rw [l 105 (by decide) (by decide)]; exact v3) h0 (by rw [l 105 (by decide) (by decide)]; omega) (by rw [la.c (by omega) (Int.le_refl _) h0 (by omega)]; exact hp) hkk1 (by rw [hcvp]; omega) (fun r' x y => by
            rw [hcvp] at x
            rw [hl.a r |>.k (by omega) (by omega)]
            exact jv_none x (by omega)) (hv1.2.2.2.2.2 p cp.1 cp.2) (fun z => by
            have := hv1.2.2.2.1 z
            exact ⟨hv1.1.1, this.1, this.2.1, this.2.2 p (by rw [hkk1]; omega)⟩) (fun z => hv1.2.2.2.2.1 (by rw [l 105 (by decide) (by decide)]; omega) z)
        have hu : ∀ p', jh_k G1 r p' = k → p' = p := fun p' z => by
          have b := (jh_k_b G1 r p').2.2 (by omega)
          rw [z] at b
          have : G1 106 (3 * (r : Int) + k) = p := by rw [la.c (by omega) (Int.le_refl _) h0 (by omega)]; exact hp
          exact b.2.symm.trans this
        have n3 : jN K3 G3 (jcp G1 r (k + 1)) r := by
          rw [← jcp_s h0 hkk1 hu, ecp]
          exact c5
        have la3 : jl_a G1 G3 r := c7.l.a r
        have ecp3 : jcp G3 r (k + 1) = jcp G1 r (k + 1) := by
          funext x
          unfold jcp
          rw [la3.k (by omega) (Int.le_refl _), la3.v x (r - 1) (by omega)]
        rw [← ecp3] at n3
        have e105 : G3 105 r = G 105 r := (la3.l (m := 105) (by decide) (by omega) (Int.le_refl _)).trans (l 105 (by decide) (by decide))
        obtain ⟨K', G', b, i1, i2, i3, i4⟩ := ih (k + 1) K3 G3 n3 (hq1.s c6 (fun n hn => by unfold jS_n; omega) la3 (by omega) hv1.2.1.2) (hv1.a la3 hr) (by omega) (by omega) (by omega) (by omega)
        rw [c1, jo_bs]
        dsimp only
        rw [if_neg (by omega), if_pos (c2.rc hq1.1), c3, jo_bs, if_pos (by omega), c4, jo_bs, if_pos (by omega)]
        have wt := w1.trans c7
        refine ⟨K', G', b, i1, i2, (u3.trans c6).trans i3, ?_⟩
        rcases i4 with ⟨rfl, j1, j2, j3⟩ | ⟨rfl, j1, j2⟩
        · refine Or.inl ⟨rfl, ?_, wt.trans j2, by omega⟩
          have : (fun p => jv G3 p r) = fun p => jv G p r := by
            funext x
            rw [la3.v x r (Int.le_refl _), la.v x r (Int.le_refl _)]
          rw [← this]
          exact j1
        · exact Or.inr ⟨rfl, jX.t wt j1, by omega⟩
      · rw [if_pos rfl, if_neg (by rw [x1.c]; decide), if_pos (by omega)]
        have e2 : fo174_2 m G1 r (k + 1) = some (G1, 0) := by
          obtain ⟨m, rfl⟩ : ∃ j, m = j + 1 := ⟨m - 1, by omega⟩
          unfold fo174_2
          rw [if_pos ⟨by omega, by omega⟩]
          by_cases z : G1 105 r ≤ k + 1
          · rw [if_pos z]
          · rw [if_neg z, if_neg (by rw [x1.c]; decide)]
        exact ⟨K1, G1, 0, rfl, e2, u3, Or.inr ⟨rfl, x1, by omega⟩⟩
