/-! A KEY FOUND: find() and finds() -/
/-- all but disk, cache and way is as it was -/
def jw_f (G X : jg_G) : Prop := (∀ n, 98 ≤ n → n ≠ 112 → ∀ j, X n j = G n j) ∧ (∀ j, 67 * 54 ≤ j → X 93 j = G 93 j) ∧ (∀ i, i ≠ 3 → i ≠ 4 → i ≠ 5 → i ≠ 6 → i ≠ 8 → i ≠ 13 → i ≠ 29 → X 92 i = G 92 i) ∧ G 92 13 ≤ X 92 13 ∧ jd_m G X
theorem jw_f.refl (G : jg_G) : jw_f G G := ⟨fun _ _ _ _ => rfl, fun _ _ => rfl, fun _ _ _ _ _ _ _ _ => rfl, Int.le_refl _, jd_m.refl G⟩
theorem jw_f.trans {G X Y : jg_G} (h : jw_f G X) (h2 : jw_f X Y) : jw_f G Y := ⟨fun n a b j => (h2.1 n a b j).trans (h.1 n a b j), fun j a => (h2.2.1 j a).trans (h.2.1 j a), fun i a b c d e f g => (h2.2.2.1 i a b c d e f g).trans (h.2.2.1 i a b c d e f g), Int.le_trans h.2.2.2.1 h2.2.2.2.1, h.2.2.2.2.trans h2.2.2.2.2⟩
theorem jw_s.f {G X : jg_G} (h : jw_s G X) : jw_f G X := ⟨fun n a _ j => h.1 n a j, h.2.1, fun i a b c d e f _ => h.2.2.1 i a b c d e f, h.2.2.2⟩
theorem jw_f.l {G X : jg_G} (h : jw_f G X) : jl_s G X := ⟨fun m a b j => h.1 m a (by omega) j, h.2.1⟩
/-- alike but for the way -/
def jp_x (G G' : jg_G) : Prop := ∀ n j, n ≠ 112 → (n ≠ 92 ∨ j ≠ 29) → G' n j = G n j
/-- fallen, in the midst of a method -/
def jXf (K : jc_K) (G' G : jg_G) : Prop := (jdc K G' (G' 92 13) ∧ jdn K G' ∧ jb_r (G' 92 5)) ∧ ∃ X G1, G1 = fr_fw X ∧ jp_x G1 G' ∧ jw_f G X ∧ X 92 13 ≤ X 92 12
theorem jX.f {K : jc_K} {G' G : jg_G} (h : jX K G' G) : jXf K G' G := by
  obtain ⟨a, X, e, b, c⟩ := h
  exact ⟨a, X, G', e, fun _ _ _ _ => rfl, b.f, c⟩
theorem jXf.t {K : jc_K} {G G1 G' : jg_G} (h : jw_f G G1) (h2 : jXf K G' G1) : jXf K G' G := by
  obtain ⟨a, X, Y, e, b, c, d⟩ := h2
  exact ⟨a, X, Y, e, b, h.trans c, d⟩
theorem jXf.c {K : jc_K} {G' G : jg_G} (h : jXf K G' G) : G' 92 7 = 1 := by
  obtain ⟨_, X, G1, e, b, _⟩ := h
  rw [b 92 7 (by decide) (Or.inr (by decide)), e]
  exact fr_fw7 X
/-- the way changed: fallen all the same -/
theorem jXf.x {K : jc_K} {G' G'' G : jg_G} (h : jXf K G' G) (hx : jp_x G' G'') : jXf K G'' G := by
  obtain ⟨⟨a1, a2, a3⟩, X, G1, e, b, c, d⟩ := h
  have g92 : ∀ i, i ≠ 29 → G'' 92 i = G' 92 i := fun i hi => hx 92 i (by decide) (Or.inr hi)
  refine ⟨⟨?_, ?_, by rw [g92 5 (by decide)]; exact a3⟩, X, G1, e, fun n j p q => (hx n j p q).trans (b n j p q), c, d⟩
  · rw [g92 13 (by decide)]
    exact a1.keep (Int.le_refl _) ⟨⟨rfl, rfl, rfl⟩, fun _ _ => rfl, fun _ _ _ _ => rfl⟩ (by rw [g92 3 (by decide)]; exact a1.1.1) (by rw [g92 3 (by decide)]; exact Int.le_refl _) (g92 4 (by decide)) ⟨fun m x y j => hx m j (by omega) (Or.inl (by omega)), fun j _ => hx 93 j (by decide) (Or.inl (by decide))⟩ (fun j _ _ => hx 93 j (by decide) (Or.inl (by decide))) (fun i => hx 94 i (by decide) (Or.inl (by decide)))
  · obtain ⟨⟨n1, n2, n3⟩, n4, n5, n6⟩ := a2
    exact ⟨⟨by rw [g92 13 (by decide)]; exact n1, by rw [g92 5 (by decide)]; exact n2, by rw [g92 6 (by decide)]; exact n3⟩, by rw [g92 6 (by decide)]; exact n4, by rw [g92 13 (by decide)]; exact n5, by rw [g92 3 (by decide)]; exact n6⟩
theorem jN.x {K : jc_K} {G G' : jg_G} {cv : Int → Nat} {N : Nat} (h : jN K G cv N) (hx : jp_x G G') : jN K G' cv N :=
  h.ref (Nat.le_refl _) h.2.1.2.2.2.1 ((hx 92 12 (by decide) (Or.inr (by decide))).trans h.2.1.2.2.1) (fun i hi => hx 92 i (by decide) (Or.inr (by omega))) (fun n hn j => hx n j (by omega) (Or.inl (by omega))) (fun j _ => hx 93 j (by decide) (Or.inl (by decide))) (fun m j e => hx m j (by omega) (Or.inl (by omega)))
def jF_n (n : Nat) : Prop := jS_n n ∨ n = 79 ∨ n = 80
/-- the way to a leaf for a key -/
def jW (K : jc_K) (G : jg_G) (N : Nat) (x : Int) (L : Nat) : Prop := (jc_i K 79 3 = L ∧ G 92 29 = (L : Int) + 1) ∧ (∀ j : Int, 0 ≤ j → j ≤ L → jc_i K 80 j = G 112 j ∧ 0 ≤ G 112 j ∧ G 112 j < 24) ∧ G 112 0 = 0 ∧ (∀ j : Int, 0 ≤ j → j < L → (jh G N (G 112 j)).1 = 2 ∧ ∃ k, jp_ci (jh G N (G 112 j)) x k ∧ (jh G N (G 112 j)).2.2.2 k = G 112 (j + 1)) ∧ (jh G N (G 112 L)).1 = 1
theorem jN_find_l {N : Nat} {x : Int} {g : Int → jp_C} {lo hi rk : Int → Int} (hx : jb_r x) (hT : jT g lo hi rk) (hz : ∀ q, 0 ≤ q → q < 24 → (g q).1 = 2 → 0 < (g q).2.1) : ∀ (m : Nat) (i : Nat) (K : jc_K) (G : jg_G) (p : Int), jN K G (fun p => jv G p N) N → (∀ q, jh G N q = g q) → 98 ≤ K.1.1 → (0 ≤ p ∧ p < 24 ∧ (g p).1 ≠ 0) → G 92 29 = i → (∀ j : Int, 0 ≤ j → j < i → jc_i K 80 j = G 112 j ∧ 0 ≤ G 112 j ∧ G 112 j < 24) → (∀ j : Int, 0 ≤ j → j < i → (g (G 112 j)).1 = 2 ∧ ∃ k, jp_ci (g (G 112 j)) x k ∧ (g (G 112 j)).2.2.2 k = if j + 1 < i then G 112 (j + 1) else p) → (if (0 : Int) < i then G 112 0 else p) = 0 → 25 < i + m → jP G < 2147483647 → ∃ K' G' b, fc71_4 m K x p i = some (K', b) ∧ fo175_9 m G x p 1 = some (G', 0) ∧ jk_s jF_n K K' ∧ ((b = 1 ∧ jN K' G' (fun p => jv G p N) N ∧ jw_f G G' ∧ jP G' ≤ jP G ∧ (∃ L, jW K' G' N x L)) ∨ (b = 0 ∧ jXf K' G' G ∧ G' 92 3 ≤ jP G)) := by
  intro m
  induction m with
  | zero => 
    intro i K G p h hg h120 hp h29 hw hc h0 hm hP
    -- the way is too long
    exfalso
    have := jT_way (L := i) (P := fun j => if j < i then G 112 j else p) (rk := rk) (fun j j0 j1 => by
      by_cases e : j < i
      · rw [if_pos e]; exact (hw j j0 e).2
      · rw [if_neg e]; exact ⟨hp.1, hp.2.1⟩) (fun j j0 j1 => by
      rw [if_pos j1]
      obtain ⟨k1, k, k2, k3⟩ := hc j j0 j1
      have := (hT.2.2.1 (G 112 j) k ⟨(hw j j0 j1).2, k1, k2.1.1, k2.1.2⟩).2.1
      rw [show jT_c g (G 112 j) k = _ from k3] at this
      exact this)
    omega
  | succ m ih =>
    intro i K G p h hg h120 hp h29 hw hc h0 hm hP
    have hi : i < 24 := jT_way (L := i) (P := fun j => if j < i then G 112 j else p) (rk := rk) (fun j j0 j1 => by
      by_cases e : j < i
      · rw [if_pos e]; exact (hw j j0 e).2
      · rw [if_neg e]; exact ⟨hp.1, hp.2.1⟩) (fun j j0 j1 => by
      rw [if_pos j1]
      obtain ⟨k1, k, k2, k3⟩ := hc j j0 j1
      have := (hT.2.2.1 (G 112 j) k ⟨(hw j j0 j1).2, k1, k2.1.1, k2.1.2⟩).2.1
      rw [show jT_c g (G 112 j) k = _ from k3] at this
      exact this)
    obtain ⟨K1, G1, b, u1, u2, u3, u4⟩ := jN_use h ⟨hp.1, hp.2.1⟩ hP
    unfold fc71_4 fo175_9
    rw [if_neg (by omega), if_neg (by decide), if_pos h.2.1.1, u1, u2, jo_bs, jo_bs]
    dsimp only
    have s3 : jk_s jF_n K K1 := u3.mono (fun n e => Or.inl e)
    rcases u4 with ⟨rfl, n1, w1, P1, f1⟩ | ⟨rfl, x1, P1⟩
    · -- used
      have hl := w1.l
      have g29 : G1 92 29 = i := (w1.2.2.1 29 (by decide) (by decide) (by decide) (by decide) (by decide) (by decide)).trans h29
      have g112 : ∀ j, G1 112 j = G 112 j := fun j => w1.1 112 (by decide) j
      simp only [g29]
      rw [if_neg (by decide), if_pos (show 0 ≤ (i : Int) ∧ (i : Int) < 24 by omega), if_pos (show 0 ≤ (i : Int) ∧ (i : Int) < 25 by omega), if_pos (show -2147483648 ≤ (i : Int) + 1 ∧ (i : Int) + 1 < 2147483648 by omega), if_pos (show 0 ≤ p ∧ p < 24 from ⟨hp.1, hp.2.1⟩)]
      have hx2 : jp_x G1 (jg_u (jg_u G1 112 i p) 92 29 ((i : Int) + 1)) := fun n j a b => by
        rw [show jg_u (jg_u G1 112 i p) 92 29 ((i : Int) + 1) n j = jg_u G1 112 i p n j by
          rcases b with b | b
          · exact jg_uN b
          · by_cases e : n = 92
            · rw [e]; exact jg_uI b
            · exact jg_uN e]
        exact jg_uN a
      have v112 : ∀ j, jg_u (jg_u G1 112 i p) 92 29 ((i : Int) + 1) 112 j = if j = i then p else G 112 j := fun j => by
        rw [jg_uN (by decide)]
        by_cases e : j = i
        · rw [e, jg_uH, if_pos rfl]
        · rw [jg_uI e, if_neg e]; exact g112 j
      have v29 : jg_u (jg_u G1 112 i p) 92 29 ((i : Int) + 1) 92 29 = (i : Int) + 1 := jg_uH
      have v93 : ∀ j, jg_u (jg_u G1 112 i p) 92 29 ((i : Int) + 1) 93 j = G1 93 j := fun j => hx2 93 j (by decide) (Or.inl (by decide))
      generalize hG2 : jg_u (jg_u G1 112 i p) 92 29 ((i : Int) + 1) = G2 at hx2 v112 v29 v93
      have sK2 : jk_s (fun n => n = 79 ∨ n = 80) K1 (jc_ui (jc_ui K1 80 i p) 79 3 i) := (jk_s.u (S := fun n => n = 79 ∨ n = 80) (Or.inr rfl)).trans (jk_s.u (Or.inl rfl))
      have k80 : ∀ j, jc_i (jc_ui (jc_ui K1 80 i p) 79 3 i) 80 j = if j = i then p else jc_i K 80 j := fun j => by
        rw [jc_uN (by decide)]
        by_cases e : j = i
        · rw [e, jc_uH, if_pos rfl]
        · rw [jc_uI e, if_neg e]; exact u3.2 80 (by unfold jS_n; omega) j
      have k79 : jc_i (jc_ui (jc_ui K1 80 i p) 79 3 i) 79 3 = i := jc_uH
      generalize hK2 : jc_ui (jc_ui K1 80 i p) 79 3 (i : Int) = K2 at sK2 k80 k79
      have h120' : 98 ≤ K1.1.1 := by rw [u3.1.1]; exact h120
      have n2 : jN K2 G2 (fun p => jv G p N) N := (n1.grow (jk_g.s sK2) (fun n hn e => by unfold jN_k at hn; omega) h120').x hx2
      obtain ⟨s1, s2, s4, s5, s6, s7, s8, s9, s10⟩ := jN_seen n2 ⟨hp.1, hp.2.1⟩
      have hl2 : jl_s G G2 := hl.trans ⟨fun m a b j => hx2 m j (by omega) (Or.inl (by omega)), fun j _ => hx2 93 j (by decide) (Or.inl (by decide))⟩
      have ec : jh G2 (jv G p N) p = g p := by rw [hl2.h, jh_v, hg]
      rw [ec] at s4 s7 s10
      have hg2 : ∀ q, jh G2 N q = g q := fun q => by rw [hl2.h]; exact hg q
      have w2 : jw_f G G2 := w1.f.trans ⟨fun n a b j => hx2 n j b (Or.inl (by omega)), fun j _ => hx2 93 j (by decide) (Or.inl (by decide)), fun i _ _ _ _ _ _ h => hx2 92 i (by decide) (Or.inr h), by rw [hx2 92 13 (by decide) (Or.inr (by decide))]; exact Int.le_refl _, jd_m.same (fun j _ _ => hx2 93 j (by decide) (Or.inl (by decide)))⟩
      have P2 : jP G2 ≤ jP G := by
        rw [jP_same (G := G1) (fun i => hx2 97 i (by decide) (Or.inl (by decide))) (hx2 92 3 (by decide) (Or.inr (by decide)))]
        exact P1
      have sKK : jk_s jF_n K K2 := s3.trans (sK2.mono (fun n e => by unfold jF_n; omega))
      rw [s1, jo_bs, jo_le]
      dsimp only
      rw [if_neg (by omega), if_pos s4.1, s4.2.1, if_pos n1.2.1.1, if_pos (show 0 ≤ 67 * fr_ro G2 p ∧ 67 * fr_ro G2 p < 305118 by omega), ← v93, s7.1]
      have chain : ∀ j : Int, 0 ≤ j → j < i → (g (G2 112 j)).1 = 2 ∧ ∃ k, jp_ci (g (G2 112 j)) x k ∧ (g (G2 112 j)).2.2.2 k = G2 112 (j + 1) := fun j j0 j1 => by
        rw [v112 j, if_neg (by omega), v112 (j + 1)]
        obtain ⟨k1, k, k2, k3⟩ := hc j j0 j1
        refine ⟨k1, k, k2, k3.trans ?_⟩
        by_cases e : j + 1 < i
        · rw [if_pos e, if_neg (by omega)]
        · rw [if_neg e, if_pos (by omega)]
      have start : G2 112 0 = 0 := by
        rw [v112]
        by_cases e : (0 : Int) < i
        · rw [if_pos e] at h0
          rw [if_neg (by omega)]; exact h0
        · rw [if_neg e] at h0
          rw [if_pos (by omega)]; exact h0
      have all80 : ∀ j, 0 ≤ j → j ≤ (i : Int) → jc_i K2 80 j = G2 112 j ∧ 0 ≤ G2 112 j ∧ G2 112 j < 24 := fun j j0 j1 => by
        rw [k80, v112]
        by_cases e : j = i
        · rw [if_pos e, if_pos e]; exact ⟨rfl, hp.1, hp.2.1⟩
        · rw [if_neg e, if_neg e]; exact hw j j0 (by omega)
      by_cases ck : (g p).1 = 2
      · -- down to a child
        have c0 := hz p hp.1 hp.2.1 ck
        obtain ⟨k, t1, t2⟩ := jk_fc40 (x := x) s10 ck s4 c0
        obtain ⟨k', t3, t4⟩ := jr_ch (x := x) s7 c0 s10.1.2
        have ek := jp_ci_u s10 ck t2 t3
        subst ek
        have hch := jT_child hT.1 (q := p) (i := k) ⟨⟨hp.1, hp.2.1⟩, ck, t2.1.1, t2.1.2⟩
        have hnz := (hT.2.2.1 p k ⟨⟨hp.1, hp.2.1⟩, ck, t2.1.1, t2.1.2⟩).1
        have hi2 : i + 1 < 24 := by
          have := jT_way (L := i + 1) (P := fun j => if j < (i : Int) + 1 then G2 112 j else (g p).2.2.2 k) (rk := rk) (fun j j0 j1 => by
            by_cases e : j < (i : Int) + 1
            · show 0 ≤ (if j < (i : Int) + 1 then G2 112 j else (g p).2.2.2 k) ∧ (if j < (i : Int) + 1 then G2 112 j else (g p).2.2.2 k) < 24
              rw [if_pos e]; exact (all80 j j0 (by omega)).2
            · show 0 ≤ (if j < (i : Int) + 1 then G2 112 j else (g p).2.2.2 k) ∧ (if j < (i : Int) + 1 then G2 112 j else (g p).2.2.2 k) < 24
              rw [if_neg e]; exact ⟨by have := hch.1; unfold jT_c at this; omega, hch.2⟩) (fun j j0 j1 => by
            show rk (if j + 1 < (i : Int) + 1 then G2 112 (j + 1) else (g p).2.2.2 k) < rk (if j < (i : Int) + 1 then G2 112 j else (g p).2.2.2 k)
            rw [if_pos (show j < (i : Int) + 1 by omega)]
            by_cases e : j < i
            · obtain ⟨k1, kk, k2, k3⟩ := chain j j0 e
              have := (hT.2.2.1 (G2 112 j) kk ⟨(all80 j j0 (by omega)).2, k1, k2.1.1, k2.1.2⟩).2.1
              rw [show jT_c g (G2 112 j) kk = _ from k3] at this
              rw [if_pos (show j + 1 < (i : Int) + 1 by omega)]
              exact this
            · have ej : j = i := by omega
              rw [ej, if_neg (show ¬ (i : Int) + 1 < (i : Int) + 1 by omega), v112, if_pos rfl]
              exact (hT.2.2.1 p k ⟨⟨hp.1, hp.2.1⟩, ck, t2.1.1, t2.1.2⟩).2.1)
          omega
        rw [if_pos ck, if_pos ck, t1, jo_bs, if_neg (show ¬ (24 : Int) ≤ (i : Int) + 1 by omega), if_pos (show 0 ≤ fr_ro G2 p ∧ fr_ro G2 p < 4553 by omega), s7.2.1, if_pos s10.1, jo_le, t4]
        dsimp only
        rw [if_pos (show -2147483648 ≤ (i : Int) + 1 ∧ (i : Int) + 1 < 2147483648 by omega)]
        have ej : ∀ q, jv G2 q N = jv G q N := fun q => hl2.v q N
        have n2' : jN K2 G2 (fun p => jv G2 p N) N := by
          rw [show (fun p => jv G2 p N) = fun p => jv G p N from funext ej]
          exact n2
        obtain ⟨K', G', b, y1, y2, y3, y4⟩ := ih (i + 1) K2 G2 ((g p).2.2.2 k) n2' hg2 (by rw [sK2.1.1]; exact h120') ⟨by have := hch.1; unfold jT_c at this; omega, hch.2, hnz⟩ (by rw [v29]; omega) (fun j j0 j1 => all80 j j0 (by omega)) (fun j j0 j1 => by
          by_cases e : j < i
          · obtain ⟨k1, kk, k2, k3⟩ := chain j j0 e
            exact ⟨k1, kk, k2, by rw [if_pos (by omega)]; exact k3⟩
          · have ej : j = i := by omega
            rw [ej, v112, if_pos rfl, if_neg (by omega)]
            exact ⟨ck, k, t2, rfl⟩) (by rw [if_pos (by omega)]; exact start) (by omega) (by omega)
        rw [show ((i + 1 : Nat) : Int) = (i : Int) + 1 by omega] at y1
        refine ⟨K', G', b, y1, y2, sKK.trans y3, ?_⟩
        rcases y4 with ⟨rfl, z1, z2, z3, z4⟩ | ⟨rfl, z1, z2⟩
        · refine Or.inl ⟨rfl, ?_, w2.trans z2, by omega, z4⟩
          rw [show (fun p => jv G p N) = fun p => jv G2 p N from (funext ej).symm]
          exact z1
        · exact Or.inr ⟨rfl, jXf.t w2 z1, by omega⟩
      · rw [if_neg ck, if_neg ck]
        have efin : fo175_9 m G2 x p 0 = some (G2, 0) := by
          obtain ⟨m, rfl⟩ : ∃ j, m = j + 1 := ⟨m - 1, by omega⟩
          unfold fo175_9
          rw [if_pos rfl]
        refine ⟨K2, G2, 1, rfl, efin, sKK, Or.inl ⟨rfl, n2, w2, P2, i, ⟨k79, v29⟩, all80, start, fun j j0 j1 => ?_, ?_⟩⟩
        · rw [hg2]; exact chain j j0 j1
        · rw [hg2, v112, if_pos rfl]
          obtain ⟨_, w | w | w⟩ := s10
          · exact absurd w.1 hp.2.2
          · exact w.1
          · exact absurd w.1 ck
    · -- a crash
      obtain ⟨y1, X, e, y2, y3⟩ := x1
      have k := fr_fw_k X
      have g29 : G1 92 29 = i := by
        rw [e, k.1 29 (by decide) (by decide) (by decide) (by decide), y2.2.2.1 29 (by decide) (by decide) (by decide) (by decide) (by decide) (by decide)]
        exact h29
      have g7 : G1 92 7 = 1 := by rw [e]; exact fr_fw7 X
      simp only [g29]
      rw [if_pos trivial, if_pos (show 0 ≤ (i : Int) ∧ (i : Int) < 25 by omega), if_pos (show -2147483648 ≤ (i : Int) + 1 ∧ (i : Int) + 1 < 2147483648 by omega), if_pos (show 0 ≤ p ∧ p < 24 from ⟨hp.1, hp.2.1⟩), jo_le, if_neg (show ¬ G1 92 7 = 0 by omega)]
      have efin : ∀ Y, fo175_9 m Y x p 0 = some (Y, 0) := fun Y => by
        obtain ⟨m, rfl⟩ : ∃ j, m = j + 1 := ⟨m - 1, by omega⟩
        unfold fo175_9
        rw [if_pos rfl]
      have hx2 : jp_x G1 (jg_u (jg_u G1 112 i p) 92 29 ((i : Int) + 1)) := fun n j a b => by
        rw [show jg_u (jg_u G1 112 i p) 92 29 ((i : Int) + 1) n j = jg_u G1 112 i p n j by
          rcases b with b | b
          · exact jg_uN b
          · by_cases e : n = 92
            · rw [e]; exact jg_uI b
            · exact jg_uN e]
        exact jg_uN a
      refine ⟨K1, _, 0, rfl, efin _, s3, Or.inr ⟨rfl, (jX.f ⟨y1, X, e, y2, y3⟩).x hx2, ?_⟩⟩
      rw [hx2 92 3 (by decide) (Or.inr (by decide))]
      exact P1
