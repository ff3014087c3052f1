/-! changeLeaf() and changesKey(), with all that they leave -/
def jp_v (c : jp_C) (x : Int) : Int := if jh_pl c x < c.2.1 ∧ c.2.2.1 (jh_pl c x) = x then c.2.2.2 (jh_pl c x) else -1
theorem jp_v_e {c : jp_C} {x k : Int} (hw : jp_w c) (h : jp_pl c x k) : (if k < c.2.1 ∧ c.2.2.1 k = x then c.2.2.2 k else -1) = jp_v c x := by
  rw [jp_pl_u h (jh_pl_sp x hw.1)]; rfl
/-- the record N + 1 of a leaf -/
def jc_ch (G G' : jg_G) (N : Nat) (w t key v p u : Int) : Prop := (G' 98 ((N : Int) + 1) = w ∧ G' 99 ((N : Int) + 1) = t ∧ G' 100 ((N : Int) + 1) = G 108 t ∧ G' 101 ((N : Int) + 1) = key ∧ G' 103 ((N : Int) + 1) = v ∧ G' 104 ((N : Int) + 1) = u ∧ G' 105 ((N : Int) + 1) = 1 ∧ G' 106 (3 * ((N : Int) + 1)) = p) ∧ (G' 108 t = (N : Int) + 1 ∧ ∀ i, i ≠ t → G' 108 i = G 108 i) ∧ (G' 109 t = jb_m (G 109 t + 1) ∧ ∀ i, i ≠ t → G' 109 i = G 109 i) ∧ (∀ j, G' 112 j = G 112 j) ∧ G' 92 29 = G 92 29
theorem jc_g_is {G : jg_G} {N : Nat} {t key v was p : Int} (h12 : G 92 12 = N) (ht : 0 ≤ t ∧ t < 4) : jc_ch G (jc_g G ((N : Int) + 1) t key v was p) N 0 t key v p (-1) ∧ jc_g G ((N : Int) + 1) t key v was p 102 ((N : Int) + 1) = was ∧ jr_b (fr_no G 0 t) (jc_g G ((N : Int) + 1) t key v was p) ((N : Int) + 1) := by
  have is := fr_no_is (G := G) (w := 0) (t := t) ⟨by omega, ht.2⟩
  have o := fun (n : Nat) (j : Int) => fr_no_o (G := G) (w := 0) (t := t) (n := n) (j := j)
  rw [h12] at is
  simp only [h12] at o
  unfold jc_ch jc_g
  obtain ⟨a, b, c, d, e, f, g, i⟩ := is
  obtain ⟨i1, i2⟩ := i ht.1
  refine ⟨⟨⟨?_, ?_, ?_, ?_, ?_, ?_, ?_, ?_⟩, ⟨?_, fun j hj => ?_⟩, ⟨?_, fun j hj => ?_⟩, fun j => ?_, ?_⟩, ?_, fun m j x y z => ?_⟩
  · simp only [jg_u]; simp; exact b
  · simp only [jg_u]; simp; exact c
  · simp only [jg_u]; simp; rw [d, if_neg (by omega)]
  · simp only [jg_u]; simp
  · simp only [jg_u]; simp
  · simp only [jg_u]; simp; exact f
  · simp only [jg_u]; simp
  · simp only [jg_u]; simp
  · simp only [jg_u]; simp; exact i1
  · simp only [jg_u]; simp; exact o 108 j (by omega) (by omega) (by omega)
  · simp only [jg_u]; simp; exact i2
  · simp only [jg_u]; simp; exact o 109 j (by omega) (by omega) (by omega)
  · simp only [jg_u]; simp; exact o 112 j (by omega) (by omega) (by omega)
  · simp only [jg_u]; simp; exact o 92 29 (by omega) (by omega) (by omega)
  · simp only [jg_u]; simp
  · simp only [jg_u]
    rw [if_neg (by omega), if_neg (by omega), if_neg (by omega), if_neg (by omega), if_neg (by omega)]
theorem jc_change {K : jc_K} {G : jg_G} {N x L : Nat} {t key v : Int} (h : jY K G N x) (hN : N < 1100) (ht : 0 ≤ t ∧ t < 4) (hx : 0 ≤ key ∧ key < 32) (hv : -1 ≤ v ∧ v < 1000) (hW : jW K G N key L) (hL : L < 24) (hh : ∀ k, 0 ≤ k → k < 32 → -1 ≤ G 111 k ∧ G 111 k < 4) (hP : jP G + 1 < 2147483647) : ∃ K' G' b, fc144 K t key v = some (K', b) ∧ fo192 G t key v = some (G', 0) ∧ jk_g jQ K K' ∧ ((b = 1 ∧ jY K' G' (N + 1) x ∧ jV G G' N (N + 1) ∧ jP G' ≤ jP G + 1 ∧ jc_ch G G' N 0 t key v (G 112 L) (-1) ∧ G' 102 ((N : Int) + 1) = jp_v (jh G N (G 112 L)) key) ∨ (b = 0 ∧ jE K' G' x ∧ (G 92 13 ≤ G' 92 13 ∧ jl_a G G' N ∧ jd_m G G' ∧ G' 92 12 ≤ (N : Int) + 1 ∧ (G' 98 ((N : Int) + 1) = 0 ∧ G' 99 ((N : Int) + 1) = t ∧ G' 100 ((N : Int) + 1) = G 108 t ∧ G' 101 ((N : Int) + 1) = key ∧ G' 103 ((N : Int) + 1) = v ∧ G' 104 ((N : Int) + 1) = -1 ∧ G' 105 ((N : Int) + 1) = 1 ∧ G' 106 (3 * ((N : Int) + 1)) = G 112 L) ∧ G' 102 ((N : Int) + 1) = jp_v (jh G N (G 112 L)) key ∧ G' 92 29 = G 92 29 ∧ G' 92 0 = G 92 0 ∧ ∀ j, G' 113 j = G 113 j) ∧ G' 92 3 ≤ jP G + 1)) := by
  obtain ⟨⟨w1, w2⟩, w3, w4, w5, w6⟩ := hW
  have h12 : G 92 12 = N := h.1.2.1.2.2.1
  obtain ⟨wp1, wp2, wp3⟩ := w3 L (by omega) (by omega)
  generalize hp : G 112 L = p at *
  obtain ⟨K1, q, a1, a2, a3, a4, _⟩ := jB.start (w := 0) h hN ⟨by omega, ht.2⟩
  have hq := a2.2.2.2.2.1.2
  have q120 := hq.1.1
  have own1 := a2.own
  -- key
  have s2 : jk_s (fun n => n = q) K1 (jc_ui K1 q 3 key) := jk_s.u rfl
  have b2 : jB (jc_ui K1 q 3 key) (fr_no G 0 t) N x q := a2.s s2 (fun n e => by rw [e]; exact own1.1) (jr_b.refl _ _)
  generalize hK2 : jc_ui K1 q 3 key = K2 at s2 b2
  have way : ∀ K', jk_g (fun n => 98 ≤ n) K1 K' → fc70 K' = some (K', p) := fun K' s => by
    have i79 : jc_i K' 79 3 = L := by
      rw [s.2.2.2 79 3 (by have := hq.1.2; omega) (by omega), a3.2.2.2 79 3 (by have := h.2.2.2.1.1; omega) (by unfold jA_S; omega)]
      exact w1
    have i80 : jc_i K' 80 L = p := by
      rw [s.2.2.2 80 L (by have := hq.1.2; omega) (by omega), a3.2.2.2 80 L (by have := h.2.2.2.1.1; omega) (by unfold jA_S; omega)]
      exact wp1
    unfold fc70 fc69
    rw [i79, if_neg (by omega), if_neg (by omega), if_pos ⟨by omega, by omega⟩, jo_bs]
    dsimp only
    rw [i80]
  have g2 : jk_g (fun n => 98 ≤ n) K1 K2 := (jk_g.s s2).mono (fun n e => by omega)
  -- the leaf is looked at
  obtain ⟨v1, v2, v3, v4, v5, v6⟩ := b2.seen (p := p) ⟨wp2, wp3⟩
  have hl0 : jl_a G (fr_no G 0 t) N := fun m j e => fr_no_o (by omega) (by omega) (by omega)
  have ehist : jh (fr_no G 0 t) N p = jh G N p := hl0.h p N (Int.le_refl _)
  rw [ehist] at v3 v5 v6
  obtain ⟨k, was, c1, c2⟩ := jk_fc42 (x := key) v6 w6 v3
  have fo : fr_ro (fr_no G 0 t) p = fr_ro G p := by
    have : ∀ f, (fr_no G 0 t) 95 f = G 95 f := fun f => fr_no_o (by omega) (by omega) (by omega)
    unfold fr_ro fr_fo
    simp only [this]
  have e93 : ∀ j, (fr_no G 0 t) 93 j = G 93 j := fun j => fr_no_o (by omega) (by omega) (by omega)
  rw [fo] at v4 v5
  have v5' : jp_r G (fr_ro G p) (jh G N p) := by
    obtain ⟨z1, z2, z3⟩ := v5
    exact ⟨by rw [← e93]; exact z1, by rw [← e93]; exact z2, fun i i0 i1 => by rw [← e93, ← e93]; exact z3 i i0 i1⟩
  obtain ⟨k', d1, d2⟩ := jo_192 (t := t) (key := key) (v := v) h12 hN ⟨by omega, ht.2⟩ w2 hL hp ⟨wp2, wp3⟩ v4 v5' v6
  have ewas : was = jp_v (jh G N p) key := (jo_at c2 d1).trans (jp_v_e v6 d1)
  rw [jp_v_e v6 d1] at d2
  -- the rest of the record
  have hq2 := b2.2.2.2.2.1.2
  have own2 := b2.own
  have s4 : jk_s (fun n => n = q ∨ n = q + 1) K2 (jc_ui (jc_ui (jc_ui (jc_ui K2 q 4 was) q 5 v) (q + 1) 0 p) q 8 1) := (((jk_s.u (S := fun n => n = q ∨ n = q + 1) (Or.inl rfl)).trans (jk_s.u (Or.inl rfl))).trans (jk_s.u (Or.inr rfl))).trans (jk_s.u (Or.inl rfl))
  obtain ⟨x1, x2, x3⟩ := jc_g_is (key := key) (v := v) (was := was) (p := p) h12 ht
  have b4 := b2.s (G' := jc_g G ((N : Int) + 1) t key v was p) s4 (fun n e => e.elim (fun e => by rw [e]; exact own2.1) (fun e => by rw [e]; exact own2.2.1)) x3
  have f3 : fc26 (jc_ui (jc_ui K2 q 4 was) q 5 v) q p = some (jc_ui (jc_ui (jc_ui (jc_ui K2 q 4 was) q 5 v) (q + 1) 0 p) q 8 1, 0) := by
    unfold fc26
    rw [if_pos (jk_s.rc ((jk_s.u (S := fun n => n = q) rfl).trans (jk_s.u rfl)) hq2)]
  have fields : jc_i (jc_ui (jc_ui (jc_ui (jc_ui K2 q 4 was) q 5 v) (q + 1) 0 p) q 8 1) q 0 = (N : Int) + 1 ∧ jc_i (jc_ui (jc_ui (jc_ui (jc_ui K2 q 4 was) q 5 v) (q + 1) 0 p) q 8 1) q 1 = 0 ∧ jc_i (jc_ui (jc_ui (jc_ui (jc_ui K2 q 4 was) q 5 v) (q + 1) 0 p) q 8 1) q 2 = t ∧ jc_i (jc_ui (jc_ui (jc_ui (jc_ui K2 q 4 was) q 5 v) (q + 1) 0 p) q 8 1) q 3 = key ∧ jc_i (jc_ui (jc_ui (jc_ui (jc_ui K2 q 4 was) q 5 v) (q + 1) 0 p) q 8 1) q 6 = G 108 t ∧ jc_i (jc_ui (jc_ui (jc_ui (jc_ui K2 q 4 was) q 5 v) (q + 1) 0 p) q 8 1) q 7 = -1 ∧ jc_i (jc_ui (jc_ui (jc_ui (jc_ui K2 q 4 was) q 5 v) (q + 1) 0 p) q 8 1) q 8 = 1 ∧ jc_i (jc_ui (jc_ui (jc_ui (jc_ui K2 q 4 was) q 5 v) (q + 1) 0 p) q 8 1) q 5 = v ∧ jc_i (jc_ui (jc_ui (jc_ui (jc_ui K2 q 4 was) q 5 v) (q + 1) 0 p) q 8 1) q 4 = was ∧ jc_i (jc_ui (jc_ui (jc_ui (jc_ui K2 q 4 was) q 5 v) (q + 1) 0 p) q 8 1) (q + 1) 0 = p := by
    have hne : ¬ q = q + 1 := by omega
    have hne2 : ¬ q + 1 = q := by omega
    obtain ⟨y0, y1, y2, y3, y4, y5, y6, y7, y8⟩ := a4
    rw [if_neg (show ¬ t = -1 by omega)] at y6
    rw [← hK2]
    unfold jc_i at *
    unfold jc_ui
    simp [jg_u]
    exact ⟨y0, y1, y2, y6, y7⟩
  have h102 : jc_g G ((N : Int) + 1) t key v was p 102 ((N : Int) + 1) = was := x2
  have q1' : fc70 (jc_ui (jc_ui K2 q 4 was) q 5 v) = some (jc_ui (jc_ui K2 q 4 was) q 5 v, p) := way _ (g2.trans ((jk_g.s ((jk_s.u (S := fun n => n = q) rfl).trans (jk_s.u rfl))).mono (fun n e => by omega)))
  generalize hK4 : jc_ui (jc_ui (jc_ui (jc_ui K2 q 4 was) q 5 v) (q + 1) 0 p) q 8 1 = K4 at s4 b4 f3 fields
  generalize hG4 : jc_g G ((N : Int) + 1) t key v was p = G4 at x1 x2 x3 b4 h102 
  obtain ⟨⟨o98, o99, o100, o101, o103, o104, o105, o106⟩, o108, o109, o112, o29⟩ := id x1
  have hl4 : jl_a G G4 N := hl0.trans x3.l
  obtain ⟨r1, r2⟩ := jL_rec b4 ⟨wp2, wp3⟩ (by rw [hl4.h p N (Int.le_refl _)]; exact w6) (by rw [o98]; decide) o105 o106 (by rw [o101]; exact hx) (by rw [o103]; exact hv) (by
    rw [o98, o99, o100, o101, o103, o104, h102]
    obtain ⟨y0, y1, y2, y3, y4, y5, y6, y7, y8, y9⟩ := fields
    exact ⟨y0, y1, y2, y3, y4, y5, y6, y7, fun _ => y8, y9⟩)
  have eP : jP G4 = jP G := jP_same (fun i => by rw [x3 97 i (by omega) (by omega) (by omega), fr_no_o (by omega) (by omega) (by omega)]) (by rw [x3 92 3 (by omega) (by omega) (by omega), fr_no_o (by omega) (by omega) (by omega)])
  obtain ⟨K', G', b, z1, z2, z3, z4⟩ := b4.done r1 r2 (by rw [eP, o105]; exact hP)
  have o92 : ∀ i, i ≠ 12 → G4 92 i = G 92 i := fun i hi => by rw [x3 92 i (by omega) (by omega) (by omega), fr_no_o (by omega) (by omega) (by omega)]
  have gK : jk_g jQ K K' := (((a3.mono (fun n e => by unfold jA_S at e; unfold jQ; omega)).trans ((jk_g.s s2).mono (fun n e => by unfold jQ; omega))).trans ((jk_g.s s4).mono (fun n e => by unfold jQ; omega))).trans ((jk_g.s z3).mono (fun n e => Or.inl e))
  refine ⟨K', G', b, ?_, ?_, gK, ?_⟩
  · unfold fc144
    rw [a1, jo_bs]
    dsimp only
    rw [if_neg (by omega), if_pos hq, hK2]
    have e72 : fc72 K2 key = some (K2, was) := by
      unfold fc72
      rw [way K2 g2, jo_bs]
      dsimp only
      rw [v1, jo_bs]
      dsimp only
      rw [if_neg (by omega), if_pos v3.1, c1, jo_bs]
    rw [e72, jo_bs]
    dsimp only
    rw [if_pos hq2, q1', jo_bs]
    dsimp only
    rw [if_pos (jk_s.rc ((jk_s.u (S := fun n => n = q) rfl).trans (jk_s.u rfl)) hq2), f3, jo_bs]
    dsimp only
    rw [z1, jo_bs]
    dsimp only
    rw [if_pos (by rcases z4 with ⟨e, _⟩ | ⟨e, _⟩ <;> omega)]
  · rw [d2, ← ewas, hG4, z2, jo_bs]
  · rw [eP, o105] at z4
    rcases z4 with ⟨e, y1, y2, y3⟩ | ⟨e, y1, y2⟩
    · refine Or.inl ⟨e, y1, ⟨⟨hl4.trans (y2.l.a N), by omega, y1.1.2.1.2.2.1⟩, fun i i1 i2 i3 i4 i5 i6 i7 i8 => (y2.2.2.1 i i1 i2 i3 i4 i5 i7).trans (o92 i i6), fun n hn j => ?_, ?_⟩, y3, ?_, ?_⟩
      · rw [y2.1 n (by omega), x3 n j (by omega) (by omega) (by omega), fr_no_o (by omega) (by omega) (by omega)]
      · have := y2.2.2.2.1
        rw [o92 13 (by decide)] at this
        exact ⟨this, (jd_m.same (fun j _ b => (x3 93 j (by omega) (by omega) (by omega)).trans (fr_no_o (by omega) (by omega) (by omega)))).trans y2.2.2.2.2⟩
      · have g : ∀ n, 98 ≤ n → ∀ j, G' n j = G4 n j := fun n hn j => y2.1 n hn j
        unfold jc_ch
        rw [g 98 (by decide), g 99 (by decide), g 100 (by decide), g 101 (by decide), g 103 (by decide), g 104 (by decide), g 105 (by decide), g 106 (by decide), g 108 (by decide), g 109 (by decide)]
        refine ⟨⟨o98, o99, o100, o101, o103, o104, o105, o106⟩, ⟨o108.1, fun i hi => ?_⟩, ⟨o109.1, fun i hi => ?_⟩, fun j => ?_, ?_⟩
        · rw [g 108 (by decide)]; exact o108.2 i hi
        · rw [g 109 (by decide)]; exact o109.2 i hi
        · rw [g 112 (by decide)]; exact o112 j
        · rw [y2.2.2.1 29 (by decide) (by decide) (by decide) (by decide) (by decide) (by decide)]; exact o29
      · rw [y2.1 102 (by decide), h102, ewas]
    · have ec : (((N + 1 : Nat) : Nat) : Int) = (N : Int) + 1 := by omega
      have hz : jZ K4 G4 (N + 1) := fun r r0 r1' => by
        by_cases er : r ≤ N
        · exact b4.2.1.2 r r0 er
        · have er' : r = N + 1 := by omega
          subst er'
          rw [show ((N + 1 : Nat) : Int) - 1 = N by omega, b4.2.2.2.2.1.1, ec]
          exact ⟨r1, r2⟩
      have hE := jE.of hz (by rw [b4.1.2, ec]; exact Int.le_refl _) (by omega) (by rw [b4.1.2, b4.2.1.1]; exact Int.le_refl _) b4.2.2.2.1.1 b4.2.2.2.1.2 (fun k k0 k1 => by rw [x3 111 k (by omega) (by omega) (by omega), fr_no_o (by omega) (by omega) (by omega)]; exact hh k k0 k1) z3 (fun n hn => by unfold jS_n at hn; omega) y1.f (fun f f0 f1 => (b4.1.1.2.2.1.2.1 f f0 f1).2.2.2)
      obtain ⟨_, X, eX, eX2, eX3⟩ := id y1
      have k13 : G' 92 13 = X 92 13 := by rw [eX]; simp [fr_fw, fr_fa, fr_fi, fr_f0, jg_u]
      have hls : jl_s G4 G' := by rw [eX]; exact eX2.l.trans (jl_s.fw X)
      have gl : ∀ n, 98 ≤ n → n ≤ 106 → ∀ j, G' n j = G4 n j := hls.1
      refine Or.inr ⟨e, hE, ⟨?_, hl4.trans (hls.a N), ?_, ?_, ?_, ?_, ?_, ?_, fun j => ?_⟩, y2⟩
      · rw [k13]
        have := eX2.2.2.2.1
        rw [o92 13 (by decide)] at this
        exact this
      · refine (jd_m.same (fun j _ b => (x3 93 j (by omega) (by omega) (by omega)).trans (fr_no_o (by omega) (by omega) (by omega)))).trans (eX2.2.2.2.2.trans ?_)
        rw [eX]
        exact jd_m.same (fun j _ _ => (fr_fw_k X).2 93 (by decide) j)
      · rw [hE.2.1.2.1, k13]
        have := eX2.2.2.1 12 (by decide) (by decide) (by decide) (by decide) (by decide) (by decide)
        rw [b4.1.2] at this
        omega
      · rw [gl 98 (by decide) (by decide), gl 99 (by decide) (by decide), gl 100 (by decide) (by decide), gl 101 (by decide) (by decide), gl 103 (by decide) (by decide), gl 104 (by decide) (by decide), gl 105 (by decide) (by decide), gl 106 (by decide) (by decide)]
        exact ⟨o98, o99, o100, o101, o103, o104, o105, o106⟩
      · rw [gl 102 (by decide) (by decide), h102, ewas]
      · rw [eX, (fr_fw_k X).1 29 (by decide) (by decide) (by decide) (by decide), eX2.2.2.1 29 (by decide) (by decide) (by decide) (by decide) (by decide) (by decide)]
        exact o29
      · rw [eX, (fr_fw_k X).1 0 (by decide) (by decide) (by decide) (by decide), eX2.2.2.1 0 (by decide) (by decide) (by decide) (by decide) (by decide) (by decide)]
        exact o92 0 (by decide)
      · rw [eX, (fr_fw_k X).2 113 (by decide), eX2.1 113 (by decide), x3 113 j (by omega) (by omega) (by omega)]
        exact fr_no_o (by omega) (by omega) (by omega)
