/-! A RECORD DONE ON A PAGE IN ITS FRAME, class and reference alike -/
theorem jr_chg {G : jg_G} {f r k : Int} {c : jp_C} (hf : 0 ≤ f ∧ f < 4) (hr : 1 ≤ r ∧ r < 1501) (hw : jp_w c) (hk : c.1 = 1) (hc : jp_r G f c) (h98 : G 98 r = 0 ∨ G 98 r = 1) (hx : 0 ≤ G 101 r ∧ G 101 r < 32) (hv : -1 ≤ G 103 r ∧ G 103 r < 1000) : ∃ Gc, fo173_15 G r k f = fo173_133 Gc r k f ∧ jr_o G Gc f ∧ jp_r Gc f (jp_chg c (G 101 r) (G 103 r) (jh_pl c (G 101 r))) := by
  have hb := hw.1
  have hpl := jh_pl_sp (c := c) (G 101 r) hb
  obtain ⟨k', p1, p2⟩ := jr_pl (x := G 101 r) hc hb.1 hb.2
  have ek := jp_pl_u p1 hpl
  subst ek
  have e15 : fo173_15 G r k f = fo173_47 G r k f (fr_pl G f (G 101 r)) := by
    unfold fo173_15 jo_l
    rw [if_pos ⟨by omega, by omega⟩, hc.2.1]
    rcases h98 with h | h
    · rw [if_pos h, if_pos ⟨by omega, by omega⟩, if_pos hb]
    · rw [if_neg (by omega), if_pos h, if_pos ⟨by omega, by omega⟩, if_pos hb]
  rw [e15, p2]
  unfold fo173_47 jp_chg
  rw [if_pos ⟨by omega, by omega⟩, hc.2.1]
  by_cases cf : jh_pl c (G 101 r) < c.2.1 ∧ c.2.2.1 (jh_pl c (G 101 r)) = G 101 r
  · rw [if_pos cf, if_pos cf]
    by_cases cv : G 103 r = -1
    · rw [if_pos cv, if_pos cv, if_neg (by have := p1.1.1; omega), if_pos ⟨by omega, by omega⟩, if_pos ⟨p1.1.1, cf.1, hb.2⟩]
      obtain ⟨o1, o2, _⟩ := jr_drops hc p1.1.1 cf.1 hb.2
      exact ⟨_, rfl, o1, o2⟩
    · have p0 := p1.1.1
      rw [if_neg cv, if_neg cv, if_neg (by omega), if_pos ⟨by omega, by omega⟩, if_pos ⟨by omega, by omega⟩]
      obtain ⟨o1, o2, _⟩ := jr_lays (x := G 101 r) (y := G 103 r) hc p0 cf.1 hb.2
      refine ⟨_, rfl, o1, o2.1, o2.2.1, fun i i0 i1 => ?_⟩
      have := o2.2.2 i i0 i1
      refine ⟨this.1.trans ?_, this.2⟩
      show (if i = _ then _ else _) = c.2.2.1 i
      by_cases e : i = jh_pl c (G 101 r)
      · rw [if_pos e, e]; exact cf.2.symm
      · rw [if_neg e]
  · rw [if_neg cf, if_neg cf]
    have p0 := p1.1.1
    by_cases cv : G 103 r = -1
    · rw [if_pos cv, if_pos cv, if_pos (by omega)]
      exact ⟨G, rfl, jr_o.refl G f, hc⟩
    · have room := jp_room hw hk p1 cf hx
      rw [if_neg cv, if_neg cv, if_pos (by omega), if_pos ⟨by omega, by omega⟩, show -1 - (-1 - jh_pl c (G 101 r)) = jh_pl c (G 101 r) by omega, if_pos ⟨p0, p1.1.2, room⟩]
      obtain ⟨o1, o2, _⟩ := jr_puts (x := G 101 r) (y := G 103 r) hc p0 p1.1.2 room
      exact ⟨_, rfl, o1, o2⟩
theorem jN_change {K : jc_K} {G : jg_G} {cv : Int → Nat} {N r : Nat} {f p k : Int} {q : Nat} (h : jN K G cv N) (hf : 0 ≤ f ∧ f < 4) (hp : G 95 f = p) (hp0 : 0 ≤ p) (hr : 1 ≤ r ∧ r ≤ N) (hq : jg_rec K G r q) (hm : G 105 r ≤ 3) (hk0 : 0 ≤ k) (hk1 : k < G 105 r) (hkp : G 106 (3 * (r : Int) + k) = p) (hkk : jh_k G r p = k) (hv : cv p < r) (hno : ∀ r' : Nat, cv p < r' → r' < r → jh_k G r' p = -1) (hw : jp_w (jh G r p)) (hch : G 98 r ≤ 1 → (0 ≤ G 98 r) ∧ (0 ≤ G 101 r ∧ G 101 r < 32) ∧ (-1 ≤ G 103 r ∧ G 103 r < 1000) ∧ (jh G (r - 1) p).1 = 1) (h5 : 1 < G 98 r → 5 ≤ G 98 r) :
    ∃ K1 K' G', fc7 K p r = some (K1, 71 + 2 * f.toNat) ∧ jk_s (fun n => n = 70) K K1 ∧ fc31 K1 q k (71 + 2 * f.toNat) = some (K', 0) ∧ fo173 G r k = some (G', 0) ∧ jN K' G' (jcv cv p r) N ∧ jk_s jS_n K K' ∧ jw_s G G' ∧ jP G' ≤ jP G + 1 ∧ (∀ i, G' 95 i = G 95 i) ∧ (∀ i, G' 92 i = G 92 i) := by
  have hh := h
  obtain ⟨⟨a1, a2, a3⟩, ⟨b1, b2, b3, b4, b5⟩, ⟨⟨ca1, ca2, ca3⟩, c2, c3, c4⟩⟩ := h
  obtain ⟨e1, e2, e3, e4⟩ := c2 f hf.1 hf.2 (by omega)
  obtain ⟨⟨x1, x2, x3⟩, x4, x5, x6⟩ := ca2 f hf.1 hf.2
  rw [hp] at e1 e2 e3 e4
  have hpl : p < 24 := by omega
  have rr : r < 1501 := by omega
  -- the frame's content
  obtain ⟨v, v1, v2, v3, v4, v5⟩ := e2
  have hvc : v = cv p := by omega
  have hjv : jv G p (r - 1) = v := by
    rw [jv_eq2 (n := v) (by omega) (fun r' y z => hno r' (by omega) (by omega)), v3]
  have hcont : jh G v p = jh G (r - 1) p := by rw [← hjv]; exact jh_v G p (r - 1)
  rw [hcont] at v4 v5
  have hkcont : jp_k K (71 + 2 * f.toNat) (jh G (r - 1) p) := by
    have := e3.2
    rw [v1, Int.toNat_natCast, hcont] at this
    exact this
  have hjr : jh G r p = if G 98 r ≤ 1 then jp_chg (jh G (r - 1) p) (G 101 r) (G 103 r) (jh_pl (jh G (r - 1) p) (G 101 r)) else jh_row G (54 + 3 * ((r : Int) - 1) + k) := by
    obtain ⟨m, rfl⟩ : ∃ m, r = m + 1 := ⟨r - 1, by omega⟩
    have em : ((m + 1 : Nat) : Int) = (m : Int) + 1 := by omega
    rw [em] at hkk ⊢
    show (if jh_k G ((m : Int) + 1) p = -1 then _ else _) = _
    rw [hkk, if_neg (by omega), show m + 1 - 1 = m by omega, show 54 + 3 * ((m : Int) + 1 - 1) = 54 + 3 * (m : Int) by omega]
  -- the class's frame, told
  have efo : fr_fo G p = f := fr_fo_is ca3 hp0 hf.1 hf.2 hp
  obtain ⟨K1, r1, s1, s70, s70'⟩ : ∃ K1, fc7 K p r = some (K1, 71 + 2 * f.toNat) ∧ jk_s (fun n => n = 70) K K1 ∧ jc_i K1 70 f = (if G 97 f = 0 then (r : Int) else G 97 f) ∧ ∀ i, i ≠ f → jc_i K1 70 i = jc_i K 70 i := by
    unfold fc7
    rw [jk_fc2 hh.2.2.1 hp0, efo, jo_bs]
    dsimp only
    rw [if_neg (by omega), if_pos hf.2, if_pos hf, x3]
    by_cases c : G 97 f = 0
    · rw [if_pos c, if_pos c]
      exact ⟨_, rfl, jk_s.u rfl, jc_uH, fun i hi => jc_uI hi⟩
    · rw [if_neg c, if_neg c]
      exact ⟨K, rfl, jk_s.refl, x3, fun i _ => rfl⟩
  -- the contents changed
  have cc : ∃ Kc, fc31 K1 q k (71 + 2 * f.toNat) = some (jc_ui Kc (71 + 2 * f.toNat) 1 r, 0) ∧ jk_f K1 Kc (71 + 2 * f.toNat) ∧ jp_k Kc (71 + 2 * f.toNat) (jh G r p) := by
    obtain ⟨qa, ⟨qb0, qb1, qb2, qb3, qb6, qb7, qb8⟩, qc, qd, qe, qf, qg⟩ := hq
    have q120 := qa.1.1
    have qa1 := s1.rc qa
    have i1 : ∀ j, jc_i K1 q j = jc_i K q j := fun j => s1.2 q (by omega) j
    have hk1c : jp_k K1 (71 + 2 * f.toNat) (jh G (r - 1) p) := s1.k (by omega) (by omega) hkcont
    have pp : jc_p K1 (q + 2) k = jc_p K (q + 2) k := by unfold jc_p; rw [s1.1.2.2]
    have e31 : fc31 K1 q k (71 + 2 * f.toNat) = fc31_20 K1 q k (71 + 2 * f.toNat) (jc_p K (q + 2) k) := by
      unfold fc31 jo_ln
      rw [if_neg (by omega), if_neg (by omega), if_pos qa1, if_pos ⟨by omega, by omega⟩, pp]
    have fin : ∀ Kc, jk_f K1 Kc (71 + 2 * f.toNat) → ∀ l3, fc31_59 Kc q k (71 + 2 * f.toNat) l3 = some (jc_ui Kc (71 + 2 * f.toNat) 1 r, 0) := by
      intro Kc fk l3
      unfold fc31_59
      rw [if_pos (fk.rc qa1), if_pos (fk.pg hk1c.1), fk.2 q (by omega) (by omega), i1, qb0]
    rw [e31]
    unfold fc31_20
    rw [if_pos qa1, i1, qb1]
    by_cases ck : G 98 r ≤ 1
    · obtain ⟨z0, zx, zv, zk⟩ := hch ck
      obtain ⟨pl, Kc, m1, m2, m3, m4, m5⟩ := jk_fc43 v4 zk hk1c zx zv
      have epl := jp_pl_u m1 (jh_pl_sp (G 101 r) v4.1)
      subst epl
      have e43 : fc43 K1 (71 + 2 * f.toNat) (jc_i K1 q 3) (jc_i K1 q 5) = some (Kc, 0) := by
        rw [i1, i1, qb3, qc ck]
        exact m2
      rw [hjr, if_pos ck]
      refine ⟨Kc, ?_, m3, m4⟩
      by_cases c0 : G 98 r = 0
      · rw [if_pos c0, if_pos hk1c.1, e43, jo_bs]
        exact fin Kc m3 _
      · rw [if_neg c0, if_pos (by omega), if_pos hk1c.1, e43, jo_bs]
        exact fin Kc m3 _
    · have h5 := h5 (by omega)
      obtain ⟨ip, hi⟩ := qf h5 k hk0 hk1
      rw [hjr, if_neg ck] at hw ⊢
      have hi1 : jp_k K1 (jc_p K (q + 2) k) (jh_row G (54 + 3 * ((r : Int) - 1) + k)) := s1.k (by omega) (by omega) hi
      obtain ⟨Kc, m1, m2, m3, m4⟩ := jk_fc35 (p := 71 + 2 * f.toNat) hw ⟨by omega, by omega, by omega⟩ hk1c.1 hi1
      refine ⟨Kc, ?_, m2, m3⟩
      rw [if_neg (by omega), if_neg (by omega), if_neg (by omega), if_pos hk1c.1, m1, jo_bs]
      exact fin Kc m2 _
  have gg : ∃ Gc, fo173 G r k = fo173_133 Gc r k f ∧ jr_o G Gc f ∧ jp_r Gc f (jh G r p) := by
    have e173 : fo173 G r k = fo173_15 G r k f := by
      unfold fo173 jo_l
      rw [if_pos ⟨by omega, by omega⟩, hkp, efo]
    rw [e173]
    by_cases ck : G 98 r ≤ 1
    · obtain ⟨z0, zx, zv, zk⟩ := hch ck
      rw [hjr, if_pos ck]
      exact jr_chg hf ⟨by omega, by omega⟩ v4 zk v5 (by omega) zx zv
    · have h5 := h5 (by omega)
      rw [hjr, if_neg ck] at hw ⊢
      have hrow := jh_row_r (G := G) (r := 54 + 3 * ((r : Int) - 1) + k) hw.1.2
      obtain ⟨o1, o2, _⟩ := jr_copies (b := f) hw.1.2 hrow
      refine ⟨_, ?_, o1, o2⟩
      unfold fo173_15
      rw [if_pos ⟨by omega, by omega⟩, if_neg (by omega), if_neg (by omega), if_pos ⟨by omega, by omega⟩, if_pos ⟨by omega, by omega⟩]
  obtain ⟨Kc, k1, k2, k3⟩ := cc
  obtain ⟨Gc, g1, g2, g3⟩ := gg
  have gc97 : ∀ i, Gc 97 i = G 97 i := fun i => g2.n (by decide) i
  have e133 : fo173_133 Gc r k f = some (jg_u (jg_u Gc 93 (67 * f + 1) r) 97 f (if G 97 f = 0 then (r : Int) else G 97 f), 0) := by
    unfold fo173_133
    rw [if_pos ⟨by omega, by omega⟩, if_pos hf, gc97]
    by_cases c : G 97 f = 0
    · rw [if_pos c, if_pos c]
    · rw [if_neg c, if_neg c]
  have f2 : jk_f Kc (jc_ui Kc (71 + 2 * f.toNat) 1 r) (71 + 2 * f.toNat) := jk_f.u0
  have sK : jk_s (fun n => n = 70 ∨ n = 71 + 2 * f.toNat ∨ n = 71 + 2 * f.toNat + 1) K (jc_ui Kc (71 + 2 * f.toNat) 1 r) := (s1.mono (fun n e => Or.inl e)).trans (jk_s.f (k2.trans f2) (Or.inr (Or.inl rfl)) (Or.inr (Or.inr rfl)))
  have i70 : ∀ i, jc_i (jc_ui Kc (71 + 2 * f.toNat) 1 r) 70 i = jc_i K1 70 i := fun i => by
    rw [jc_uN (by omega), k2.2 70 (by omega) (by omega)]
  have gu93 : ∀ j, j ≠ 67 * f + 1 → jg_u (jg_u Gc 93 (67 * f + 1) r) 97 f (if G 97 f = 0 then (r : Int) else G 97 f) 93 j = Gc 93 j := fun j hj => (jg_uN (by decide)).trans (jg_uI hj)
  obtain ⟨w1, w2, w3⟩ := jN_rep (K' := jc_ui Kc (71 + 2 * f.toNat) 1 r) (G' := jg_u (jg_u Gc 93 (67 * f + 1) r) 97 f (if G 97 f = 0 then (r : Int) else G 97 f)) hh hf hp hp0 hr hv (by rw [hkk]; omega) hno hw sK ⟨by rw [i70, s70, jg_uH], fun i hi => by rw [i70]; exact s70' i hi⟩ ⟨f2.pg k3.1, (jc_uI (by decide)).trans k3.2.1, (jc_uI (by decide)).trans k3.2.2.1, fun i i0 i1 => (jc_uN (by omega)).trans (k3.2.2.2 i i0 i1)⟩ jc_uH (fun n j hn h97 => by
      rw [show jg_u (jg_u Gc 93 (67 * f + 1) r) 97 f (if G 97 f = 0 then (r : Int) else G 97 f) n j = jg_u Gc 93 (67 * f + 1) r n j by
        rcases h97 with h | h
        · exact jg_uN h
        · by_cases e : n = 97
          · rw [e]; exact jg_uI h
          · exact jg_uN e]
      by_cases e : n = 93
      · rw [e, jg_uI (by omega)]
        exact g2 93 j (by omega)
      · rw [jg_uN e]
        exact g2.n e j) ⟨(gu93 _ (by omega)).trans g3.1, (gu93 _ (by omega)).trans g3.2.1, fun i i0 i1 => ⟨(gu93 _ (by omega)).trans (g3.2.2 i i0 i1).1, (gu93 _ (by omega)).trans (g3.2.2 i i0 i1).2⟩⟩ (by rw [jg_uN (by decide), jg_uH]) jg_uH
  refine ⟨K1, _, _, r1, s1, k1, g1.trans e133, w1, sK.mono (fun n e => by unfold jS_n; omega), w2, w3, fun i => ?_, fun i => ?_⟩
  · rw [jg_uN (by decide), jg_uN (by decide)]; exact g2.n (by decide) i
  · rw [jg_uN (by decide), jg_uN (by decide)]; exact g2.n (by decide) i
