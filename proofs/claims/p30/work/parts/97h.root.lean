/-! SPLIT of the root, class and reference -/
theorem fr_ri_e {G G' : jg_G} {r y : Int} (h : ∀ n, n ≠ 93 → ∀ j, G' n j = G n j) : fr_ri G' r y = fr_ri G r y := by
  unfold fr_ri
  rw [h 105 (by decide), h 106 (by decide), h 106 (by decide)]
theorem jrt {G : jg_G} {x a b bt : Int} : jr_o G (jg_u (jg_u (jg_u (jg_u (jg_u (fr_empties G x 2) 93 (67 * x + 3 + 2 * 0) 0) 93 (67 * x + 4 + 2 * 0) a) 93 (67 * x + 3 + 2 * 1) bt) 93 (67 * x + 4 + 2 * 1) b) 93 (67 * x + 2) 2) x ∧ jp_r (jg_u (jg_u (jg_u (jg_u (jg_u (fr_empties G x 2) 93 (67 * x + 3 + 2 * 0) 0) 93 (67 * x + 4 + 2 * 0) a) 93 (67 * x + 3 + 2 * 1) bt) 93 (67 * x + 4 + 2 * 1) b) 93 (67 * x + 2) 2) x (jp_rt a b bt) := by
  obtain ⟨e1, e2⟩ := jr_empties (G := G) (a := x) (k := 2)
  refine ⟨fun n j hn => ?_, ?_, ?_, fun i i0 i1 => ?_⟩
  · show (if n = 93 ∧ j = _ then _ else if n = 93 ∧ j = _ then _ else if n = 93 ∧ j = _ then _ else if n = 93 ∧ j = _ then _ else if n = 93 ∧ j = _ then _ else _) = _
    rw [if_neg (by omega), if_neg (by omega), if_neg (by omega), if_neg (by omega), if_neg (by omega)]
    exact e1 n j hn
  · rw [jg_uI (by omega), jg_uI (by omega), jg_uI (by omega), jg_uI (by omega), jg_uI (by omega)]
    exact e2.1
  · rw [jg_uH]
    rfl
  · have i1' : i < 0 + 1 + 1 := i1
    rcases (show i = 0 ∨ i = 1 by omega) with e | e <;> subst e
    · refine ⟨?_, ?_⟩
      · rw [jg_uI (by omega), jg_uI (by omega), jg_uI (by omega), jg_uI (by omega), jg_uH]
        rfl
      · rw [jg_uI (by omega), jg_uI (by omega), jg_uI (by omega), jg_uH]
        rfl
    · refine ⟨?_, ?_⟩
      · rw [jg_uI (by omega), jg_uI (by omega), jg_uH]
        rfl
      · rw [jg_uI (by omega), jg_uH]
        rfl
theorem jsp_1 {G : jg_G} {r H : Int} {c : jp_C} (hw : jp_w c) (hH : 0 ≤ H ∧ H ≤ c.2.1) (h : jp_r G r (c.1, H - 0, (fun i => c.2.2.1 (i + 0)), fun i => c.2.2.2 (i + 0))) : jp_r G r (jp_part c 0 H) := by
  refine h.e ⟨rfl, rfl, fun i i0 i1 => ⟨?_, rfl⟩⟩
  show c.2.2.1 (i + 0) = if c.1 = 2 ∧ i = 0 then 0 else c.2.2.1 (i + 0)
  have i1' : i < H - 0 := i1
  by_cases e : c.1 = 2 ∧ i = 0
  · rw [if_pos e, e.2]
    obtain ⟨_, w⟩ := id hw
    exact ((w.resolve_left (fun z => by omega)).resolve_left (fun z => by omega)).2.2.1 (by omega)
  · rw [if_neg e]
theorem jsp_2 {G : jg_G} {r H vy : Int} {c : jp_C} (hw : jp_w c) (hH : 0 ≤ H ∧ H < c.2.1) (h : jp_r G r (c.1, c.2.1 - H, (fun i => c.2.2.1 (i + H)), fun i => c.2.2.2 (i + H))) (hv : vy = c.2.2.2 H) : ∃ G', jr_o G G' r ∧ (if c.1 = 2 then G' = jg_u (jg_u G 93 (67 * r + 3 + 2 * 0) 0) 93 (67 * r + 4 + 2 * 0) vy else G' = G) ∧ jp_r G' r (jp_part c H c.2.1) := by
  have hb := hw.1
  by_cases e : c.1 = 2
  · simp only [if_pos e]
    obtain ⟨l1, l2, _⟩ := jr_lays (k := 0) (x := 0) (y := vy) h (by decide) (by show 0 < c.2.1 - H; omega) (by show c.2.1 - H ≤ 32; omega)
    refine ⟨_, l1, rfl, l2.e ⟨rfl, rfl, fun i i0 i1 => ⟨?_, ?_⟩⟩⟩
    · show (if i = 0 then 0 else c.2.2.1 (i + H)) = (if c.1 = 2 ∧ i = 0 then 0 else c.2.2.1 (i + H))
      by_cases z : i = 0
      · rw [if_pos z, if_pos ⟨e, z⟩]
      · rw [if_neg z, if_neg (fun y => z y.2)]
    · show (if i = 0 then vy else c.2.2.2 (i + H)) = c.2.2.2 (i + H)
      by_cases z : i = 0
      · rw [if_pos z, z, hv, show (0 : Int) + H = H by omega]
      · rw [if_neg z]
  · simp only [if_neg e]
    refine ⟨_, jr_o.refl _ _, rfl, h.e ⟨rfl, rfl, fun i i0 i1 => ⟨?_, rfl⟩⟩⟩
    show c.2.2.1 (i + H) = (if c.1 = 2 ∧ i = 0 then 0 else c.2.2.1 (i + H))
    rw [if_neg (fun y => e y.1)]
theorem ja_sp0 {K : jc_K} {G : jg_G} {N x : Nat} {a b : Int} {c : jp_C} (h : jY K G N x) (hN : N < 1100) (hc : jh G N 0 = c) (hn : 4 ≤ c.2.1) (hk : c.1 ≠ 0) (ha : jfr (fun p => (jh G N p).1) 1 a) (hb : jfr (fun p => (jh G N p).1) (a + 1) b) (hb24 : b < 24) (hh : ∀ k, 0 ≤ k → k < 32 → -1 ≤ G 111 k ∧ G 111 k < 4) (hP : jP G + 3 < 2147483647) : ∃ K1 q G1 K2 K' G' b', fc20 K 5 (-1) = some (K1, q) ∧ q ≠ 0 ∧ (jq G1 0 = jq G 0) ∧ fc78 K1 q (jq G 0) = some (K2, 0) ∧ fc80 K2 (jc_i K2 63 4) = some (K', b') ∧ fo178 G = some (G', 0) ∧ jSA K K' G G' N x 5 b' (fun y => y = 0 ∨ y = a ∨ y = b) (fun z => if z = 0 then jp_rt a b (c.2.2.1 ((c.2.1 + 1) / 2)) else if z = a then jp_part c 0 ((c.2.1 + 1) / 2) else jp_part c ((c.2.1 + 1) / 2) c.2.1) := by
  have hab : 1 ≤ a ∧ a < b := ⟨ha.1.1, by have := hb.1.1; omega⟩
  have z0 : (0 : Int) ≤ 0 ∧ (0 : Int) < 24 := by decide
  have rows := h.rows
  have ha' : jfr (fun p => (jh G N p).1) 0 a := ha.up (by show (jh G N 0).1 ≠ 0; rw [hc]; exact hk)
  obtain ⟨v, hv, fa⟩ := jr_fr176 rows (l := 0) (by decide) (by decide)
  rw [hv.u ha'] at fa
  obtain ⟨v2, hv2, fb⟩ := jr_fr176 rows (l := a + 1) (by omega) (by omega)
  rw [hv2.u hb] at fb
  obtain ⟨K1, q, G1, a1, a2, a3, a4, a5, a6, a7, a8, a9⟩ := ja_acts (w := 5) (a := 0) (b := a) (c := b) h hN (by decide) (by omega) (by omega) (by omega) ⟨by omega, by omega⟩
  have h12 : G 92 12 = N := h.1.2.1.2.2.1
  have hl4 : jl_a G G1 N := fun m j e => (a8.l m j e).trans (fr_no_o (by omega) (by omega) (by omega))
  have hgl : ∀ z, jh G1 N z = jh G N z := fun z => hl4.h z N (Int.le_refl _)
  have q120 := a3.2.2.2.2.1.2.1.1
  have e95 : ∀ j, G1 95 j = G 95 j := fun j => (a8 95 j (by omega) (by omega) (by omega)).trans (fr_no_o (by omega) (by omega) (by omega))
  have ejq : jq G1 0 = jq G 0 := by unfold jq fr_fo; simp only [e95]
  obtain ⟨K2, c1, c2, c3, c4, c5⟩ := jk_78 a3 hgl a4 hc hn hk ha hb hb24
  rw [ejq] at c1
  rw [if_neg (by omega)] at a5
  have b5 : jr_I G1 ((N : Int) + 1) 3 (fun p => jh G N p) (fun y => y = 0 ∨ y = a ∨ y = b) := a5.congr (fun y => by omega) (fun _ _ => rfl)
  have wz : ∀ z, z = 0 ∨ z = a ∨ z = b → jp_w (jh G N z) := fun z hz => by
    have := (a3.seen (p := z) (by omega)).2.2.2.2.2
    rw [hgl] at this
    exact this
  have hw := wz 0 (Or.inl rfl)
  rw [hc] at hw
  have hbb := hw.1
  obtain ⟨_, _, _, v4, v5, _⟩ := a3.seen z0
  rw [hgl, hc] at v5
  have hhalf : 2 ≤ (c.2.1 + 1) / 2 ∧ (c.2.1 + 1) / 2 < c.2.1 := by omega
  have hcell := jp_cell hw (i := (c.2.1 + 1) / 2) (by omega) hhalf.2
  unfold fo178
  rw [fa, jo_bs]
  dsimp only
  rw [if_pos (by omega), fb, jo_bs]
  dsimp only
  rw [a2, jo_bs]
  dsimp only
  rw [if_pos z0, jo_le]
  simp only [v5.2.1]
  rw [if_pos (by omega), if_pos (by omega), if_pos (by omega), if_pos (by omega), if_pos (by rw [b5.1]; decide), jo_le]
  generalize hH : (c.2.1 + 1) / 2 = H at *
  obtain ⟨k1, k1b, e1, _⟩ := b5.row (by decide) (y := a) (Or.inr (Or.inl rfl))
  generalize hx : fr_ro G1 0 = x9 at *
  obtain ⟨G2, f2, o2, r2⟩ := jr_part (b := 54 + 3 * ((N : Int) + 1 - 1) + k1) (lo := 0) (hi := H) v5 ⟨v4.1, by omega⟩ ⟨by omega, by omega⟩ (by omega) (by decide) (by omega) (by omega) hbb.2
  obtain ⟨p1, p2, p3⟩ := b5.put (by decide) (by omega) k1b o2 (jsp_1 hw ⟨by omega, by omega⟩ r2) (fun z hz => (wz z hz).1.2)
  have v52 : jp_r G2 x9 c := o2.r (by omega) hbb.2 v5
  rw [e1, f2, jo_bs]
  dsimp only
  rw [if_pos (by rw [p1.1]; decide), jo_le]
  obtain ⟨k2, k2b, e2, _⟩ := p1.row (by decide) (y := b) (Or.inr (Or.inr rfl))
  obtain ⟨G3, f3, o3, r3⟩ := jr_part (b := 54 + 3 * ((N : Int) + 1 - 1) + k2) (lo := H) (hi := c.2.1) v52 ⟨v4.1, by omega⟩ ⟨by omega, by omega⟩ (by omega) (by omega) (by omega) (by omega) hbb.2
  have v53 : jp_r G3 x9 c := o3.r (by omega) hbb.2 v52
  have vH := v53.2.2 H (by omega) hhalf.2
  rw [e2, f3, jo_bs]
  dsimp only
  rw [if_pos (by omega), if_pos (by omega)]
  simp only [v53.1]
  obtain ⟨G4, d1, d2, d3⟩ := jsp_2 hw ⟨by omega, hhalf.2⟩ r3 vH.2
  have o4 := o3.trans d1
  obtain ⟨s1, s2, s3⟩ := p1.put (by decide) (by omega) k2b o4 d3 (fun z hz => by
    show (if z = a then jp_part c 0 H else jh G N z).2.1 ≤ 32
    split
    · show H - 0 ≤ 32; omega
    · exact (wz z hz).1.2)
  obtain ⟨k3, k3b, e3, _⟩ := s1.row (by decide) (y := 0) (Or.inl rfl)
  have em := jrt (G := G4) (x := 54 + 3 * ((N : Int) + 1 - 1) + k3) (a := a) (b := b) (bt := c.2.2.1 H)
  have e93 : ∀ n, n ≠ 93 → ∀ j, G3 n j = G2 n j := fun n hn j => o3.n hn j
  have eri : fr_ri G3 ((N : Int) + 1) b = 54 + 3 * ((N : Int) + 1 - 1) + k2 := by rw [fr_ri_e e93]; exact e2
  have e105 : G3 105 ((N : Int) + 1) = 3 := by rw [e93 105 (by decide)]; exact p1.1
  obtain ⟨t1, t2, t3⟩ := s1.put (by decide) (by omega) k3b em.1 em.2 (fun z hz => by
    show (if z = b then jp_part c H c.2.1 else if z = a then jp_part c 0 H else jh G N z).2.1 ≤ 32
    split
    · show c.2.1 - H ≤ 32; omega
    · split
      · show H - 0 ≤ 32; omega
      · exact (wz z hz).1.2)
  generalize hG5 : (jg_u (jg_u (jg_u (jg_u (jg_u (fr_empties G4 (54 + 3 * ((N : Int) + 1 - 1) + k3) 2) 93 (67 * (54 + 3 * ((N : Int) + 1 - 1) + k3) + 3 + 2 * 0) 0) 93 (67 * (54 + 3 * ((N : Int) + 1 - 1) + k3) + 4 + 2 * 0) a) 93 (67 * (54 + 3 * ((N : Int) + 1 - 1) + k3) + 3 + 2 * 1) (c.2.2.1 H)) 93 (67 * (54 + 3 * ((N : Int) + 1 - 1) + k3) + 4 + 2 * 1) b) 93 (67 * (54 + 3 * ((N : Int) + 1 - 1) + k3) + 2) 2) = G5 at em t1 t2 t3
  have hf : ∀ n, n ≠ 93 → ∀ j, G5 n j = G1 n j := fun n hn j => ((em.1.n hn j).trans (o4.n hn j)).trans (o2.n hn j)
  have wr : jp_w (jp_rt a b (c.2.2.1 H)) := (jp_rt_w (by omega) (by omega) hcell.1).2
  have c2' := c2.s (jk_s.refl (S := fun _ => False)) (fun n e => e.elim) ((p2.trans s2).trans t2)
  obtain ⟨K', G', b', f1, ff, f3'⟩ := ja_fin (w := 5) h c2' c4 (t1.congr (c' := fun z => if z = 0 then jp_rt a b (c.2.2.1 H) else if z = a then jp_part c 0 H else jp_part c H c.2.1) (fun _ => Iff.rfl) (fun z hz => by
    show (if z = 0 then jp_rt a b (c.2.2.1 H) else if z = b then jp_part c H c.2.1 else if z = a then jp_part c 0 H else jh G N z) = (if z = 0 then jp_rt a b (c.2.2.1 H) else if z = a then jp_part c 0 H else jp_part c H c.2.1)
    rcases hz with e | e | e
    · rw [if_pos e, if_pos e]
    · rw [if_neg (by omega), if_neg (by omega), if_pos e, if_neg (by omega), if_pos e]
    · rw [if_neg (by omega), if_pos e, if_neg (by omega), if_neg (by omega)])) (by decide) (by decide) (fun y hy => ⟨jp_e.refl _, by
    show jp_w (if y = 0 then jp_rt a b (c.2.2.1 H) else if y = a then jp_part c 0 H else jp_part c H c.2.1)
    split
    · exact wr
    · split
      · exact jp_part_w hw hk (by decide) (by omega) (by omega)
      · exact jp_part_w hw hk (by omega) (by omega) (by omega)⟩) (by
    rw [c5 0 (by decide), c5 1 (by decide), c5 2 (by decide), c5 3 (by decide), c5 6 (by decide), c5 7 (by decide)]
    exact a6) (by
    rw [hf 98 (by decide), hf 99 (by decide), hf 100 (by decide), hf 101 (by decide), hf 104 (by decide)]
    exact a9) ((a7.mono (fun n e => by unfold jA_S at e; unfold jQ; omega)).trans (c3.1.mono (fun n e => by have := (a3.2.2.2.1.1.own_b ⟨by omega, by omega⟩ e).1; unfold jQ; omega))) (a8.trans (fun n j _ _ z => by rw [em.1 n j (by omega), o4 n j (by omega), o2 n j (by omega)])) hh hP
  refine ⟨K1, q, G1, K2, K', G', b', a1, by omega, ejq, c1, f1, ?_, f3'⟩
  have r54 : 0 ≤ 54 + 3 * ((N : Int) + 1 - 1) + k2 ∧ 54 + 3 * ((N : Int) + 1 - 1) + k2 < 4554 := by omega
  have r543 : 0 ≤ 54 + 3 * ((N : Int) + 1 - 1) + k3 ∧ 54 + 3 * ((N : Int) + 1 - 1) + k3 < 4554 := by omega
  by_cases z : c.1 = 2
  · rw [if_pos z] at d2 ⊢
    rw [if_pos (by rw [e105]; decide), jo_le, eri, if_pos (by omega), if_pos (by omega), if_pos (by omega), ← d2, if_pos (by rw [s1.1]; decide), jo_le, e3, if_pos (by omega), if_pos (by omega), if_pos (by omega), if_pos (by omega), if_pos (by omega), if_pos (by omega), vH.1, hG5, ff, jo_bs]
  · rw [if_neg z] at d2 ⊢
    subst d2
    rw [if_pos (by rw [e105]; decide), jo_le, e3, if_pos (by omega), if_pos (by omega), if_pos (by omega), if_pos (by omega), if_pos (by omega), if_pos (by omega), vH.1, hG5, ff, jo_bs]
