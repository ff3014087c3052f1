/-! SPLIT of another page, class and reference -/
theorem ja_sp {K : jc_K} {G : jg_G} {N x : Nat} {p up a k : Int} {c cu : jp_C} (h : jY K G N x) (hN : N < 1100) (hp : 0 ≤ p ∧ p < 24) (hu : 0 ≤ up ∧ up < 24) (hne : p ≠ up) (hc : jh G N p = c) (hcu : jh G N up = cu) (hn : 4 ≤ c.2.1) (hk : c.1 ≠ 0) (h2 : cu.1 = 2) (hu4 : cu.2.1 < 4) (hkk : 0 ≤ k ∧ k < cu.2.1) (hkp : cu.2.2.2 k = p) (huq : ∀ i, 0 ≤ i → i < cu.2.1 → cu.2.2.2 i = p → i = k) (ha : jfr (fun p => (jh G N p).1) 1 a) (ha24 : a < 24) (h0 : (jh G N 0).1 ≠ 0) (hl : cu.2.2.1 k ≤ c.2.2.1 ((c.2.1 + 1) / 2)) (hr : k + 1 < cu.2.1 → c.2.2.1 ((c.2.1 + 1) / 2) ≤ cu.2.2.1 (k + 1)) (hh : ∀ k, 0 ≤ k → k < 32 → -1 ≤ G 111 k ∧ G 111 k < 4) (hP : jP G + 3 < 2147483647) : ∃ K1 q K2 K' G' b', fc20 K 5 (-1) = some (K1, q) ∧ q ≠ 0 ∧ fc79 K1 q (jq G p) p up = some (K2, 0) ∧ fc80 K2 (jc_i K2 63 4) = some (K', b') ∧ fo180 G p up = some (G', 0) ∧ jSA K K' G G' N x 5 b' (fun y => y = up ∨ y = p ∨ y = a) (fun z => if z = up then jp_ins cu (k + 1) (c.2.2.1 ((c.2.1 + 1) / 2)) a else if z = p then jp_part c 0 ((c.2.1 + 1) / 2) else jp_part c ((c.2.1 + 1) / 2) c.2.1) := by
  have ha1 : 1 ≤ a := ha.1.1
  have ka : (jh G N a).1 = 0 := ha.2.1 ha24
  have hap : a ≠ p ∧ a ≠ up := by
    refine ⟨fun e => ?_, fun e => ?_⟩
    · rw [e, hc] at ka; exact hk ka
    · rw [e, hcu] at ka; omega
  have rows := h.rows
  have ha' : jfr (fun p => (jh G N p).1) 0 a := ha.up h0
  obtain ⟨v, hv, fa⟩ := jr_fr176 rows (l := 0) (by decide) (by decide)
  rw [hv.u ha'] at fa
  obtain ⟨K1, q, G1, a1, a2, a3, a4, a5, a6, a7, a8, a9⟩ := ja_acts (w := 5) (a := p) (b := a) (c := up) h hN hp (by omega) (by omega) (by omega) ⟨by omega, by omega⟩
  have h12 : G 92 12 = N := h.1.2.1.2.2.1
  have hl4 : jl_a G G1 N := fun m j e => (a8.l m j e).trans (fr_no_o (by omega) (by omega) (by omega))
  have hgl : ∀ z, jh G1 N z = jh G N z := fun z => hl4.h z N (Int.le_refl _)
  have q120 := a3.2.2.2.2.1.2.1.1
  have e95 : ∀ j, G1 95 j = G 95 j := fun j => (a8 95 j (by omega) (by omega) (by omega)).trans (fr_no_o (by omega) (by omega) (by omega))
  have ejq : jq G1 p = jq G p := by unfold jq fr_fo; simp only [e95]
  obtain ⟨K2, c1, c2, c3, c4, c5⟩ := jk_79 a3 hgl a4 hp hu hne hc hcu hn hk h2 hu4 hkk hkp huq ha ha24 hap
  rw [ejq] at c1
  rw [if_neg (by omega)] at a5
  have b5 : jr_I G1 ((N : Int) + 1) 3 (fun p => jh G N p) (fun y => y = up ∨ y = p ∨ y = a) := a5.congr (fun y => by omega) (fun _ _ => rfl)
  have wz : ∀ z, z = up ∨ z = p ∨ z = a → jp_w (jh G N z) := fun z hz => by
    have := (a3.seen (p := z) (by omega)).2.2.2.2.2
    rw [hgl] at this
    exact this
  have hw := wz p (Or.inr (Or.inl rfl))
  have hwu := wz up (Or.inl rfl)
  rw [hc] at hw
  rw [hcu] at hwu
  have hbb := hw.1
  obtain ⟨_, _, _, v4, v5, _⟩ := a3.seen hp
  rw [hgl, hc] at v5
  have hhalf : 2 ≤ (c.2.1 + 1) / 2 ∧ (c.2.1 + 1) / 2 < c.2.1 := by omega
  have hcell := jp_cell hw (i := (c.2.1 + 1) / 2) (by omega) hhalf.2
  unfold fo180
  rw [fa, jo_bs]
  dsimp only
  rw [a2, jo_bs]
  dsimp only
  rw [if_pos hp, jo_le]
  simp only [v5.2.1]
  rw [if_pos (by omega), if_pos (by omega), if_pos (by omega), if_pos (by omega), if_pos (by rw [b5.1]; decide), jo_le]
  generalize hH : (c.2.1 + 1) / 2 = H at *
  obtain ⟨k1, k1b, e1, _⟩ := b5.row (by decide) (y := p) (Or.inr (Or.inl rfl))
  generalize hx : fr_ro G1 p = x9 at *
  obtain ⟨G2, f2, o2, r2⟩ := jr_part (b := 54 + 3 * ((N : Int) + 1 - 1) + k1) (lo := 0) (hi := H) v5 ⟨v4.1, by omega⟩ ⟨by omega, by omega⟩ (by omega) (by decide) (by omega) (by omega) hbb.2
  obtain ⟨p1, p2, p3⟩ := b5.put (by decide) (by omega) k1b o2 (jsp_1 hw ⟨by omega, by omega⟩ r2) (fun z hz => (wz z hz).1.2)
  have v52 : jp_r G2 x9 c := o2.r (by omega) hbb.2 v5
  rw [e1, f2, jo_bs]
  dsimp only
  rw [if_pos (by rw [p1.1]; decide), jo_le]
  obtain ⟨k2, k2b, e2, _⟩ := p1.row (by decide) (y := a) (Or.inr (Or.inr rfl))
  obtain ⟨G3, f3, o3, r3⟩ := jr_part (b := 54 + 3 * ((N : Int) + 1 - 1) + k2) (lo := H) (hi := c.2.1) v52 ⟨v4.1, by omega⟩ ⟨by omega, by omega⟩ (by omega) (by omega) (by omega) (by omega) hbb.2
  have v53 : jp_r G3 x9 c := o3.r (by omega) hbb.2 v52
  have vH := v53.2.2 H (by omega) hhalf.2
  rw [e2, f3, jo_bs]
  dsimp only
  rw [if_pos (by omega), if_pos (by omega)]
  simp only [v53.1]
  obtain ⟨G4, d1, d2, d3⟩ := jsp_2 hw ⟨by omega, hhalf.2⟩ r3 vH.2
  have o4 := o3.trans d1
  have pw : ∀ z, z = up ∨ z = p ∨ z = a → (if z = p then jp_part c 0 H else jh G N z).2.1 ≤ 32 := fun z hz => by
    split
    · show H - 0 ≤ 32; omega
    · exact (wz z hz).1.2
  obtain ⟨s1, s2, s3⟩ := p1.put (by decide) (by omega) k2b o4 d3 pw
  obtain ⟨k3, k3b, e3, q3⟩ := s1.row (by decide) (y := up) (Or.inl rfl)
  have q3' : jp_r G4 (54 + 3 * ((N : Int) + 1 - 1) + k3) cu := by
    have : (fun z => if z = a then jp_part c H c.2.1 else if z = p then jp_part c 0 H else jh G N z) up = cu := by
      show (if up = a then jp_part c H c.2.1 else if up = p then jp_part c 0 H else jh G N up) = cu
      rw [if_neg (by omega), if_neg (by omega), hcu]
    rw [← this]; exact q3
  have em := jr_puts (k := k + 1) (x := c.2.2.1 H) (y := a) q3' (by omega) (by omega) (by omega)
  have e93 : ∀ n, n ≠ 93 → ∀ j, G3 n j = G2 n j := fun n hn j => o3.n hn j
  have eri : fr_ri G3 ((N : Int) + 1) a = 54 + 3 * ((N : Int) + 1 - 1) + k2 := by rw [fr_ri_e e93]; exact e2
  have e105 : G3 105 ((N : Int) + 1) = 3 := by rw [e93 105 (by decide)]; exact p1.1
  obtain ⟨t1, t2, t3⟩ := s1.put (by decide) (by omega) k3b em.1 em.2.1 (fun z hz => by
    show (if z = a then jp_part c H c.2.1 else if z = p then jp_part c 0 H else jh G N z).2.1 ≤ 32
    split
    · show c.2.1 - H ≤ 32; omega
    · exact pw z hz)
  have ecp := jr_cp q3' hwu.1.2 hkk.1 hkk.2 hkp huq
  generalize hG5 : fr_puts G4 (54 + 3 * ((N : Int) + 1 - 1) + k3) (k + 1) (c.2.2.1 H) a = G5 at em t1 t2 t3
  have hf : ∀ n, n ≠ 93 → ∀ j, G5 n j = G1 n j := fun n hn j => ((em.1.n hn j).trans (o4.n hn j)).trans (o2.n hn j)
  have wi : jp_w (jp_ins cu (k + 1) (c.2.2.1 H) a) := jp_ins_w hwu h2 hu4 (by omega) (by omega) hcell.1 ⟨ha1, ha24⟩ (fun z => by omega) (fun _ => by rw [show k + 1 - 1 = k by omega]; exact hl) hr
  have c2' := c2.s (jk_s.refl (S := fun _ => False)) (fun n e => e.elim) ((p2.trans s2).trans t2)
  obtain ⟨K', G', b', f1, ff, f3'⟩ := ja_fin (w := 5) h c2' c4 (t1.congr (c' := fun z => if z = up then jp_ins cu (k + 1) (c.2.2.1 H) a else if z = p then jp_part c 0 H else jp_part c H c.2.1) (fun _ => Iff.rfl) (fun z hz => by
    show (if z = up then jp_ins cu (k + 1) (c.2.2.1 H) a else if z = a then jp_part c H c.2.1 else if z = p then jp_part c 0 H else jh G N z) = (if z = up then jp_ins cu (k + 1) (c.2.2.1 H) a else if z = p then jp_part c 0 H else jp_part c H c.2.1)
    rcases hz with e | e | e
    · rw [if_pos e, if_pos e]
    · rw [if_neg (by omega), if_neg (by omega), if_pos e, if_neg (by omega), if_pos e]
    · rw [if_neg (by omega), if_pos e, if_neg (by omega), if_neg (by omega)])) (by decide) (by decide) (fun y hy => ⟨jp_e.refl _, by
    show jp_w (if y = up then jp_ins cu (k + 1) (c.2.2.1 H) a else if y = p then jp_part c 0 H else jp_part c H c.2.1)
    split
    · exact wi
    · split
      · exact jp_part_w hw hk (by decide) (by omega) (by omega)
      · exact jp_part_w hw hk (by omega) (by omega) (by omega)⟩) (by
    rw [c5 0 (by decide), c5 1 (by decide), c5 2 (by decide), c5 3 (by decide), c5 6 (by decide), c5 7 (by decide)]
    exact a6) (by
    rw [hf 98 (by decide), hf 99 (by decide), hf 100 (by decide), hf 101 (by decide), hf 104 (by decide)]
    exact a9) ((a7.mono (fun n e => by unfold jA_S at e; unfold jQ; omega)).trans (c3.1.mono (fun n e => by have := (a3.2.2.2.1.1.own_b ⟨by omega, by omega⟩ e).1; unfold jQ; omega))) (a8.trans (fun n j _ _ z => by rw [em.1 n j (by omega), o4 n j (by omega), o2 n j (by omega)])) hh hP
  refine ⟨K1, q, K2, K', G', b', a1, by omega, c1, f1, ?_, f3'⟩
  have r54 : 0 ≤ 54 + 3 * ((N : Int) + 1 - 1) + k2 ∧ 54 + 3 * ((N : Int) + 1 - 1) + k2 < 4554 := by omega
  have r543 : 0 ≤ 54 + 3 * ((N : Int) + 1 - 1) + k3 ∧ 54 + 3 * ((N : Int) + 1 - 1) + k3 < 4554 := by omega
  by_cases z : c.1 = 2
  · rw [if_pos z] at d2 ⊢
    rw [if_pos (by rw [e105]; decide), jo_le, eri, if_pos (by omega), if_pos (by omega), if_pos (by omega), ← d2, if_pos (by rw [s1.1]; decide), jo_le, jo_le, e3, if_pos r543, if_pos (by rw [q3'.2.1]; exact hwu.1), jo_le, ecp, if_pos r543, if_pos (by rw [q3'.2.1]; omega), vH.1, hG5, ff, jo_bs]
  · rw [if_neg z] at d2 ⊢
    subst d2
    rw [if_pos (by rw [e105]; decide), jo_le, jo_le, e3, if_pos r543, if_pos (by rw [q3'.2.1]; exact hwu.1), jo_le, ecp, if_pos r543, if_pos (by rw [q3'.2.1]; omega), vH.1, hG5, ff, jo_bs]
