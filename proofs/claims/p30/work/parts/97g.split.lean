/-! SPLIT, the class's side -/
theorem jk_78 {K : jc_K} {G G0 : jg_G} {N x q : Nat} {a b : Int} {c : jp_C} (h : jB K G N x q) (hg : ∀ z, jh G N z = jh G0 N z) (hI : jI K q 0 (fun z => jh G0 N z) (fun _ => False)) (hc : jh G0 N 0 = c) (hn : 4 ≤ c.2.1) (hk : c.1 ≠ 0) (ha : jfr (fun p => (jh G0 N p).1) 1 a) (hb : jfr (fun p => (jh G0 N p).1) (a + 1) b) (hb24 : b < 24) : ∃ K', fc78 K q (jq G 0) = some (K', 0) ∧ jB K' G N x q ∧ jk_b K K' N ∧ jI K' q 3 (fun z => if z = 0 then jp_rt a b (c.2.2.1 ((c.2.1 + 1) / 2)) else if z = a then jp_part c 0 ((c.2.1 + 1) / 2) else jp_part c ((c.2.1 + 1) / 2) c.2.1) (fun y => y = 0 ∨ y = a ∨ y = b) ∧ ∀ i, i ≠ 8 → jc_i K' q i = jc_i K q i := by
  have q120 := h.2.2.2.2.1.2.1.1
  have z0 : (0 : Int) ≤ 0 ∧ (0 : Int) < 24 := by decide
  have hab : 1 ≤ a ∧ a < b := ⟨ha.1.1, by have := hb.1.1; omega⟩
  have jqb : jq G 0 < 91 := jq_lt z0 ⟨(fr_fo_r G 0).1, (fr_fo_r G 0).2.1⟩
  have old : ∀ K', jB K' G N x q → jp_k K' (jq G 0) c ∧ jp_w c := fun K' h' => by
    obtain ⟨_, _, v3, _, _, v6⟩ := h'.seen z0
    rw [hg, hc] at v3 v6
    exact ⟨v3, v6⟩
  obtain ⟨o1, hw⟩ := old K h
  have hbb := hw.1
  have hhalf : 2 ≤ (c.2.1 + 1) / 2 ∧ (c.2.1 + 1) / 2 < c.2.1 := by omega
  have hkey := (jp_cell hw (i := (c.2.1 + 1) / 2) (by omega) hhalf.2).1
  have kinds : ∀ p, 0 ≤ p → p < 24 → fc4 K p = some (K, (jh G0 N p).1) := fun p p0 p1 => by rw [h.kinds p p0 p1, hg]
  obtain ⟨a', ha', fa⟩ := jc_fr75 kinds (l := 0) (by decide) (by decide)
  obtain ⟨b', hb', fb⟩ := jc_fr75 kinds (l := a) (by omega) (by omega)
  have ea : a' = a := ha'.u ha
  have eb : b' = b := hb'.u hb
  rw [ea, if_neg (by omega)] at fa
  rw [eb, if_neg (by omega)] at fb
  unfold fc78
  rw [if_pos o1.1, o1.2.2.1, if_pos (by omega), if_pos (by omega), fa, jo_bs]
  dsimp only
  rw [fb, jo_bs]
  dsimp only
  rw [if_pos h.2.2.2.2.1.2]
  generalize hH : (c.2.1 + 1) / 2 = H at *
  -- the root's image
  obtain ⟨K1, a1, k1, e1, b1, g1, i1, ⟨⟨k10, k11⟩, n1, p1⟩, f1⟩ := hI.tell (num := 0) h (by decide) (fun z => z)
  rw [e1, jo_bs]
  dsimp only
  have s1 := i1.2.1 k1 k10 k11
  rw [p1, n1] at s1
  obtain ⟨K2, e2, o2, c2, _⟩ := jk_fc34 (K := K1) 2 s1.2.1.1
  obtain ⟨b2, g2, i2, ⟨n2, p2⟩, f2⟩ := i1.put b1 (by decide) (k := k1) ⟨k10, k11⟩ n1 p1 o2 c2
  rw [if_pos s1.2.1.1, e2, jo_bs]
  dsimp only
  rw [if_pos c2.1, if_pos (by omega)]
  obtain ⟨w1, w2⟩ := jp_rt_w (a := a) (b := b) (key := c.2.2.1 H) (by omega) (by omega) hkey
  obtain ⟨K3, e3, o3, c3, _⟩ := jk_fc45 (k := 0) (x := 0) (y := a) (v := 100 * 0 + a) jp_2_w c2 (by decide) (by decide) (by decide) rfl
  obtain ⟨b3, g3, i3, ⟨n3, p3⟩, f3⟩ := i2.put b2 (by decide) (k := k1) ⟨k10, k11⟩ n2 p2 o3 c3
  rw [e3, jo_bs]
  dsimp only
  rw [if_pos (old K3 b3).1.1, jk_fc38 hw (old K3 b3).1 (by omega) hhalf.2, jo_bs]
  dsimp only
  rw [if_pos c3.1, if_pos (by omega)]
  obtain ⟨K4, e4, o4, c4, _⟩ := jk_fc45 (k := 1) (x := c.2.2.1 H) (y := b) (v := 100 * c.2.2.1 H + b) w1 c3 (by decide) (show (1 : Int) ≤ 0 + 1 by decide) (show (0 : Int) + 1 < 32 by decide) rfl
  obtain ⟨b4, g4, i4, ⟨n4, p4⟩, f4⟩ := i3.put b3 (by decide) (k := k1) ⟨k10, k11⟩ n3 p3 o4 c4
  rw [e4, jo_bs]
  dsimp only
  rw [if_pos b4.2.2.2.2.1.2]
  -- the lower page's
  obtain ⟨K5, a5, k5, e5, b5, g5, i5, ⟨⟨k50, k51⟩, n5, p5⟩, f5⟩ := i4.tell (num := a) b4 (by decide) (fun z => by rcases z with z | z; exact z; omega)
  rw [e5, jo_bs]
  dsimp only
  have s5 := i5.2.1 k5 k50 k51
  rw [p5, n5] at s5
  obtain ⟨K6, e6, o6, c6, _⟩ := jk_fc47 (lo := 0) (hi := H) hw (show jk_a a5 (jq G 0) by have := s5.1; unfold jk_a; omega) s5.2.1.1 (old K5 b5).1 (by decide) (by omega) (by omega)
  obtain ⟨b6, g6, i6, ⟨n6, p6⟩, f6⟩ := i5.put b5 (by decide) (k := k5) ⟨k50, k51⟩ n5 p5 o6 c6
  rw [if_pos s5.2.1.1, e6, jo_bs]
  dsimp only
  rw [if_pos b6.2.2.2.2.1.2]
  -- the upper page's
  obtain ⟨K7, a7, k7, e7, b7, g7, i7, ⟨⟨k70, k71⟩, n7, p7⟩, f7⟩ := i6.tell (num := b) b6 (by decide) (fun z => by rcases z with (z | z) | z; exact z; omega; omega)
  rw [e7, jo_bs]
  dsimp only
  have s7 := i7.2.1 k7 k70 k71
  rw [p7, n7] at s7
  obtain ⟨K8, e8, o8, c8, _⟩ := jk_fc47 (lo := H) (hi := c.2.1) hw (show jk_a a7 (jq G 0) by have := s7.1; unfold jk_a; omega) s7.2.1.1 (old K7 b7).1 (by omega) (by omega) (by omega)
  obtain ⟨b8, g8, i8, ⟨n8, p8⟩, f8⟩ := i7.put b7 (by decide) (k := k7) ⟨k70, k71⟩ n7 p7 o8 c8
  rw [if_pos (old K7 b7).1.1, if_pos s7.2.1.1, (old K7 b7).1.2.2.1, e8, jo_bs]
  refine ⟨K8, rfl, b8, (((((((g1.trans g2).trans g3).trans g4).trans g5).trans g6).trans g7).trans g8), ?_, fun i hi => by rw [f8, f7 i hi, f6, f5 i hi, f4, f3, f2, f1 i hi]⟩
  refine i8.congr (fun y => ?_) (fun y hy => ?_)
  · constructor
    · rintro (((z | z) | z) | z)
      · exact z.elim
      · exact Or.inl z
      · exact Or.inr (Or.inl z)
      · exact Or.inr (Or.inr z)
    · rintro (z | z | z)
      · exact Or.inl (Or.inl (Or.inr z))
      · exact Or.inl (Or.inr z)
      · exact Or.inr z
  · have hy' : y = 0 ∨ y = a ∨ y = b := by
      rcases hy with ((z | z) | z) | z
      · exact z.elim
      · exact Or.inl z
      · exact Or.inr (Or.inl z)
      · exact Or.inr (Or.inr z)
    rcases hy' with e | e | e
    · have x1 : ¬ y = a := by omega
      have x2 : ¬ y = b := by omega
      simp only [if_neg x1, if_neg x2, if_pos e]
      rfl
    · have x1 : ¬ y = 0 := by omega
      have x2 : ¬ y = b := by omega
      simp only [if_neg x1, if_neg x2, if_pos e]
    · have x1 : ¬ y = 0 := by omega
      have x2 : ¬ y = a := by omega
      simp only [if_neg x1, if_neg x2, if_pos e]
theorem jk_79 {K : jc_K} {G G0 : jg_G} {N x q : Nat} {p up a k : Int} {c cu : jp_C} (h : jB K G N x q) (hg : ∀ z, jh G N z = jh G0 N z) (hI : jI K q 0 (fun z => jh G0 N z) (fun _ => False)) (hp : 0 ≤ p ∧ p < 24) (hu : 0 ≤ up ∧ up < 24) (hne : p ≠ up) (hc : jh G0 N p = c) (hcu : jh G0 N up = cu) (hn : 4 ≤ c.2.1) (hk : c.1 ≠ 0) (h2 : cu.1 = 2) (hu4 : cu.2.1 < 4) (hkk : 0 ≤ k ∧ k < cu.2.1) (hkp : cu.2.2.2 k = p) (huq : ∀ i, 0 ≤ i → i < cu.2.1 → cu.2.2.2 i = p → i = k) (ha : jfr (fun p => (jh G0 N p).1) 1 a) (ha24 : a < 24) (hap : a ≠ p ∧ a ≠ up) : ∃ K', fc79 K q (jq G p) p up = some (K', 0) ∧ jB K' G N x q ∧ jk_b K K' N ∧ jI K' q 3 (fun z => if z = up then jp_ins cu (k + 1) (c.2.2.1 ((c.2.1 + 1) / 2)) a else if z = p then jp_part c 0 ((c.2.1 + 1) / 2) else jp_part c ((c.2.1 + 1) / 2) c.2.1) (fun y => y = up ∨ y = p ∨ y = a) ∧ ∀ i, i ≠ 8 → jc_i K' q i = jc_i K q i := by
  have q120 := h.2.2.2.2.1.2.1.1
  have ha1 := ha.1.1
  have jqb : jq G p < 91 := jq_lt hp ⟨(fr_fo_r G p).1, (fr_fo_r G p).2.1⟩
  have jqu : jq G up < 91 := jq_lt hu ⟨(fr_fo_r G up).1, (fr_fo_r G up).2.1⟩
  have old : ∀ K', jB K' G N x q → jp_k K' (jq G p) c ∧ jp_w c := fun K' h' => by
    obtain ⟨_, _, v3, _, _, v6⟩ := h'.seen hp
    rw [hg, hc] at v3 v6
    exact ⟨v3, v6⟩
  have oldu : ∀ K', jB K' G N x q → jp_k K' (jq G up) cu ∧ jp_w cu := fun K' h' => by
    obtain ⟨_, _, v3, _, _, v6⟩ := h'.seen hu
    rw [hg, hcu] at v3 v6
    exact ⟨v3, v6⟩
  obtain ⟨o1, hw⟩ := old K h
  have hwu := (oldu K h).2
  have hbb := hw.1
  have hhalf : 2 ≤ (c.2.1 + 1) / 2 ∧ (c.2.1 + 1) / 2 < c.2.1 := by omega
  have hkey := (jp_cell hw (i := (c.2.1 + 1) / 2) (by omega) hhalf.2).1
  have kinds : ∀ p, 0 ≤ p → p < 24 → fc4 K p = some (K, (jh G0 N p).1) := fun p p0 p1 => by rw [h.kinds p p0 p1, hg]
  obtain ⟨a', ha', fa⟩ := jc_fr75 kinds (l := 0) (by decide) (by decide)
  have ea : a' = a := ha'.u ha
  rw [ea, if_neg (by omega)] at fa
  obtain ⟨vu1, vu2, _⟩ := h.seen hu
  unfold fc79
  rw [if_pos o1.1, o1.2.2.1, if_pos (by omega), if_pos (by omega), fa, jo_bs]
  dsimp only
  rw [vu1, jo_bs]
  dsimp only
  rw [if_neg (by omega), if_pos h.2.2.2.2.1.2]
  generalize hH : (c.2.1 + 1) / 2 = H at *
  -- the parent's image
  obtain ⟨K1, a1, k1, e1, b1, g1, i1, ⟨⟨k10, k11⟩, n1, p1⟩, f1⟩ := hI.tell (num := up) h (by decide) (fun z => z)
  rw [e1, jo_bs]
  dsimp only
  have s1 := i1.2.1 k1 k10 k11
  rw [p1, n1] at s1
  obtain ⟨K2, e2, o2, c2, _⟩ := jk_fc35 hwu (show jk_a a1 (jq G up) by have := s1.1; unfold jk_a; omega) s1.2.1.1 (oldu K1 b1).1
  obtain ⟨b2, g2, i2, ⟨n2, p2⟩, f2⟩ := i1.put b1 (by decide) (k := k1) ⟨k10, k11⟩ n1 p1 o2 c2
  rw [if_pos s1.2.1.1, e2, jo_bs]
  dsimp only
  have e41 : fc41 K2 (jq G up) p = some (K2, k) := by
    rcases jk_fc41 (x := p) hwu h2 (oldu K2 b2).1 with ⟨k', z1, z2, z3, z4⟩ | ⟨_, z⟩
    · rw [z1, huq k' z2 z3 z4]
    · exact absurd hkp (z k hkk.1 hkk.2)
  rw [if_pos (oldu K2 b2).1.1, e41, jo_bs]
  dsimp only
  rw [if_pos (old K2 b2).1.1, jk_fc38 hw (old K2 b2).1 (by omega) hhalf.2, jo_bs]
  dsimp only
  rw [if_pos c2.1, if_pos (by omega), if_pos (by omega)]
  obtain ⟨K4, e4, o4, c4, _⟩ := jk_fc45 (k := k + 1) (x := c.2.2.1 H) (y := a) (v := 100 * c.2.2.1 H + a) hwu c2 (by omega) (by omega) (by omega) (by rw [jp_inner h2])
  obtain ⟨b4, g4, i4, ⟨n4, p4⟩, f4⟩ := i2.put b2 (by decide) (k := k1) ⟨k10, k11⟩ n2 p2 o4 c4
  rw [e4, jo_bs]
  dsimp only
  rw [if_pos b4.2.2.2.2.1.2]
  -- what stays
  obtain ⟨K5, a5, k5, e5, b5, g5, i5, ⟨⟨k50, k51⟩, n5, p5⟩, f5⟩ := i4.tell (num := p) b4 (by decide) (fun z => by rcases z with z | z; exact z; omega)
  rw [e5, jo_bs]
  dsimp only
  have s5 := i5.2.1 k5 k50 k51
  rw [p5, n5] at s5
  obtain ⟨K6, e6, o6, c6, _⟩ := jk_fc47 (lo := 0) (hi := H) hw (show jk_a a5 (jq G p) by have := s5.1; unfold jk_a; omega) s5.2.1.1 (old K5 b5).1 (by decide) (by omega) (by omega)
  obtain ⟨b6, g6, i6, ⟨n6, p6⟩, f6⟩ := i5.put b5 (by decide) (k := k5) ⟨k50, k51⟩ n5 p5 o6 c6
  rw [if_pos s5.2.1.1, e6, jo_bs]
  dsimp only
  rw [if_pos b6.2.2.2.2.1.2]
  -- what comes to the fresh page
  obtain ⟨K7, a7, k7, e7, b7, g7, i7, ⟨⟨k70, k71⟩, n7, p7⟩, f7⟩ := i6.tell (num := a) b6 (by decide) (fun z => by rcases z with (z | z) | z; exact z; omega; omega)
  rw [e7, jo_bs]
  dsimp only
  have s7 := i7.2.1 k7 k70 k71
  rw [p7, n7] at s7
  obtain ⟨K8, e8, o8, c8, _⟩ := jk_fc47 (lo := H) (hi := c.2.1) hw (show jk_a a7 (jq G p) by have := s7.1; unfold jk_a; omega) s7.2.1.1 (old K7 b7).1 (by omega) (by omega) (by omega)
  obtain ⟨b8, g8, i8, ⟨n8, p8⟩, f8⟩ := i7.put b7 (by decide) (k := k7) ⟨k70, k71⟩ n7 p7 o8 c8
  rw [if_pos (old K7 b7).1.1, if_pos s7.2.1.1, (old K7 b7).1.2.2.1, e8, jo_bs]
  refine ⟨K8, rfl, b8, ((((((g1.trans g2).trans g4).trans g5).trans g6).trans g7).trans g8), ?_, fun i hi => by rw [f8, f7 i hi, f6, f5 i hi, f4, f2, f1 i hi]⟩
  refine i8.congr (fun y => ?_) (fun y hy => ?_)
  · constructor
    · rintro (((z | z) | z) | z)
      · exact z.elim
      · exact Or.inl z
      · exact Or.inr (Or.inl z)
      · exact Or.inr (Or.inr z)
    · rintro (z | z | z)
      · exact Or.inl (Or.inl (Or.inr z))
      · exact Or.inl (Or.inr z)
      · exact Or.inr z
  · have hy' : y = up ∨ y = p ∨ y = a := by
      rcases hy with ((z | z) | z) | z
      · exact z.elim
      · exact Or.inl z
      · exact Or.inr (Or.inl z)
      · exact Or.inr (Or.inr z)
    rcases hy' with e | e | e
    · have x1 : ¬ y = p := by omega
      have x2 : ¬ y = a := by omega
      simp only [if_neg x1, if_neg x2, if_pos e]
    · have x1 : ¬ y = up := by omega
      have x2 : ¬ y = a := by omega
      simp only [if_neg x1, if_neg x2, if_pos e]
    · have x1 : ¬ y = up := by omega
      have x2 : ¬ y = p := by omega
      simp only [if_neg x1, if_neg x2, if_pos e]
