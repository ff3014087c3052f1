/-! TAKE OVER, class and reference -/
theorem jk_85 {K : jc_K} {G G0 : jg_G} {N x q : Nat} {p : Int} (h : jB K G N x q) (hg : ∀ z, jh G N z = jh G0 N z) (hI : jI K q 0 (fun z => jh G0 N z) (fun _ => False)) (hp : 1 ≤ p ∧ p < 24) : ∃ K', fc85 K q p = some (K', 0) ∧ jB K' G N x q ∧ jk_b K K' N ∧ jI K' q 2 (fun z => if z = p then jp_0 else jh G0 N p) (fun y => y = 0 ∨ y = p) ∧ ∀ i, i ≠ 8 → jc_i K' q i = jc_i K q i := by
  have q120 := h.2.2.2.2.1.2.1.1
  have hp' : 0 ≤ p ∧ p < 24 := by omega
  have hw := (h.seen hp').2.2.2.2.2
  rw [hg] at hw
  have jqb : jq G p < 91 := jq_lt hp' ⟨(fr_fo_r G p).1, (fr_fo_r G p).2.1⟩
  obtain ⟨v1, v2, v3, _⟩ := h.seen hp'
  unfold fc85
  rw [v1, jo_bs]
  dsimp only
  rw [if_neg (by omega), if_pos h.2.2.2.2.1.2]
  obtain ⟨K1, a1, k1, e1, b1, g1, i1, ⟨⟨k10, k11⟩, n1, p1⟩, f1⟩ := hI.tell (num := 0) h (by decide) (fun z => z)
  rw [e1, jo_bs]
  dsimp only
  have s1 := i1.2.1 k1 k10 k11
  rw [p1, n1] at s1
  obtain ⟨_, _, v13, _⟩ := b1.seen hp'
  rw [hg] at v13
  have q2 : jk_a a1 (jq G p) := by have := s1.1; unfold jk_a; omega
  obtain ⟨K2, e2, o2, c2, _⟩ := jk_fc35 hw q2 s1.2.1.1 v13
  obtain ⟨b2, g2, i2, ⟨n2, p2⟩, f2⟩ := i1.put b1 (by decide) (k := k1) ⟨k10, k11⟩ n1 p1 o2 c2
  rw [if_pos s1.2.1.1, e2, jo_bs]
  dsimp only
  rw [if_pos b2.2.2.2.2.1.2]
  obtain ⟨K3, a3, k3, e3, b3, g3, i3, ⟨⟨k30, k31⟩, n3, p3⟩, f3⟩ := i2.tell (num := p) b2 (by decide) (fun z => by rcases z with z | z; exact z; omega)
  rw [e3, jo_bs]
  dsimp only
  have s3 := i3.2.1 k3 k30 k31
  rw [p3, n3] at s3
  obtain ⟨K4, e4, o4, c4, _⟩ := jk_fc34 (K := K3) 0 s3.2.1.1
  obtain ⟨b4, g4, i4, ⟨n4, p4⟩, f4⟩ := i3.put b3 (by decide) (k := k3) ⟨k30, k31⟩ n3 p3 o4 c4
  rw [if_pos s3.2.1.1, e4, jo_bs]
  refine ⟨K4, rfl, b4, (((g1.trans g2).trans g3).trans g4), ?_, fun i hi => by rw [f4, f3 i hi, f2, f1 i hi]⟩
  refine i4.congr (fun y => ?_) (fun y hy => ?_)
  · constructor
    · rintro ((z | z) | z)
      · exact z.elim
      · exact Or.inl z
      · exact Or.inr z
    · rintro (z | z)
      · exact Or.inl (Or.inr z)
      · exact Or.inr z
  · by_cases e : y = p
    · simp only [if_pos e]
      rfl
    · have ep : y = 0 := by
        rcases hy with (z | z) | z
        · exact z.elim
        · exact z
        · exact absurd z e
      simp only [if_neg e, if_pos ep]
theorem ja_to {K : jc_K} {G : jg_G} {N x : Nat} {p : Int} (h : jY K G N x) (hN : N < 1100) (hp : 1 ≤ p ∧ p < 24) (hh : ∀ k, 0 ≤ k → k < 32 → -1 ≤ G 111 k ∧ G 111 k < 4) (hP : jP G + 3 < 2147483647) (f : jg_G × Int → Option (jg_G × Int)) : ∃ K1 q K2 K' G' b, fc20 K 7 (-1) = some (K1, q) ∧ q ≠ 0 ∧ fc85 K1 q p = some (K2, 0) ∧ fc80 K2 (jc_i K2 63 4) = some (K', b) ∧ ((fo171 G 7 0 p (-1)).bind fun x19 => if 0 ≤ p ∧ p < 24 then jo_l (fr_ro (x19.1) p) fun x22 => if 1 ≤ (x19.2) ∧ (x19.2) < 1501 then if 0 ≤ (x19.1) 105 (x19.2) ∧ (x19.1) 105 (x19.2) ≤ 3 then jo_l (fr_ri (x19.1) (x19.2) (0 : Int)) fun x26 => if 0 ≤ x22 ∧ x22 < 4554 then if 0 ≤ x26 ∧ x26 < 4554 then if 0 ≤ (fr_copies (x19.1) x22 x26) 105 (x19.2) ∧ (fr_copies (x19.1) x22 x26) 105 (x19.2) ≤ 3 then jo_l (fr_ri (fr_copies (x19.1) x22 x26) (x19.2) p) fun x32 => if 0 ≤ x32 ∧ x32 < 4554 then (fo174 (fr_empties (fr_copies (x19.1) x22 x26) x32 (0 : Int)) (x19.2)).bind f else none else none else none else none else none else none else none) = f (G', 0) ∧ jSA K K' G G' N x 7 b (fun y => y = 0 ∨ y = p) (fun z => if z = p then jp_0 else jh G N p) := by
  have hp' : 0 ≤ p ∧ p < 24 := by omega
  obtain ⟨K1, q, G1, a1, a2, a3, a4, a5, a6, a7, a8, a9⟩ := ja_acts (w := 7) (a := 0) (b := p) (c := -1) h hN (by decide) hp' (by decide) (by omega) ⟨by omega, by omega⟩
  have h12 : G 92 12 = N := h.1.2.1.2.2.1
  have hl4 : jl_a G G1 N := fun m j e => (a8.l m j e).trans (fr_no_o (by omega) (by omega) (by omega))
  have hgl : ∀ z, jh G1 N z = jh G N z := fun z => hl4.h z N (Int.le_refl _)
  have q120 := a3.2.2.2.2.1.2.1.1
  obtain ⟨K2, c1, c2, c3, c4, c5⟩ := jk_85 a3 hgl a4 hp
  rw [if_pos rfl] at a5
  have wz : ∀ z, z = 0 ∨ z = p → jp_w (jh G N z) := fun z hz => by
    have := (a3.seen (p := z) (by omega)).2.2.2.2.2
    rw [hgl] at this
    exact this
  have hw := wz p (Or.inr rfl)
  have b5 : jr_I G1 ((N : Int) + 1) 2 (fun p => jh G N p) (fun y => y = 0 ∨ y = p) := a5.congr (fun y => by omega) (fun _ _ => rfl)
  obtain ⟨_, _, _, v4, v5, _⟩ := a3.seen hp'
  rw [hgl] at v5
  obtain ⟨k1, k1b, e1, r1⟩ := b5.row (by decide) (y := 0) (Or.inl rfl)
  obtain ⟨m1, m2, _⟩ := jr_copies (b := 54 + 3 * ((N : Int) + 1 - 1) + k1) hw.1.2 v5
  obtain ⟨p1, p2, p3⟩ := b5.put (by decide) (by omega) k1b m1 m2 (fun z hz => (wz z hz).1.2)
  rw [a2, jo_bs]
  dsimp only
  rw [if_pos hp', jo_le, if_pos (by omega), if_pos (by rw [b5.1]; decide), jo_le, e1, if_pos (by omega), if_pos (by omega)]
  generalize fr_copies G1 (fr_ro G1 p) (54 + 3 * ((N : Int) + 1 - 1) + k1) = G2 at m1 m2 p1 p2 p3 ⊢
  obtain ⟨k2, k2b, e2, r2⟩ := p1.row (by decide) (y := p) (Or.inr rfl)
  rw [if_pos (by rw [p1.1]; decide), jo_le, e2, if_pos (by omega)]
  have em := jr_empties (G := G2) (a := 54 + 3 * ((N : Int) + 1 - 1) + k2) (k := 0)
  generalize fr_empties G2 (54 + 3 * ((N : Int) + 1 - 1) + k2) 0 = G3 at em ⊢
  obtain ⟨s1, s2, s3⟩ := p1.put (by decide) (by omega) k2b em.1 em.2 (fun z hz => by
    show (if z = 0 then jh G N p else jh G N z).2.1 ≤ 32
    split
    · exact hw.1.2
    · exact (wz z hz).1.2)
  have hf : ∀ n, n ≠ 93 → ∀ j, G3 n j = G1 n j := fun n hn j => (em.1.n hn j).trans (m1.n hn j)
  have c2' := c2.s (jk_s.refl (S := fun _ => False)) (fun n e => e.elim) (p2.trans s2)
  obtain ⟨K', G', b, f1, f2, f3⟩ := ja_fin (w := 7) h c2' c4 (s1.congr (c' := fun z => if z = p then jp_0 else jh G N p) (fun _ => Iff.rfl) (fun z hz => by
    show (if z = p then ((0, 0, (fun _ => 0), fun _ => 0) : jp_C) else if z = 0 then jh G N p else jh G N z) = if z = p then jp_0 else jh G N p
    by_cases e : z = p
    · rw [if_pos e, if_pos e]
      rfl
    · rw [if_neg e, if_neg e, if_pos (hz.resolve_right e)])) (by decide) (by decide) (fun y hy => ⟨jp_e.refl _, by
    show jp_w (if y = p then jp_0 else jh G N p)
    split
    · exact jp_0_w
    · exact hw⟩) (by
    rw [c5 0 (by decide), c5 1 (by decide), c5 2 (by decide), c5 3 (by decide), c5 6 (by decide), c5 7 (by decide)]
    exact a6) (by
    rw [hf 98 (by decide), hf 99 (by decide), hf 100 (by decide), hf 101 (by decide), hf 104 (by decide)]
    exact a9) ((a7.mono (fun n e => by unfold jA_S at e; unfold jQ; omega)).trans (c3.1.mono (fun n e => by have := (a3.2.2.2.1.1.own_b ⟨by omega, by omega⟩ e).1; unfold jQ; omega))) (a8.trans (fun n j _ _ z => by rw [em.1 n j (by omega), m1 n j (by omega)])) hh hP
  exact ⟨K1, q, K2, K', G', b, a1, by omega, c1, f1, by rw [f2, jo_bs], f3⟩
