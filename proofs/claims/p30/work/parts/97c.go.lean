/-! GO, class and reference -/
theorem jB.img {K K' : jc_K} {p : Nat} {c : jp_C} {N : Nat} (hD : jD K) (hN : N < 1100) (h : jp_k K p c) (hp : p < 92) (k : jk_b K K' N) : jp_k K' p c := by
  have nb : ∀ n, n < 98 → ¬ jo_w K N n := fun n hn z => by have := hD.own_b (by omega) z; omega
  exact k.1.k h (nb p (by omega)) (nb (p + 1) (by omega))
theorem jq_lt {G : jg_G} {p : Int} (hp : 0 ≤ p ∧ p < 24) (h : -1 ≤ fr_fo G p ∧ fr_fo G p < 4) : jq G p < 91 := by
  unfold jq
  split <;> omega
theorem jI.congr {K : jc_K} {q : Nat} {m : Int} {c c' : Int → jp_C} {P P' : Int → Prop} (h : jI K q m c P) (hP : ∀ y, P y ↔ P' y) (hc : ∀ y, P y → c y = c' y) : jI K q m c' P' :=
  ⟨h.1, fun k k0 k1 => by
    obtain ⟨w1, w2, w3⟩ := h.2.1 k k0 k1
    rw [hc _ w3] at w2
    exact ⟨w1, w2, (hP _).1 w3⟩, h.2.2.1, fun y hy => h.2.2.2 y ((hP y).2 hy)⟩
theorem jr_I.congr {G : jg_G} {r m : Int} {c c' : Int → jp_C} {P P' : Int → Prop} (h : jr_I G r m c P) (hP : ∀ y, P y ↔ P' y) (hc : ∀ y, P y → c y = c' y) : jr_I G r m c' P' :=
  ⟨h.1, fun k k0 k1 => by
    obtain ⟨w1, w2, w3⟩ := h.2.1 k k0 k1
    rw [hc _ w3] at w2
    exact ⟨w1, w2, (hP _).1 w3⟩, h.2.2.1, fun y hy => h.2.2.2 y ((hP y).2 hy)⟩
/-- the class's side of a GO -/
theorem jk_84 {K : jc_K} {G G0 : jg_G} {N x q : Nat} {p up k : Int} (h : jB K G N x q) (hg : ∀ z, jh G N z = jh G0 N z) (hI : jI K q 0 (fun z => jh G0 N z) (fun _ => False)) (hp : 0 ≤ p ∧ p < 24) (hu : 0 ≤ up ∧ up < 24) (hne : p ≠ up) (h2 : (jh G0 N up).1 = 2) (hk : 0 ≤ k ∧ k < (jh G0 N up).2.1) (hkp : (jh G0 N up).2.2.2 k = p) (huq : ∀ i, 0 ≤ i → i < (jh G0 N up).2.1 → (jh G0 N up).2.2.2 i = p → i = k) : ∃ K', fc84 K q p up = some (K', 0) ∧ jB K' G N x q ∧ jk_b K K' N ∧ jI K' q 2 (fun z => if z = p then jp_0 else jp_fg (jp_del (jh G0 N up) k)) (fun y => y = p ∨ y = up) ∧ ∀ i, i ≠ 8 → jc_i K' q i = jc_i K q i := by
  have q120 := h.2.2.2.2.1.2.1.1
  have hw := (h.seen hu).2.2.2.2.2
  rw [hg] at hw
  have jqb : jq G up < 91 := jq_lt hu ⟨(fr_fo_r G up).1, (fr_fo_r G up).2.1⟩
  obtain ⟨v1, v2, v3, _⟩ := h.seen hu
  unfold fc84
  rw [v1, jo_bs]
  dsimp only
  rw [if_neg (by omega), if_pos h.2.2.2.2.1.2]
  obtain ⟨K1, a1, k1, e1, b1, g1, i1, ⟨⟨k10, k11⟩, n1, p1⟩, f1⟩ := hI.tell (num := p) h (by decide) (fun z => z)
  rw [e1, jo_bs]
  dsimp only
  have s1 := i1.2.1 k1 k10 k11
  rw [p1, n1] at s1
  obtain ⟨K2, e2, o2, c2, _⟩ := jk_fc34 (K := K1) 0 s1.2.1.1
  obtain ⟨b2, g2, i2, ⟨n2, p2⟩, f2⟩ := i1.put b1 (by decide) (k := k1) ⟨k10, k11⟩ n1 p1 o2 c2
  rw [if_pos s1.2.1.1, e2, jo_bs]
  dsimp only
  rw [if_pos b2.2.2.2.2.1.2]
  have hn2 : ¬ (False ∨ up = p) := fun z => z.elim (fun z => z) (fun z => hne z.symm)
  obtain ⟨K3, a3, k3, e3, b3, g3, i3, ⟨⟨k30, k31⟩, n3, p3⟩, f3⟩ := i2.tell (num := up) b2 (by decide) hn2
  rw [e3, jo_bs]
  dsimp only
  have s3 := i3.2.1 k3 k30 k31
  rw [p3, n3] at s3
  obtain ⟨_, _, v33, _⟩ := b3.seen hu
  rw [hg] at v33
  have q2 : jk_a a3 (jq G up) := by have := s3.1; unfold jk_a; omega
  obtain ⟨K4, e4, o4, c4, _⟩ := jk_fc35 hw q2 s3.2.1.1 v33
  obtain ⟨b4, g4, i4, ⟨n4, p4⟩, f4⟩ := i3.put b3 (by decide) (k := k3) ⟨k30, k31⟩ n3 p3 o4 c4
  have eq1 : jq G up = jq G up := rfl
  rw [if_pos s3.2.1.1, e4, jo_bs]
  dsimp only
  obtain ⟨K5, e5, o5, c5, _⟩ := jk_fc48 hw h2 c4 hk.1 hk.2 hkp huq
  obtain ⟨b5, g5, i5, _, f5⟩ := i4.put b4 (by decide) (k := k3) ⟨k30, k31⟩ n4 p4 o5 c5
  rw [if_pos c4.1, e5, jo_bs]
  refine ⟨K5, rfl, b5, ((((g1.trans g2).trans g3).trans g4).trans g5), ?_, fun i hi => by rw [f5, f4, f3 i hi, f2, f1 i hi]⟩
  refine i5.congr (fun y => ?_) (fun y hy => ?_)
  · constructor
    · rintro ((z | z) | z)
      · exact z.elim
      · exact Or.inl z
      · exact Or.inr z
    · rintro (z | z)
      · exact Or.inl (Or.inr z)
      · exact Or.inr z
  · by_cases e : y = up
    · have ep : ¬ y = p := fun z => hne (z.symm.trans e)
      simp only [if_pos e, if_neg ep]
    · have ep : y = p := by
        rcases hy with (z | z) | z
        · exact z.elim
        · exact z
        · exact absurd z e
      simp only [if_neg e, if_pos ep]
      rfl
