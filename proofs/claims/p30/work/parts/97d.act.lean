/-! A SMALL ACTION, all of it; GO -/
/-- what a small action leaves: the pages P hold c, all others what they held -/
def jSA (K K' : jc_K) (G G' : jg_G) (N x : Nat) (w b : Int) (P : Int → Prop) (c : Int → jp_C) : Prop := jk_g jQ K K' ∧ ((jl_a G G' N ∧ jd_m G G' ∧ G 92 13 ≤ G' 92 13) ∧ (G' 98 ((N : Int) + 1) = w ∧ G' 99 ((N : Int) + 1) = -1 ∧ G' 100 ((N : Int) + 1) = 0 ∧ G' 101 ((N : Int) + 1) = -1 ∧ G' 104 ((N : Int) + 1) = -1) ∧ ∀ z, (P z → jp_e (jh G' (N + 1) z) (c z)) ∧ (¬ P z → jh G' (N + 1) z = jh G N z)) ∧ ((b = 1 ∧ jY K' G' (N + 1) x ∧ jV G G' N (N + 1) ∧ jP G' ≤ jP G + 3 ∧ (∀ j, G' 108 j = G 108 j ∧ G' 109 j = G 109 j ∧ G' 112 j = G 112 j) ∧ G' 92 29 = G 92 29) ∨ (b = 0 ∧ jE K' G' x ∧ G' 92 12 ≤ (N : Int) + 1 ∧ G' 92 3 ≤ jP G + 3 ∧ G' 92 0 = G 92 0 ∧ ∀ j, G' 113 j = G 113 j))
theorem ja_fin {K0 K : jc_K} {G0 G : jg_G} {N x q : Nat} {m w : Int} {c c' : Int → jp_C} {P : Int → Prop} (h0 : jY K0 G0 N x) (h : jB K G N x q) (hI : jI K q m c P) (hr : jr_I G ((N : Int) + 1) m c' P) (hm : 0 ≤ m ∧ m ≤ 3) (hw : 5 ≤ w ∧ w ≤ 7) (hce : ∀ y, P y → jp_e (c y) (c' y) ∧ jp_w (c' y)) (hf : jc_i K q 0 = (N : Int) + 1 ∧ jc_i K q 1 = w ∧ jc_i K q 2 = -1 ∧ jc_i K q 3 = -1 ∧ jc_i K q 6 = 0 ∧ jc_i K q 7 = -1) (hg : G 98 ((N : Int) + 1) = w ∧ G 99 ((N : Int) + 1) = -1 ∧ G 100 ((N : Int) + 1) = 0 ∧ G 101 ((N : Int) + 1) = -1 ∧ G 104 ((N : Int) + 1) = -1) (gK : jk_g jQ K0 K) (gG : jr_b (fr_no G0 w (-1)) G ((N : Int) + 1)) (hh : ∀ k, 0 ≤ k → k < 32 → -1 ≤ G0 111 k ∧ G0 111 k < 4) (hP : jP G0 + 3 < 2147483647) : ∃ K' G' b, fc80 K (jc_i K 63 4) = some (K', b) ∧ fo174 G ((N : Int) + 1) = some (G', 0) ∧ jSA K0 K' G0 G' N x w b P c' := by
  obtain ⟨r1, r2⟩ := ja_rec h hI hr hm hw hce hf hg
  obtain ⟨pz, nz⟩ := ja_pages hr hm.2 hw.1 hg.1 (fun y hy => (hce y hy).2)
  obtain ⟨K', G', b, f1, f2, f3, f4⟩ := ja_done (t := 0) h0 h r1 r2 gK gG hh hP
  have h12 : G0 92 12 = N := h0.1.2.1.2.2.1
  have hl4 : jl_a G0 G N := fun m j e => (gG.l m j e).trans (fr_no_o (by omega) (by omega) (by omega))
  have common : jl_s G G' → ((G' 98 ((N : Int) + 1) = w ∧ G' 99 ((N : Int) + 1) = -1 ∧ G' 100 ((N : Int) + 1) = 0 ∧ G' 101 ((N : Int) + 1) = -1 ∧ G' 104 ((N : Int) + 1) = -1) ∧ ∀ z, (P z → jp_e (jh G' (N + 1) z) (c' z)) ∧ (¬ P z → jh G' (N + 1) z = jh G0 N z)) := fun hl => by
    refine ⟨?_, fun z => ⟨fun hz => ?_, fun hz => ?_⟩⟩
    · rw [hl.1 98 (by decide) (by decide), hl.1 99 (by decide) (by decide), hl.1 100 (by decide) (by decide), hl.1 101 (by decide) (by decide), hl.1 104 (by decide) (by decide)]
      exact hg
    · rw [hl.h (N + 1) z]
      exact pz z hz
    · rw [hl.h (N + 1) z, nz z hz]
      exact hl4.h z N (Int.le_refl _)
  refine ⟨K', G', b, f1, f2, f3, ?_⟩
  rcases f4 with ⟨e, y1, y2, y3, y4, y5, y6⟩ | ⟨e, y1, ⟨y2, y3, y4, y5, y6, y8⟩, y7⟩
  · exact ⟨⟨⟨y2.1.1, y2.2.2.2.2, y2.2.2.2.1⟩, common y4.l⟩, Or.inl ⟨e, y1, y2, y3, y5, y6⟩⟩
  · exact ⟨⟨⟨y3, y4, y2⟩, common y6⟩, Or.inr ⟨e, y1, y5, y7, y8⟩⟩
theorem ja_go {K : jc_K} {G : jg_G} {N x : Nat} {p up k : Int} (h : jY K G N x) (hN : N < 1100) (hp : 0 ≤ p ∧ p < 24) (hu : 0 ≤ up ∧ up < 24) (hne : p ≠ up) (h2 : (jh G N up).1 = 2) (hk : 0 ≤ k ∧ k < (jh G N up).2.1) (hkp : (jh G N up).2.2.2 k = p) (huq : ∀ i, 0 ≤ i → i < (jh G N up).2.1 → (jh G N up).2.2.2 i = p → i = k) (hh : ∀ k, 0 ≤ k → k < 32 → -1 ≤ G 111 k ∧ G 111 k < 4) (hP : jP G + 3 < 2147483647) : ∃ K1 q K2 K' G' b, fc20 K 6 (-1) = some (K1, q) ∧ q ≠ 0 ∧ fc84 K1 q p up = some (K2, 0) ∧ fc80 K2 (jc_i K2 63 4) = some (K', b) ∧ fo181 G p up = some (G', 0) ∧ jSA K K' G G' N x 6 b (fun y => y = p ∨ y = up) (fun z => if z = p then jp_0 else jp_fg (jp_del (jh G N up) k)) := by
  obtain ⟨K1, q, G1, a1, a2, a3, a4, a5, a6, a7, a8, a9⟩ := ja_acts (w := 6) (c := -1) h hN hp hu (by decide) hne ⟨by omega, by omega⟩
  have h12 : G 92 12 = N := h.1.2.1.2.2.1
  have hl4 : jl_a G G1 N := fun m j e => (a8.l m j e).trans (fr_no_o (by omega) (by omega) (by omega))
  have hgl : ∀ z, jh G1 N z = jh G N z := fun z => hl4.h z N (Int.le_refl _)
  have q120 := a3.2.2.2.2.1.2.1.1
  obtain ⟨K2, c1, c2, c3, c4, c5⟩ := jk_84 a3 hgl a4 hp hu hne h2 hk hkp huq
  rw [if_pos rfl] at a5
  have wz : ∀ z, z = p ∨ z = up → jp_w (jh G N z) := fun z hz => by
    have := (a3.seen (p := z) (by rcases hz with e | e <;> rw [e] <;> assumption)).2.2.2.2.2
    rw [hgl] at this
    exact this
  have hw := wz up (Or.inr rfl)
  have b5 : jr_I G1 ((N : Int) + 1) 2 (fun p => jh G N p) (fun y => y = p ∨ y = up) := a5.congr (fun y => by omega) (fun _ _ => rfl)
  obtain ⟨k1, k1b, e1, r1⟩ := b5.row (by decide) (y := p) (Or.inl rfl)
  obtain ⟨p1, p2, p3⟩ := b5.put (by decide) (by omega) k1b jr_empties.1 jr_empties.2 (fun z hz => (wz z hz).1.2)
  have em := jr_empties (G := G1) (a := 54 + 3 * ((N : Int) + 1 - 1) + k1) (k := 0)
  unfold fo181
  rw [a2, jo_bs]
  dsimp only
  rw [if_pos (by omega), if_pos (by rw [b5.1]; decide), jo_le, e1, if_pos (by omega)]
  generalize fr_empties G1 (54 + 3 * ((N : Int) + 1 - 1) + k1) 0 = G2 at p1 p2 p3 em ⊢
  obtain ⟨k2, k2b, e2, r2⟩ := p1.row (by decide) (y := up) (Or.inr rfl)
  have r2' : jp_r G2 (54 + 3 * ((N : Int) + 1 - 1) + k2) (jh G N up) := by
    have : (fun z => if z = p then ((0, 0, (fun _ => 0), fun _ => 0) : jp_C) else jh G N z) up = jh G N up := if_neg (fun z => hne z.symm)
    rw [← this]; exact r2
  rw [if_pos (by rw [p1.1]; decide), jo_le, e2, if_pos (by omega), if_pos (by rw [r2'.2.1]; exact hw.1), jo_le, jr_cp r2' hw.1.2 hk.1 hk.2 hkp huq, if_pos (by rw [r2'.2.1]; exact ⟨hk.1, hk.2, hw.1.2⟩)]
  obtain ⟨G3, d1, d2, d3⟩ := jgo_r hw h2 r2' hk.1 hk.2
  obtain ⟨s1, s2, s3⟩ := p1.put (by decide) (by omega) k2b d1 d3 (fun z hz => by
    show (if z = p then ((0, 0, (fun _ => 0), fun _ => 0) : jp_C) else jh G N z).2.1 ≤ 32
    split
    · decide
    · exact (wz z hz).1.2)
  have hf : ∀ n, n ≠ 93 → ∀ j, G3 n j = G1 n j := fun n hn j => (d1.n hn j).trans (em.1.n hn j)
  have c2' := c2.s (jk_s.refl (S := fun _ => False)) (fun n e => e.elim) (p2.trans s2)
  obtain ⟨K', G', b, f1, f2, f3⟩ := ja_fin (w := 6) h c2' c4 (s1.congr (c' := fun z => if z = p then jp_0 else jp_fg (jp_del (jh G N up) k)) (fun _ => Iff.rfl) (fun z hz => by
    show (if z = up then jp_fg (jp_del (jh G N up) k) else if z = p then ((0, 0, (fun _ => 0), fun _ => 0) : jp_C) else jh G N z) = _
    by_cases e : z = p
    · rw [if_neg (by omega), if_pos e]
      show _ = if z = p then jp_0 else _
      rw [if_pos e]
      rfl
    · rw [if_pos (hz.resolve_left e)]
      show _ = if z = p then jp_0 else _
      rw [if_neg e])) (by decide) (by decide) (fun y hy => ⟨jp_e.refl _, by
    show jp_w (if y = p then jp_0 else jp_fg (jp_del (jh G N up) k))
    split
    · exact jp_0_w
    · exact jgo_w hw h2 hk.1 hk.2⟩) (by
    rw [c5 0 (by decide), c5 1 (by decide), c5 2 (by decide), c5 3 (by decide), c5 6 (by decide), c5 7 (by decide)]
    exact a6) (by
    rw [hf 98 (by decide), hf 99 (by decide), hf 100 (by decide), hf 101 (by decide), hf 104 (by decide)]
    exact a9) ((a7.mono (fun n e => by unfold jA_S at e; unfold jQ; omega)).trans (c3.1.mono (fun n e => by have := (a3.2.2.2.1.1.own_b ⟨by omega, by omega⟩ e).1; unfold jQ; omega))) (a8.trans (fun n j _ _ z => by rw [d1 n j (by omega), em.1 n j (by omega)])) hh hP
  refine ⟨K1, q, K2, K', G', b, a1, by omega, c1, f1, ?_, f3⟩
  by_cases z : k = 0
  · rw [if_pos z] at d2 ⊢
    rw [if_pos (by omega)]
    by_cases z2 : fr_drops G2 (54 + 3 * ((N : Int) + 1 - 1) + k2) k 93 (67 * (54 + 3 * ((N : Int) + 1 - 1) + k2) + 2) ≤ 0
    · rw [if_pos z2] at d2 ⊢
      rw [← d2, f2, jo_bs]
    · rw [if_neg z2] at d2 ⊢
      rw [if_pos (by omega), if_pos (by omega), ← d2, f2, jo_bs]
  · rw [if_neg z] at d2 ⊢
    rw [← d2, f2, jo_bs]
