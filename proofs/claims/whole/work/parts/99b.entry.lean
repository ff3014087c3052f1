/-! ENTRY, crashAt, CRASH, WRITE -/
theorem fr_fa_k (G : jg_G) : (∀ i, i ≠ 7 → i ≠ 8 → i ≠ 12 → fr_fa G 92 i = G 92 i) ∧ (∀ n, (n = 93 ∨ n = 94 ∨ (98 ≤ n ∧ n ≤ 106) ∨ 112 ≤ n) → ∀ j, fr_fa G n j = G n j) := by
  constructor
  · intro i h7 h8 h12
    unfold fr_fa fr_fi fr_f0
    rw [if_neg (by omega), if_neg (by omega), if_neg (by omega), if_neg (by omega), jg_uI h12, jg_uI h8, jg_uI h7]
  · intro n hn j
    unfold fr_fa fr_fi fr_f0
    rw [if_neg (by omega), if_neg (by omega), if_neg (by omega), if_neg (by omega), jg_uN (by omega), jg_uN (by omega), jg_uN (by omega)]
theorem fr_fa_is {X : jg_G} (hh : ∀ k, 0 ≤ k → k < 32 → -1 ≤ X 111 k ∧ X 111 k < 4) : fr_fa X 92 7 = 1 ∧ fr_fa X 92 12 = X 92 13 ∧ fr_fa X 92 13 = X 92 13 ∧ fr_fa X 92 8 = 0 ∧ (∀ f, 0 ≤ f → f < 4 → fr_fa X 95 f = -1 ∧ fr_fa X 96 f = 0 ∧ fr_fa X 97 f = 0) ∧ (∀ t, 0 ≤ t → t < 4 → fr_fa X 107 t = 0 ∧ fr_fa X 108 t = 0 ∧ fr_fa X 109 t = 0 ∧ fr_fa X 110 t = -1) ∧ ∀ k, 0 ≤ k → k < 32 → fr_fa X 111 k = -1 := by
  refine ⟨by simp [fr_fa, fr_fi, fr_f0, jg_u], by simp [fr_fa, fr_fi, fr_f0, jg_u], by simp [fr_fa, fr_fi, fr_f0, jg_u], by simp [fr_fa, fr_fi, fr_f0, jg_u], fun f f0 f1 => ⟨?_, ?_, ?_⟩, fun t t0 t1 => ⟨?_, ?_, ?_, ?_⟩, fun k k0 k1 => ?_⟩
  · simp [fr_fa, fr_fi, fr_f0, jg_u, f0, f1]
  · simp [fr_fa, fr_fi, fr_f0, jg_u, f0, f1]
  · simp [fr_fa, fr_fi, fr_f0, jg_u, f0, f1]
  · simp [fr_fa, fr_fi, fr_f0, jg_u, t0, t1]
  · simp [fr_fa, fr_fi, fr_f0, jg_u, t0, t1]
  · simp [fr_fa, fr_fi, fr_f0, jg_u, t0, t1]
  · simp [fr_fa, fr_fi, fr_f0, jg_u, t0, t1]
  · have := hh k k0 k1
    simp [fr_fa, fr_fi, fr_f0, jg_u, k0, k1]
    omega
theorem jM.dsk {G G' : jg_G} {N κ B : Nat} {W : jZW} (h : jM G N κ W B) (ai : ∀ i, i ≠ 5 → i ≠ 6 → i ≠ 13 → G' 92 i = G 92 i) (an : ∀ n, n ≠ 92 → ∀ j, G' n j = G n j) (g13 : G 92 13 ≤ G' 92 13) : jM G' N κ W B :=
  h.f ⟨fun n hn _ j => an n (by omega) j, fun j _ => an 93 (by decide) j, fun i i3 i4 i5 i6 i8 i13 _ => ai i i5 i6 i13, g13, jd_m.same (fun j _ _ => an 93 (by decide) j)⟩ (Int.le_of_eq (jP_same (fun i => an 97 (by decide) i) (ai 3 (by decide) (by decide) (by decide))))
section Ec
variable {K : jc_K} {G : jg_G} {k : Nat}
theorem jIn.c6 (h : jIn K G k) {a : Int} (ha : 0 ≤ a ∧ a < 1000) : jIn (jc_ui K 3 10 a) (jg_u G 92 6 a) k := by
  have s : jk_s (fun n => n = 3) K (jc_ui K 3 10 a) := jk_s.u rfl
  have ai : ∀ i, i ≠ 6 → jg_u G 92 6 a 92 i = G 92 i := fun i hi => jg_uI hi
  have an : ∀ n, n ≠ 92 → ∀ j, jg_u G 92 6 a n j = G n j := fun n hn j => jg_uN hn
  refine ⟨fun j j0 j1 => by rw [s.2 85 (by decide), an 113 (by decide)]; exact h.1 j j0 j1, ?_⟩
  rcases h.2 with ⟨h8, N, W, hW, hL⟩ | ⟨W, hW, hF, hM⟩
  · obtain ⟨⟨_, ⟨⟨n8, n9, _⟩, _⟩, _⟩, ⟨_, h5, _, _, h13⟩, _⟩ := hL.1.1
    have hY : jY (jc_ui K 3 10 a) (jg_u G 92 6 a) N k := hL.1.dsk s (fun i _ _ i10 => jc_uI i10) (fun i _ i6 _ => ai i i6) an ⟨by rw [jc_uI (by decide), ai 13 (by decide)]; exact n8, by rw [jc_uI (by decide), ai 5 (by decide)]; exact n9, by rw [jc_uH, jg_uH]⟩ (by rw [jg_uH]; exact ha) ⟨Int.le_of_eq (ai 13 (by decide)).symm, by rw [ai 13 (by decide)]; exact h13⟩ (by rw [ai 5 (by decide)]; exact h5)
    have hl : jl_a G (jg_u G 92 6 a) N := fun m j e => an m (by omega) j
    exact Or.inl ⟨by rw [s.2 2 (by decide)]; exact h8, N, W, hW, hL.f hY (hL.2.1.dsk (fun i _ i6 _ => ai i i6) an (Int.le_of_eq (ai 13 (by decide)).symm)) (hL.2.2.1.same (fun z => hl.h z N (Int.le_refl _))) (jk_g.s s) (by decide) (fun j => ⟨an 107 (by decide) j, an 110 (by decide) j, an 111 (by decide) j⟩) (fun s _ _ _ => hl.t s N (Int.le_refl _))⟩
  · obtain ⟨⟨⟨dc, ⟨⟨n8, n9, n10⟩, n6, n13, n3⟩, r5⟩, ⟨e7, e12, e8, ef, et, eh⟩, ⟨z1, z2, z3⟩, d1, d2, d3⟩, d8, f63, f1, f2, f3, f4⟩ := hF
    have hl : jl_s G (jg_u G 92 6 a) := ⟨fun m x y j => an m (by omega) j, fun j _ => an 93 (by decide) j⟩
    refine Or.inr ⟨W, hW, ⟨⟨⟨?_, ⟨⟨?_, ?_, ?_⟩, ?_, ?_, ?_⟩, ?_⟩, ⟨?_, ?_, ?_, fun f f0 f1 => ?_, fun t t0 t1 => ?_, fun j j0 j1 => ?_⟩, ⟨?_, ?_, ?_⟩, d1.s s, d2.s s, fun f f0 f1 => s.pg (d3 f f0 f1)⟩, ?_, ?_, fun f f0 f4 => ?_, ?_, fun t t0 t1 => ?_, fun j j0 j1 => ?_⟩, ?_⟩
    · rw [ai 13 (by decide)]
      refine dc.keep (Int.le_refl _) ⟨s.1, fun i hi => jc_uI (by omega), fun n x y i => s.2 n (by omega) i⟩ ?_ (by rw [ai 3 (by decide)]; exact Int.le_refl _) (ai 4 (by decide)) hl (fun j _ _ => an 93 (by decide) j) (fun i => an 94 (by decide) i)
      rw [jc_uI (by decide), ai 3 (by decide)]
      exact dc.1.1
    · rw [jc_uI (by decide), ai 13 (by decide)]; exact n8
    · rw [jc_uI (by decide), ai 5 (by decide)]; exact n9
    · rw [jc_uH, jg_uH]
    · rw [jg_uH]; exact ha
    · rw [ai 13 (by decide)]; exact n13
    · rw [ai 3 (by decide)]; exact n3
    · rw [ai 5 (by decide)]; exact r5
    · rw [ai 7 (by decide)]; exact e7
    · rw [ai 12 (by decide), ai 13 (by decide)]; exact e12
    · rw [ai 8 (by decide)]; exact e8
    · rw [an 95 (by decide), an 96 (by decide), an 97 (by decide)]; exact ef f f0 f1
    · rw [an 107 (by decide), an 108 (by decide), an 109 (by decide), an 110 (by decide)]; exact et t t0 t1
    · rw [an 111 (by decide)]; exact eh j j0 j1
    · rw [ai 13 (by decide)]
      exact z1.s s (fun n hn z => by omega) (hl.a _)
    · rw [ai 13 (by decide), s.2 63 (by decide)]; exact z2
    · rw [ai 13 (by decide)]; exact z3
    · rw [s.2 2 (by decide)]; exact d8
    · rw [s.2 63 (by decide), ai 12 (by decide)]; exact f63
    · rw [s.2 68 (by decide), s.2 69 (by decide), s.2 70 (by decide)]; exact f1 f f0 f4
    · rw [s.2 66 (by decide)]; exact f2
    · rw [s.2 58 (by decide), s.2 59 (by decide), s.2 61 (by decide)]; exact f3 t t0 t1
    · rw [s.2 62 (by decide)]; exact f4 j j0 j1
    · obtain ⟨n, m1, ⟨b1, b2⟩, c, d, e, f⟩ := hM
      have hl' : jl_a G (jg_u G 92 6 a) n := hl.a _
      exact ⟨n, by rw [ai 12 (by decide)]; exact m1, ⟨b1.a hl' (Nat.le_refl _), b2.a hl' (jd_m.same (fun j _ _ => an 93 (by decide) j)) (Nat.le_refl _)⟩, by rw [hl'.ph0 (Int.le_refl _)]; exact c, by rw [hl'.cw 0 n (Int.le_refl _), hl'.cw 5 n (Int.le_refl _), hl'.cw 4 n (Int.le_refl _)]; exact d, by rw [ai 3 (by decide)]; exact e, (ai 0 (by decide)).trans f.1, fun j => (an 113 (by decide) j).trans (f.2 j)⟩
theorem jg_u6 {v : Int} : jg_u (jg_u G 92 0 v) 92 6 (G 92 6) = jg_u G 92 0 v := jg_uS (jg_uI (by decide))
/-- crashAt -/
theorem jcase10 (h : jIn K G k) (a b e : Int) : ∃ K' G', js10 K G a b e = some (K', G') ∧ jIn K' G' (k + 1) := by
  unfold js10 fc117 fo202
  by_cases a0 : a < 0
  · rw [if_pos a0, if_pos a0, jg_u6, jo_bs, jo_bs]
    exact ⟨_, _, jl_cmv_r (mp := jl_m241) (by decide) jg_uH, h.thr 1⟩
  rw [if_neg a0, if_neg a0]
  by_cases a4 : a ≤ 999
  case neg =>
    rw [if_neg a4, if_pos (show 999 < a by omega), jg_u6, jo_bs, jo_bs]
    exact ⟨_, _, jl_cmv_r (mp := jl_m241) (by decide) jg_uH, h.thr 1⟩
  rw [if_pos a4, if_neg (show ¬ 999 < a by omega), jo_bs, jo_bs]
  exact ⟨_, _, jl_cmv_l (mp := jl_m241) ((jg_uI (by decide)).trans jg_uH), (h.ro 0).c6 ⟨by omega, by omega⟩⟩
/-- crash -/
theorem jcrash {N x κ B : Nat} {W : jZW} (hY : jY K G N x) (hM : jM G N κ W B) (hκ : κ ≤ 513) (hB : B ≤ 223) : jE K (fr_fa G) x ∧ jMf (fr_fa G) κ W B := by
  obtain ⟨⟨dc, ⟨⟨n8, n9, n10⟩, n6, n13, n3⟩, hU⟩, ⟨h7, h5, h12, hN, h13⟩, ca, c2, c3, c4⟩ := hY.1
  obtain ⟨f7, f1, f2, f3, f4, f5, f6⟩ := fr_fa_is hM.2.2.1
  obtain ⟨ki, kn⟩ := fr_fa_k G
  have hl : jl_s G (fr_fa G) := ⟨fun m a b j => kn m (by omega) j, fun j _ => kn 93 (by decide) j⟩
  refine ⟨⟨⟨?_, ⟨⟨?_, ?_, ?_⟩, ?_, ?_, ?_⟩, ?_⟩, ⟨f7, f1.trans f2.symm, f3, f4, f5, f6⟩, ⟨?_, ?_, ?_⟩, hY.2.2.2.1, hY.2.2.2.2, fun f f0 f1 => (ca.2.1 f f0 f1).2.2.2⟩, ?_⟩
  · rw [f2]
    refine dc.keep (Int.le_refl _) ⟨⟨rfl, rfl, rfl⟩, fun i hi => rfl, fun n x y i => rfl⟩ ?_ (by rw [ki 3 (by decide) (by decide) (by decide)]; exact Int.le_refl _) (ki 4 (by decide) (by decide) (by decide)) hl (fun j _ _ => kn 93 (by decide) j) (fun i => kn 94 (by decide) i)
    rw [ki 3 (by decide) (by decide) (by decide)]
    exact dc.1.1
  · rw [f2]; exact n8
  · rw [ki 5 (by decide) (by decide) (by decide)]; exact n9
  · rw [ki 6 (by decide) (by decide) (by decide)]; exact n10
  · rw [ki 6 (by decide) (by decide) (by decide)]; exact n6
  · rw [f2]; exact n13
  · rw [ki 3 (by decide) (by decide) (by decide)]; exact n3
  · rw [ki 5 (by decide) (by decide) (by decide)]; exact h5
  · rw [f2]
    have z : jZ K G (G 92 13).toNat := fun r r0 r1 => hY.2.1.2 r r0 (by omega)
    exact z.s (jk_s.refl (S := fun _ => False)) (fun _ _ z => z) (hl.a _)
  · rw [f2, hY.2.1.1]; exact h13
  · rw [f2]; omega
  · obtain ⟨⟨m1, m2⟩, m3, m4, m5, m6, m7, m8⟩ := hM
    have le : (G 92 13).toNat ≤ N := by omega
    have hl' : jl_a G (fr_fa G) (G 92 13).toNat := hl.a _
    refine ⟨(G 92 13).toNat, by rw [f1]; omega, ⟨m1.a hl' le, m2.a hl' (jd_m.same (fun j _ _ => kn 93 (by decide) j)) le⟩, ?_, ?_, ?_, (ki 0 (by decide) (by decide) (by decide)).trans m8.1, fun j => (kn 113 (by decide) j).trans (m8.2 j)⟩
    · rw [hl'.ph0 (Int.le_refl _)]
      have := jph0_mono (G := G) (n := (G 92 13).toNat) (N - (G 92 13).toNat) (fun r r0 r1 => m1.1 r r0 (by omega))
      rw [show (G 92 13).toNat + (N - (G 92 13).toNat) = N by omega] at this
      have := jph0_le G N
      omega
    · rw [hl'.cw 0 _ (Int.le_refl _), hl'.cw 5 _ (Int.le_refl _), hl'.cw 4 _ (Int.le_refl _)]
      have a0 := jcw_mono2 G 0 le
      have a5 := jcw_mono2 G 5 le
      have a4 := jcw_mono2 G 4 le
      omega
    · rw [ki 3 (by decide) (by decide) (by decide)]
      have := jP_ge G
      have m7' : jP G ≤ W.1 + 3 * N := m7
      omega
theorem jcase11 (h : jIn K G k) (hk : k < 512) (a b e : Int) : ∃ K' G', js11 K G a b e = some (K', G') ∧ jIn K' G' (k + 1) := by
  unfold js11 fc118 fo203
  by_cases d : G 92 7 = 0
  case neg =>
    have d' : ¬ jc_i K 2 8 = 0 := fun z => d (h.down.1 z)
    rw [if_neg d', if_neg d, jo_bs, jo_bs]
    exact ⟨_, _, rfl, h.ro 0⟩
  obtain ⟨N, W, hs⟩ := h.st d
  have hL := hs.2.2.2.t 0
  obtain ⟨E, M⟩ := jcrash hL.1 hL.2.1 (by omega) (by decide)
  obtain ⟨K', r1, r2, r3⟩ := jfall E (fun j j0 j1 => by
    rw [(hL.2.2.2.1.2 j j0 j1).1]
    exact (hL.2.2.2.1.2 j j0 j1).2)
  rw [if_pos hs.2.1, if_pos d, r1, jo_bs, jo_bs, jo_bs]
  refine ⟨_, _, rfl, fun j j0 j1 => ?_, Or.inr ⟨(W.1, 0, W.2.2), by show W.1 ≤ _; have := hs.2.2.1; omega, r2.le (by omega), M.le (by omega) (Nat.le_refl _)⟩⟩
  show jc_i K' 85 j = fr_fa (jg_u G 92 0 0) 113 j
  rw [r3 85 (by decide) (by unfold jTn; decide) (by decide) (by decide) (by decide) (by decide) (by decide), (fr_fa_k _).2 113 (by decide), jg_uN (by decide)]
  exact h.1 j j0 j1
/-- entry -/
theorem jcase15 (h : jIn K G k) (a b e : Int) : ∃ K' G', js15 K G a b e = some (K', G') ∧ jIn K' G' (k + 1) := by
  unfold js15 fc122 fo215
  by_cases a0 : a < 0
  · rw [if_pos a0, if_pos a0, jo_bs, jo_bs]
    exact ⟨_, _, jl_cmp_r (mp := jl_m245) (by decide) jg_uH, h.thr 1⟩
  rw [if_neg a0, if_neg a0]
  by_cases a4 : a < 24
  case neg =>
    rw [if_neg a4, if_pos (show 23 < a by omega), jo_bs, jo_bs]
    exact ⟨_, _, jl_cmp_r (mp := jl_m245) (by decide) jg_uH, h.thr 1⟩
  have ha : 0 ≤ a ∧ a < 24 := ⟨by omega, a4⟩
  rw [if_pos a4, if_neg (show ¬ 23 < a by omega)]
  by_cases b0 : 0 ≤ b
  case neg =>
    rw [if_neg b0, if_pos (show b < 0 by omega), jo_bs, jo_bs]
    exact ⟨_, _, jl_cmp_r (mp := jl_m245) (by decide) jg_uH, h.thr 1⟩
  obtain ⟨p1, p2, p3⟩ := h.page ha
  rw [if_pos b0, if_neg (show ¬ b < 0 by omega), if_pos ha, jo_le, jo_le, fr_ro_0, fr_to_0]
  rcases p3 with ⟨q1, q2⟩ | ⟨q, c, q1, q2, q3, q4, q5, q6, q7⟩
  · rw [q1, jo_bs, q2, if_neg (show ¬ (1 : Int) = 0 by decide)]
    dsimp only
    rw [if_pos rfl, jo_bs, jo_bs]
    exact ⟨_, _, jl_cmp_l (mp := jl_m245) jg_uH rfl, h.ro 0⟩
  generalize fr_ro G a = x9 at *
  rw [q1, jo_bs, q2, if_pos (show (0 : Int) = 0 from rfl), if_pos (show 0 ≤ (67 * x9) + 2 ∧ (67 * x9) + 2 < 305118 by omega), q6.2.1]
  dsimp only
  rw [if_neg (show ¬ q = 0 by omega), if_pos q4.1, q4.2.2.1]
  by_cases bc : b < c.2.1
  case neg =>
    rw [if_neg bc, if_neg bc, jo_bs, jo_bs]
    exact ⟨_, _, jl_cmp_l (mp := jl_m245) jg_uH rfl, h.ro 0⟩
  have b32 := q7.1
  obtain ⟨k1, k2⟩ := jp_cell q7 b0 bc
  obtain ⟨x1, x2⟩ := q6.2.2 b b0 bc
  rw [if_pos bc, if_pos bc, jk_fc37i q7 q4 b0 bc, jo_bs, jo_bs, if_pos (show 0 ≤ 67 * x9 ∧ 67 * x9 < 305118 by omega), q6.1, x1, x2]
  have r3 : 0 ≤ 67 * x9 + 3 + 2 * b ∧ 67 * x9 + 3 + 2 * b < 305118 := by omega
  have r4 : 0 ≤ 67 * x9 + 4 + 2 * b ∧ 67 * x9 + 4 + 2 * b < 305118 := by omega
  have kd : c.1 = 1 ∨ c.1 = 2 := by
    rcases q7.2 with z | z | z
    · omega
    · exact Or.inl z.1
    · exact Or.inr z.1
  rcases kd with kd | kd
  · rw [jp_leaf kd] at k2 ⊢
    rw [if_pos kd, if_pos r3, if_pos r4, if_pos (by omega), jo_bs]
    exact ⟨_, _, jl_cmp_l (mp := jl_m245) jg_uH rfl, h.ro 0⟩
  · rw [jp_inner kd] at k2 ⊢
    rw [if_neg (by omega), if_pos r3, if_pos r4, if_pos (by omega), jo_bs]
    exact ⟨_, _, jl_cmp_l (mp := jl_m245) jg_uH rfl, h.ro 0⟩
end Ec
