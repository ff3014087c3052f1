/-! ENTRY, crashAt, CRASH, WRITE -/
theorem fr_fa_k (G : jg_G) : (∀ i, i ≠ 7 → i ≠ 8 → i ≠ 12 → fr_fa G 92 i = G 92 i) ∧ (∀ n, (n = 93 ∨ n = 94 ∨ (98 ≤ n ∧ n ≤ 106) ∨ 112 ≤ n) → ∀ j, fr_fa G n j = G n j) := by
  constructor
  · intro i h7 h8 h12
    unfold fr_fa fr_fi fr_f0
    rw [if_neg (by omega), if_neg (by omega), if_neg (by omega), if_neg (by omega), jg_uI h12, jg_uI h8, jg_uI h7]
  · intro n hn j
    unfold fr_fa fr_fi fr_f0
    rw [if_neg (by omega), if_neg (by omega), if_neg (by omega), if_neg (by omega), jg_uN (by omega), jg_uN (by omega), jg_uN (by omega)]
theorem fr_fa_is {X : jg_G} (hh : ∀ k, 0 ≤ k → k < 32 → -1 ≤ X 111 k ∧ X 111 k < 4) : fr_fa X 92 7 = 1 ∧ fr_fa X 92 12 = X 92 13 ∧ fr_fa X 92 13 = X 92 13 ∧ fr_fa X 92 8 = 0 ∧ (∀ f, 0 ≤ f → f < 4 → fr_fa X 95 f = -1 ∧ fr_fa X 96 f = 0 ∧ fr_fa X 97 f = 0) ∧ (∀ t, 0 ≤ t → t < 4 → fr_fa X 107 t = 0 ∧ fr_fa X 108 t = 0 ∧ fr_fa X 109 t = 0 ∧ fr_fa X 110 t = -1) ∧ ∀ k, 0 ≤ k → k < 32 → fr_fa X 111 k = -1 := by
  refine ⟨by simp [fr_fa, fr_fi, fr_f0, jg_u], by simp [fr_fa, fr_fi, fr_f0, jg_u], by simp [fr_fa, fr_fi, fr_f0, jg_u], by simp [fr_fa, fr_fi, fr_f0, jg_u], fun f f0 f1 => ⟨?_, ?_, ?_⟩, fun t t0 t1 => ⟨?_, ?_, ?_, ?_⟩, fun k k0 k1 => ?_⟩
  · simp [fr_fa, fr_fi, fr_f0, jg_u, f0, f1]
  · simp [fr_fa, fr_fi, fr_f0, jg_u, f0, f1]
  · simp [fr_fa, fr_fi, fr_f0, jg_u, f0, f1]
  · simp [fr_fa, fr_fi, fr_f0, jg_u, t0, t1]
  · simp [fr_fa, fr_fi, fr_f0, jg_u, t0, t1]
  · simp [fr_fa, fr_fi, fr_f0, jg_u, t0, t1]
  · simp [fr_fa, fr_fi, fr_f0, jg_u, t0, t1]
  · have := hh k k0 k1
    simp [fr_fa, fr_fi, fr_f0, jg_u, k0, k1]
    omega
theorem jM.dsk {G G' : jg_G} {N κ B : Nat} {W : jZW} (h : jM G N κ W B) (ai : ∀ i, i ≠ 5 → i ≠ 6 → i ≠ 13 → G' 92 i = G 92 i) (an : ∀ n, n ≠ 92 → ∀ j, G' n j = G n j) (g13 : G 92 13 ≤ G' 92 13) : jM G' N κ W B :=
  h.f ⟨fun n hn _ j => an n (by omega) j, fun j _ => an 93 (by decide) j, fun i i3 i4 i5 i6 i8 i13 _ => ai i i5 i6 i13, g13, jd_m.same (fun j _ _ => an 93 (by decide) j)⟩ (Int.le_of_eq (jP_same (fun i => an 97 (by decide) i) (ai 3 (by decide) (by decide) (by decide))))
section Ec
variable {K : jc_K} {G : jg_G} {N k : Nat} {W : jZW}
/-- crashAt -/
theorem jcrashAt (hs : jSt K G N k W) {a : Int} (ha : 0 ≤ a ∧ a < 1000) : fc117 K a = some (jc_ui K 3 10 a, .inl 0) ∧ jSt (jc_ui K 3 10 a) (jg_u G 92 6 a) N k W ∧ jzs G N (jg_u G 92 6 a) N := by
  have s : jk_s (fun n => n = 3) K (jc_ui K 3 10 a) := jk_s.u rfl
  have ai : ∀ i, i ≠ 6 → jg_u G 92 6 a 92 i = G 92 i := fun i hi => jg_uI hi
  have an : ∀ n, n ≠ 92 → ∀ j, jg_u G 92 6 a n j = G n j := fun n hn j => jg_uN hn
  have hl : jl_a G (jg_u G 92 6 a) N := fun m j e => an m (by omega) j
  obtain ⟨hP, h8, hW, hL⟩ := hs
  obtain ⟨⟨_, ⟨⟨n8, n9, _⟩, _⟩, _⟩, ⟨_, h5, _, _, h13⟩, _⟩ := hL.1.1
  have hY : jY (jc_ui K 3 10 a) (jg_u G 92 6 a) N k := hL.1.dsk s (fun i _ _ i10 => jc_uI i10) (fun i _ i6 _ => ai i i6) an ⟨by rw [jc_uI (by decide), ai 13 (by decide)]; exact n8, by rw [jc_uI (by decide), ai 5 (by decide)]; exact n9, by rw [jc_uH, jg_uH]⟩ (by rw [jg_uH]; exact ha) ⟨Int.le_of_eq (ai 13 (by decide)).symm, by rw [ai 13 (by decide)]; exact h13⟩ (by rw [ai 5 (by decide)]; exact h5)
  refine ⟨?_, ⟨fun j j0 j1 => by rw [s.2 85 (by decide), an 113 (by decide)]; exact hP j j0 j1, by rw [s.2 2 (by decide)]; exact h8, hW, hL.f hY (hL.2.1.dsk (fun i _ i6 _ => ai i i6) an (Int.le_of_eq (ai 13 (by decide)).symm)) (hL.2.2.1.same (fun z => hl.h z N (Int.le_refl _))) (jk_g.s s) (by decide) (fun j => ⟨an 107 (by decide) j, an 110 (by decide) j, an 111 (by decide) j⟩) (fun s _ _ _ => hl.t s N (Int.le_refl _))⟩, ⟨fun y => hl.zA y N (Int.le_refl _), fun t _ _ => hl.zL t N (Int.le_refl _), fun j => ⟨an 107 (by decide) j, an 110 (by decide) j, an 111 (by decide) j⟩, fun t _ _ _ => an 109 (by decide) t, hl, Nat.le_refl _, fun j => an 113 (by decide) j, fun t _ _ => an 108 (by decide) t⟩⟩
  unfold fc117
  rw [if_neg (by omega), if_pos (by omega)]
/-- crash -/
theorem jcrash {N x κ B : Nat} {W : jZW} (hY : jY K G N x) (hM : jM G N κ W B) (hκ : κ ≤ 513) (hB : B ≤ 223) : jE K (fr_fa G) x ∧ jMf (fr_fa G) κ W B := by
  obtain ⟨⟨dc, ⟨⟨n8, n9, n10⟩, n6, n13, n3⟩, hU⟩, ⟨h7, h5, h12, hN, h13⟩, ca, c2, c3, c4⟩ := hY.1
  obtain ⟨f7, f1, f2, f3, f4, f5, f6⟩ := fr_fa_is hM.2.2.1
  obtain ⟨ki, kn⟩ := fr_fa_k G
  have hl : jl_s G (fr_fa G) := ⟨fun m a b j => kn m (by omega) j, fun j _ => kn 93 (by decide) j⟩
  refine ⟨⟨⟨?_, ⟨⟨?_, ?_, ?_⟩, ?_, ?_, ?_⟩, ?_⟩, ⟨f7, f1.trans f2.symm, f3, f4, f5, f6⟩, ⟨?_, ?_, ?_⟩, hY.2.2.2.1, hY.2.2.2.2, fun f f0 f1 => (ca.2.1 f f0 f1).2.2.2⟩, ?_⟩
  · rw [f2]
    refine dc.keep (Int.le_refl _) ⟨⟨rfl, rfl, rfl⟩, fun i hi => rfl, fun n x y i => rfl⟩ ?_ (by rw [ki 3 (by decide) (by decide) (by decide)]; exact Int.le_refl _) (ki 4 (by decide) (by decide) (by decide)) hl (fun j _ _ => kn 93 (by decide) j) (fun i => kn 94 (by decide) i)
    rw [ki 3 (by decide) (by decide) (by decide)]
    exact dc.1.1
  · rw [f2]; exact n8
  · rw [ki 5 (by decide) (by decide) (by decide)]; exact n9
  · rw [ki 6 (by decide) (by decide) (by decide)]; exact n10
  · rw [ki 6 (by decide) (by decide) (by decide)]; exact n6
  · rw [f2]; exact n13
  · rw [ki 3 (by decide) (by decide) (by decide)]; exact n3
  · rw [ki 5 (by decide) (by decide) (by decide)]; exact h5
  · rw [f2]
    have z : jZ K G (G 92 13).toNat := fun r r0 r1 => hY.2.1.2 r r0 (by omega)
    exact z.s (jk_s.refl (S := fun _ => False)) (fun _ _ z => z) (hl.a _)
  · rw [f2, hY.2.1.1]; exact h13
  · rw [f2]; omega
  · obtain ⟨⟨m1, m2⟩, m3, m4, m5, m6, m7, m8, m9, _⟩ := hM
    have le : (G 92 13).toNat ≤ N := by omega
    have hl' : jl_a G (fr_fa G) (G 92 13).toNat := hl.a _
    refine ⟨(G 92 13).toNat, by rw [f1]; omega, ⟨m1.a hl' le, m2.a hl' (jd_m.same (fun j _ _ => kn 93 (by decide) j)) le⟩, ?_, ?_, ?_, ⟨(ki 0 (by decide) (by decide) (by decide)).trans m8.1, fun j => (kn 113 (by decide) j).trans (m8.2 j)⟩, m9.cut hl' le (by omega) (fun j => kn 113 (by decide) j)⟩
    · rw [hl'.ph0 (Int.le_refl _)]
      have := jph0_mono (G := G) (n := (G 92 13).toNat) (N - (G 92 13).toNat) (fun r r0 r1 => m1.1 r r0 (by omega))
      rw [show (G 92 13).toNat + (N - (G 92 13).toNat) = N by omega] at this
      have := jph0_le G N
      omega
    · rw [hl'.cw 0 _ (Int.le_refl _), hl'.cw 5 _ (Int.le_refl _), hl'.cw 4 _ (Int.le_refl _)]
      have a0 := jcw_mono2 G 0 le
      have a5 := jcw_mono2 G 5 le
      have a4 := jcw_mono2 G 4 le
      omega
    · rw [ki 3 (by decide) (by decide) (by decide)]
      have := jP_ge G
      have m7' : jP G ≤ W.1 + 3 * N := m7
      omega
theorem jcrashed (hs : jSt K G N k W) (hk : k ≤ 512) : ∃ K' c, fc118 K = some (K', c) ∧ jSf K' (fr_fa G) k W := by
  have hL := hs.2.2.2
  obtain ⟨E, M⟩ := jcrash hL.1 hL.2.1 (by omega) (by decide)
  obtain ⟨K', r1, r2, r3⟩ := jfall E (fun j j0 j1 => by
    rw [(hL.2.2.2.1.2 j j0 j1).1]
    exact (hL.2.2.2.1.2 j j0 j1).2)
  refine ⟨K', 0, ?_, fun j j0 j1 => ?_, hs.2.2.1, r2, M⟩
  · unfold fc118
    rw [if_pos hs.2.1, r1, jo_bs]
  · rw [r3 85 (by decide) (by unfold jTn; decide) (by decide) (by decide) (by decide) (by decide) (by decide), (fr_fa_k _).2 113 (by decide)]
    exact hs.1 j j0 j1
end Ec
