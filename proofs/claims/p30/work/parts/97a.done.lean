/-! A SMALL ACTION DONE -/
theorem ja_done {K0 K : jc_K} {G0 G : jg_G} {N x q : Nat} {w t : Int} (h0 : jY K0 G0 N x) (h : jB K G N x q) (r1 : jg_rec K G ((N : Int) + 1) q) (r2 : jl_v G (N + 1)) (gK : jk_g jQ K0 K) (gG : jr_b (fr_no G0 w (-1)) G ((N : Int) + 1)) (hh : ∀ k, 0 ≤ k → k < 32 → -1 ≤ G0 111 k ∧ G0 111 k < 4) (hP : jP G0 + 3 < 2147483647) : ∃ K' G' b, fc80 K (jc_i K 63 4) = some (K', b) ∧ fo174 G ((N : Int) + 1) = some (G', 0) ∧ jk_g jQ K0 K' ∧ ((b = 1 ∧ jY K' G' (N + 1) x ∧ jV G0 G' N (N + 1) ∧ jP G' ≤ jP G0 + 3 ∧ jw_s G G' ∧ (∀ j, G' 108 j = G0 108 j ∧ G' 109 j = G0 109 j ∧ G' 112 j = G0 112 j) ∧ G' 92 29 = G0 92 29) ∨ (b = 0 ∧ jE K' G' x ∧ (G0 92 13 ≤ G' 92 13 ∧ jl_a G0 G' N ∧ jd_m G0 G' ∧ G' 92 12 ≤ (N : Int) + 1 ∧ jl_s G G' ∧ G' 92 0 = G0 92 0 ∧ ∀ j, G' 113 j = G0 113 j) ∧ G' 92 3 ≤ jP G0 + 3)) := by
  have h12 : G0 92 12 = N := h0.1.2.1.2.2.1
  have o := fun (n : Nat) (j : Int) => fr_no_o (G := G0) (w := w) (t := -1) (n := n) (j := j)
  simp only [h12] at o
  have hN := h.2.2.2.2.2
  have ec : (((N + 1 : Nat) : Nat) : Int) = (N : Int) + 1 := by omega
  have h3 : G 105 ((N : Int) + 1) ≤ 3 := by have := r2.2.1.2; rw [ec] at this; exact this
  have eP : jP G = jP G0 := jP_same (fun i => by rw [gG 97 i (by omega) (by omega) (by omega), o 97 i (by omega) (by omega) (by omega)]) (by rw [gG 92 3 (by omega) (by omega) (by omega), o 92 3 (by omega) (by omega) (by omega)])
  obtain ⟨K', G', b, z1, z2, z3, z4⟩ := h.done r1 r2 (by rw [eP]; omega)
  have o92 : ∀ i, i ≠ 12 → G 92 i = G0 92 i := fun i hi => by rw [gG 92 i (by omega) (by omega) (by omega), o 92 i (by omega) (by omega) (by omega)]
  have hl4 : jl_a G0 G N := fun m j e => (gG.l m j e).trans (o m j (by omega) (by omega) (by omega))
  refine ⟨K', G', b, z1, z2, gK.trans ((jk_g.s z3).mono (fun n e => Or.inl e)), ?_⟩
  rw [eP] at z4
  rcases z4 with ⟨e, y1, y2, y3⟩ | ⟨e, y1, y2⟩
  · refine Or.inl ⟨e, y1, ⟨⟨hl4.trans (y2.l.a N), by omega, y1.1.2.1.2.2.1⟩, fun i i1 i2 i3 i4 i5 i6 i7 i8 => (y2.2.2.1 i i1 i2 i3 i4 i5 i7).trans (o92 i i6), fun n hn j => ?_, ?_⟩, by omega, y2, fun j => ⟨?_, ?_, ?_⟩, ?_⟩
    · rw [y2.1 n (by omega), gG n j (by omega) (by omega) (by omega), o n j (by omega) (by omega) (by omega)]
    · have := y2.2.2.2.1
      rw [o92 13 (by decide)] at this
      exact ⟨this, (jd_m.same (fun j _ b => (gG 93 j (by omega) (by omega) (by omega)).trans (o 93 j (by omega) (by omega) (by omega)))).trans y2.2.2.2.2⟩
    · rw [y2.1 108 (by decide), gG 108 j (by omega) (by omega) (by omega)]
      unfold fr_no
      rw [if_pos rfl]
      exact fr_nr_o (by omega) (by omega)
    · rw [y2.1 109 (by decide), gG 109 j (by omega) (by omega) (by omega)]
      unfold fr_no
      rw [if_pos rfl]
      exact fr_nr_o (by omega) (by omega)
    · rw [y2.1 112 (by decide), gG 112 j (by omega) (by omega) (by omega)]
      exact o 112 j (by omega) (by omega) (by omega)
    · rw [y2.2.2.1 29 (by decide) (by decide) (by decide) (by decide) (by decide) (by decide)]; exact o92 29 (by decide)
  · have hz : jZ K G (N + 1) := fun r r0 r1' => by
      by_cases er : r ≤ N
      · exact h.2.1.2 r r0 er
      · have er' : r = N + 1 := by omega
        subst er'
        rw [show ((N + 1 : Nat) : Int) - 1 = N by omega, h.2.2.2.2.1.1, ec]
        exact ⟨r1, r2⟩
    have hE := jE.of hz (by rw [h.1.2, ec]; exact Int.le_refl _) (by omega) (by rw [h.1.2, h.2.1.1]; exact Int.le_refl _) h.2.2.2.1.1 h.2.2.2.1.2 (fun k k0 k1 => by rw [gG 111 k (by omega) (by omega) (by omega), o 111 k (by omega) (by omega) (by omega)]; exact hh k k0 k1) z3 (fun n hn => by unfold jS_n at hn; omega) y1.f (fun f f0 f1 => (h.1.1.2.2.1.2.1 f f0 f1).2.2.2)
    obtain ⟨_, X, eX, eX2, eX3⟩ := id y1
    have k13 : G' 92 13 = X 92 13 := by rw [eX]; simp [fr_fw, fr_fa, fr_fi, fr_f0, jg_u]
    have hls : jl_s G G' := by rw [eX]; exact eX2.l.trans (jl_s.fw X)
    refine Or.inr ⟨e, hE, ⟨?_, hl4.trans (hls.a N), ?_, ?_, hls, ?_, fun j => ?_⟩, by omega⟩
    · rw [k13]
      have := eX2.2.2.2.1
      rw [o92 13 (by decide)] at this
      exact this
    · refine (jd_m.same (fun j _ b => (gG 93 j (by omega) (by omega) (by omega)).trans (o 93 j (by omega) (by omega) (by omega)))).trans (eX2.2.2.2.2.trans ?_)
      rw [eX]
      exact jd_m.same (fun j _ _ => (fr_fw_k X).2 93 (by decide) j)
    · rw [hE.2.1.2.1, k13]
      have := eX2.2.2.1 12 (by decide) (by decide) (by decide) (by decide) (by decide) (by decide)
      rw [h.1.2] at this
      omega
    · rw [eX, (fr_fw_k X).1 0 (by decide) (by decide) (by decide) (by decide), eX2.2.2.1 0 (by decide) (by decide) (by decide) (by decide) (by decide) (by decide)]
      exact o92 0 (by decide)
    · rw [eX, (fr_fw_k X).2 113 (by decide), eX2.1 113 (by decide), gG 113 j (by omega) (by omega) (by omega)]
      exact o 113 j (by omega) (by omega) (by omega)
