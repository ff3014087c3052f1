/-! tellUndo() performed, and what undoes() does -/
theorem jc_undo {K : jc_K} {G : jg_G} {N x L R : Nat} {t was : Int} (h : jY K G N x) (hN : N < 1100) (ht : 0 ≤ t ∧ t < 4) (hR : 1 ≤ R ∧ R ≤ N) (h98 : G 98 R = 0) (h99 : G 99 R = t) (hv : -1 ≤ G 102 R ∧ G 102 R < 1000) (hW : jW K G N (G 101 R) L) (hL : L < 24) (hh : ∀ k, 0 ≤ k → k < 32 → -1 ≤ G 111 k ∧ G 111 k < 4) (hP : jP G + 1 < 2147483647) : ∃ K1 K' G' b, fc95 K (jc_p K 64 ((R : Int) - 1)) = some (K1, 1) ∧ fc80 K1 (jc_i K1 63 4) = some (K', b) ∧ fo174 (ju_g G ((N : Int) + 1) t R (G 101 R) (G 102 R) was (G 112 L)) ((N : Int) + 1) = some (G', 0) ∧ jk_g jQ K K' ∧ ((b = 1 ∧ jY K' G' (N + 1) x ∧ jV G G' N (N + 1) ∧ jP G' ≤ jP G + 1 ∧ jc_ch G G' N 1 t (G 101 R) (G 102 R) (G 112 L) R) ∨ (b = 0 ∧ jE K' G' x ∧ (G 92 13 ≤ G' 92 13 ∧ jl_a G G' N ∧ jd_m G G' ∧ G' 92 12 ≤ (N : Int) + 1 ∧ (G' 98 ((N : Int) + 1) = 1 ∧ G' 99 ((N : Int) + 1) = t ∧ G' 100 ((N : Int) + 1) = G 108 t ∧ G' 101 ((N : Int) + 1) = G 101 R ∧ G' 103 ((N : Int) + 1) = G 102 R ∧ G' 104 ((N : Int) + 1) = R ∧ G' 105 ((N : Int) + 1) = 1 ∧ G' 106 (3 * ((N : Int) + 1)) = G 112 L) ∧ G' 92 29 = G 92 29 ∧ G' 92 0 = G 92 0 ∧ ∀ j, G' 113 j = G 113 j) ∧ G' 92 3 ≤ jP G + 1)) := by
  obtain ⟨⟨w1, w2⟩, w3, w4, w5, w6⟩ := hW
  have h12 : G 92 12 = N := h.1.2.1.2.2.1
  obtain ⟨wp1, wp2, wp3⟩ := w3 L (by omega) (by omega)
  obtain ⟨rec0, val0⟩ := h.2.1.2 R hR.1 hR.2
  have hx := (val0.2.2.2.1 (by omega)).1
  generalize hp : G 112 L = p at *
  obtain ⟨K1, q, a1, a2, a3, a4, a5⟩ := jB.start (w := 1) h hN ⟨by omega, ht.2⟩
  have hq := a2.2.2.2.2.1.2
  have q120 := hq.1.1
  have own1 := a2.own
  obtain ⟨rec1, _⟩ := a2.2.1.2 R hR.1 hR.2
  have e0 := a5 ((R : Int) - 1) (by omega)
  rw [e0] at rec1
  generalize hq0 : jc_p K 64 ((R : Int) - 1) = q0 at *
  have hne : q0 ≠ q := fun e => by
    have oq : jo_w K1 ((R : Int) - 1) q0 := ⟨by rw [e0]; have := rec1.1.1.1; omega, Or.inl (Or.inl e0.symm)⟩
    exact a2.2.2.2.1.1.own (i := (R : Int) - 1) (i' := N) (by omega) (by omega) (by omega) oq (by rw [e]; exact own1.1)
  have hl0 : jl_a G (fr_no G 1 t) N := fun m j e => fr_no_o (by omega) (by omega) (by omega)
  have l : ∀ m, 98 ≤ m → m ≤ 105 → fr_no G 1 t m R = G m R := fun m a b => hl0.l ⟨a, b⟩ (by omega) (by omega)
  obtain ⟨rc1, ⟨i0, i1, i2, i3, i6, i7, i8⟩, i5, i4, _⟩ := rec1
  rw [l 98 (by decide) (by decide)] at i1 i4 i5
  rw [l 99 (by decide) (by decide), h99] at i2
  rw [l 101 (by decide) (by decide)] at i3
  rw [l 102 (by decide) (by decide)] at i4
  have i4 := i4 h98
  have j2 : jc_i K q0 2 = t := by rw [rec0.2.1.2.2.1, h99]
  -- the fields
  have s4 : jk_s (fun n => n = q ∨ n = q + 1) K1 (jc_ui (jc_ui (jc_ui (jc_ui (jc_ui K1 q 3 (G 101 R)) q 5 (G 102 R)) q 7 R) (q + 1) 0 p) q 8 1) := ((((jk_s.u (S := fun n => n = q ∨ n = q + 1) (Or.inl rfl)).trans (jk_s.u (Or.inl rfl))).trans (jk_s.u (Or.inl rfl))).trans (jk_s.u (Or.inr rfl))).trans (jk_s.u (Or.inl rfl))
  obtain ⟨x1, x3⟩ := ju_g_is (R := (R : Int)) (key := G 101 R) (v := G 102 R) (was := was) (p := p) h12 ht
  have b4 := a2.s (G' := ju_g G ((N : Int) + 1) t R (G 101 R) (G 102 R) was p) s4 (fun n e => e.elim (fun e => by rw [e]; exact own1.1) (fun e => by rw [e]; exact own1.2.1)) x3
  have s3 : jk_s (fun n => n = q) K1 (jc_ui (jc_ui (jc_ui K1 q 3 (G 101 R)) q 5 (G 102 R)) q 7 R) := ((jk_s.u (S := fun n => n = q) rfl).trans (jk_s.u rfl)).trans (jk_s.u rfl)
  have way : fc70 (jc_ui (jc_ui (jc_ui K1 q 3 (G 101 R)) q 5 (G 102 R)) q 7 R) = some (jc_ui (jc_ui (jc_ui K1 q 3 (G 101 R)) q 5 (G 102 R)) q 7 R, p) := by
    have i79 : jc_i (jc_ui (jc_ui (jc_ui K1 q 3 (G 101 R)) q 5 (G 102 R)) q 7 R) 79 3 = L := by
      rw [s3.2 79 (by omega), a3.2.2.2 79 3 (by have := h.2.2.2.1.1; omega) (by unfold jA_S; omega)]
      exact w1
    have i80 : jc_i (jc_ui (jc_ui (jc_ui K1 q 3 (G 101 R)) q 5 (G 102 R)) q 7 R) 80 L = p := by
      rw [s3.2 80 (by omega), a3.2.2.2 80 L (by have := h.2.2.2.1.1; omega) (by unfold jA_S; omega)]
      exact wp1
    unfold fc70 fc69
    rw [i79, if_neg (by omega), if_neg (by omega), if_pos ⟨by omega, by omega⟩, jo_bs]
    dsimp only
    rw [i80]
  have fields : jc_i (jc_ui (jc_ui (jc_ui (jc_ui (jc_ui K1 q 3 (G 101 R)) q 5 (G 102 R)) q 7 R) (q + 1) 0 p) q 8 1) q 0 = (N : Int) + 1 ∧ jc_i (jc_ui (jc_ui (jc_ui (jc_ui (jc_ui K1 q 3 (G 101 R)) q 5 (G 102 R)) q 7 R) (q + 1) 0 p) q 8 1) q 1 = 1 ∧ jc_i (jc_ui (jc_ui (jc_ui (jc_ui (jc_ui K1 q 3 (G 101 R)) q 5 (G 102 R)) q 7 R) (q + 1) 0 p) q 8 1) q 2 = t ∧ jc_i (jc_ui (jc_ui (jc_ui (jc_ui (jc_ui K1 q 3 (G 101 R)) q 5 (G 102 R)) q 7 R) (q + 1) 0 p) q 8 1) q 3 = G 101 R ∧ jc_i (jc_ui (jc_ui (jc_ui (jc_ui (jc_ui K1 q 3 (G 101 R)) q 5 (G 102 R)) q 7 R) (q + 1) 0 p) q 8 1) q 6 = G 108 t ∧ jc_i (jc_ui (jc_ui (jc_ui (jc_ui (jc_ui K1 q 3 (G 101 R)) q 5 (G 102 R)) q 7 R) (q + 1) 0 p) q 8 1) q 7 = R ∧ jc_i (jc_ui (jc_ui (jc_ui (jc_ui (jc_ui K1 q 3 (G 101 R)) q 5 (G 102 R)) q 7 R) (q + 1) 0 p) q 8 1) q 8 = 1 ∧ jc_i (jc_ui (jc_ui (jc_ui (jc_ui (jc_ui K1 q 3 (G 101 R)) q 5 (G 102 R)) q 7 R) (q + 1) 0 p) q 8 1) q 5 = G 102 R ∧ jc_i (jc_ui (jc_ui (jc_ui (jc_ui (jc_ui K1 q 3 (G 101 R)) q 5 (G 102 R)) q 7 R) (q + 1) 0 p) q 8 1) (q + 1) 0 = p := by
    obtain ⟨y0, y1, y2, y3, y4, y5, y6, y7, y8⟩ := a4
    rw [if_neg (show ¬ t = -1 by omega)] at y6
    unfold jc_i at *
    unfold jc_ui
    simp [jg_u]
    exact ⟨y0, y1, y2, y6⟩
  have e95 : fc95 K q0 = some (jc_ui (jc_ui (jc_ui (jc_ui (jc_ui K1 q 3 (G 101 R)) q 5 (G 102 R)) q 7 R) (q + 1) 0 p) q 8 1, 1) := by
    unfold fc95
    rw [if_pos rec0.1, j2, a1, jo_bs]
    dsimp only
    rw [if_neg (by omega), if_pos rc1, if_pos hq, i3, jc_uN hne, i4, jc_uN hne, jc_uN hne, i0, way, jo_bs]
    dsimp only
    rw [if_pos (s3.rc hq)]
    unfold fc26
    rw [if_pos (s3.rc hq), jo_bs]
  generalize hK4 : jc_ui (jc_ui (jc_ui (jc_ui (jc_ui K1 q 3 (G 101 R)) q 5 (G 102 R)) q 7 R) (q + 1) 0 p) q 8 1 = K4 at s4 b4 fields e95
  generalize hG4 : ju_g G ((N : Int) + 1) t R (G 101 R) (G 102 R) was p = G4 at x1 x3 b4 ⊢
  obtain ⟨⟨o98, o99, o100, o101, o103, o104, o105, o106⟩, o108, o109, o112, o29⟩ := id x1
  have hl4 : jl_a G G4 N := hl0.trans x3.l
  obtain ⟨r1, r2⟩ := jL_rec b4 ⟨wp2, wp3⟩ (by rw [hl4.h p N (Int.le_refl _)]; exact w6) (by rw [o98]; decide) o105 o106 (by rw [o101]; exact hx) (by rw [o103]; exact hv) (by
    rw [o98, o99, o100, o101, o103, o104]
    obtain ⟨y0, y1, y2, y3, y4, y5, y6, y7, y9⟩ := fields
    exact ⟨y0, y1, y2, y3, y4, y5, y6, y7, fun z => absurd z (by decide), y9⟩)
  have eP : jP G4 = jP G := jP_same (fun i => by rw [x3 97 i (by omega) (by omega) (by omega), fr_no_o (by omega) (by omega) (by omega)]) (by rw [x3 92 3 (by omega) (by omega) (by omega), fr_no_o (by omega) (by omega) (by omega)])
  obtain ⟨K', G', b, z1, z2, z3, z4⟩ := b4.done r1 r2 (by rw [eP, o105]; exact hP)
  have o92 : ∀ i, i ≠ 12 → G4 92 i = G 92 i := fun i hi => by rw [x3 92 i (by omega) (by omega) (by omega), fr_no_o (by omega) (by omega) (by omega)]
  have gK : jk_g jQ K K' := ((a3.mono (fun n e => by unfold jA_S at e; unfold jQ; omega)).trans ((jk_g.s s4).mono (fun n e => by unfold jQ; omega))).trans ((jk_g.s z3).mono (fun n e => Or.inl e))
  refine ⟨K4, K', G', b, e95, z1, z2, gK, ?_⟩
  rw [eP, o105] at z4
  rcases z4 with ⟨e, y1, y2, y3⟩ | ⟨e, y1, y2⟩
  · refine Or.inl ⟨e, y1, ⟨⟨hl4.trans (y2.l.a N), by omega, y1.1.2.1.2.2.1⟩, fun i i1 i2 i3 i4 i5 i6 i7 i8 => (y2.2.2.1 i i1 i2 i3 i4 i5 i7).trans (o92 i i6), fun n hn j => ?_, ?_⟩, y3, ?_⟩
    · rw [y2.1 n (by omega), x3 n j (by omega) (by omega) (by omega), fr_no_o (by omega) (by omega) (by omega)]
    · have := y2.2.2.2.1
      rw [o92 13 (by decide)] at this
      exact ⟨this, (jd_m.same (fun j _ b => (x3 93 j (by omega) (by omega) (by omega)).trans (fr_no_o (by omega) (by omega) (by omega)))).trans y2.2.2.2.2⟩
    · have g : ∀ n, 98 ≤ n → ∀ j, G' n j = G4 n j := fun n hn j => y2.1 n hn j
      unfold jc_ch
      rw [g 98 (by decide), g 99 (by decide), g 100 (by decide), g 101 (by decide), g 103 (by decide), g 104 (by decide), g 105 (by decide), g 106 (by decide), g 108 (by decide), g 109 (by decide)]
      refine ⟨⟨o98, o99, o100, o101, o103, o104, o105, o106⟩, ⟨o108.1, fun i hi => ?_⟩, ⟨o109.1, fun i hi => ?_⟩, fun j => ?_, ?_⟩
      · rw [g 108 (by decide)]; exact o108.2 i hi
      · rw [g 109 (by decide)]; exact o109.2 i hi
      · rw [g 112 (by decide)]; exact o112 j
      · rw [y2.2.2.1 29 (by decide) (by decide) (by decide) (by decide) (by decide) (by decide)]; exact o29
  · have ec : (((N + 1 : Nat) : Nat) : Int) = (N : Int) + 1 := by omega
    have hz : jZ K4 G4 (N + 1) := fun r r0 r1' => by
      by_cases er : r ≤ N
      · exact b4.2.1.2 r r0 er
      · have er' : r = N + 1 := by omega
        subst er'
        rw [show ((N + 1 : Nat) : Int) - 1 = N by omega, b4.2.2.2.2.1.1, ec]
        exact ⟨r1, r2⟩
    have hE := jE.of hz (by rw [b4.1.2, ec]; exact Int.le_refl _) (by omega) (by rw [b4.1.2, b4.2.1.1]; exact Int.le_refl _) b4.2.2.2.1.1 b4.2.2.2.1.2 (fun k k0 k1 => by rw [x3 111 k (by omega) (by omega) (by omega), fr_no_o (by omega) (by omega) (by omega)]; exact hh k k0 k1) z3 (fun n hn => by unfold jS_n at hn; omega) y1.f (fun f f0 f1 => (b4.1.1.2.2.1.2.1 f f0 f1).2.2.2)
    obtain ⟨_, X, eX, eX2, eX3⟩ := id y1
    have k13 : G' 92 13 = X 92 13 := by rw [eX]; simp [fr_fw, fr_fa, fr_fi, fr_f0, jg_u]
    have hls : jl_s G4 G' := by rw [eX]; exact eX2.l.trans (jl_s.fw X)
    have gl : ∀ n, 98 ≤ n → n ≤ 106 → ∀ j, G' n j = G4 n j := hls.1
    refine Or.inr ⟨e, hE, ⟨?_, hl4.trans (hls.a N), ?_, ?_, ?_, ?_, ?_, fun j => ?_⟩, y2⟩
    · rw [k13]
      have := eX2.2.2.2.1
      rw [o92 13 (by decide)] at this
      exact this
    · refine (jd_m.same (fun j _ b => (x3 93 j (by omega) (by omega) (by omega)).trans (fr_no_o (by omega) (by omega) (by omega)))).trans (eX2.2.2.2.2.trans ?_)
      rw [eX]
      exact jd_m.same (fun j _ _ => (fr_fw_k X).2 93 (by decide) j)
    · rw [hE.2.1.2.1, k13]
      have := eX2.2.2.1 12 (by decide) (by decide) (by decide) (by decide) (by decide) (by decide)
      rw [b4.1.2] at this
      omega
    · rw [gl 98 (by decide) (by decide), gl 99 (by decide) (by decide), gl 100 (by decide) (by decide), gl 101 (by decide) (by decide), gl 103 (by decide) (by decide), gl 104 (by decide) (by decide), gl 105 (by decide) (by decide), gl 106 (by decide) (by decide)]
      exact ⟨o98, o99, o100, o101, o103, o104, o105, o106⟩
    · rw [eX, (fr_fw_k X).1 29 (by decide) (by decide) (by decide) (by decide), eX2.2.2.1 29 (by decide) (by decide) (by decide) (by decide) (by decide) (by decide)]
      exact o29
    · rw [eX, (fr_fw_k X).1 0 (by decide) (by decide) (by decide) (by decide), eX2.2.2.1 0 (by decide) (by decide) (by decide) (by decide) (by decide) (by decide)]
      exact o92 0 (by decide)
    · rw [eX, (fr_fw_k X).2 113 (by decide), eX2.1 113 (by decide), x3 113 j (by omega) (by omega) (by omega)]
      exact fr_no_o (by omega) (by omega) (by omega)
