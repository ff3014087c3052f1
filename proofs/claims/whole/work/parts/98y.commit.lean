/-! THE LOG MADE DURABLE; COMMIT, UNDO -/
theorem jY.dsk {K K' : jc_K} {G G' : jg_G} {N x : Nat} (hY : jY K G N x) (s2 : jk_s (fun n => n = 3) K K') (hk : ∀ i, i ≠ 8 → i ≠ 9 → i ≠ 10 → jc_i K' 3 i = jc_i K 3 i) (ai : ∀ i, i ≠ 5 → i ≠ 6 → i ≠ 13 → G' 92 i = G 92 i) (an : ∀ n, n ≠ 92 → ∀ j, G' n j = G n j) (dn : jc_i K' 3 8 = G' 92 13 ∧ jc_i K' 3 9 = G' 92 5 ∧ jc_i K' 3 10 = G' 92 6) (g6 : 0 ≤ G' 92 6 ∧ G' 92 6 < 1000) (g13 : G 92 13 ≤ G' 92 13 ∧ G' 92 13 ≤ N) (g5 : jb_r (G' 92 5)) : jY K' G' N x := by
  obtain ⟨⟨hc, ⟨⟨n8, n9, n10⟩, n6, n13, n3⟩, hU⟩, ⟨h7, h5, h12, hN, h13⟩, ca, c2, c3, c4⟩ := hY.1
  have hl : jl_s G G' := ⟨fun m a b j => an m (by omega) j, fun j _ => an 93 (by decide) j⟩
  have w : jw_f G G' := ⟨fun n hn _ j => an n (by omega) j, fun j _ => an 93 (by decide) j, fun i i3 i4 i5 i6 i8 i13 _ => ai i i5 i6 i13, g13.1, jd_m.same (fun j _ _ => an 93 (by decide) j)⟩
  refine hY.f (S := fun n => n = 3) ⟨⟨?_, ⟨dn, g6, ?_, ?_⟩, fun p a b => by rw [an 94 (by decide), an 94 (by decide)]; exact hU p a b⟩, ⟨by rw [ai 7 (by decide) (by decide) (by decide)]; exact h7, g5, by rw [ai 12 (by decide) (by decide) (by decide)]; exact h12, hN, g13.2⟩, ⟨?_, fun f f0 f1 => ?_, fun f f' x0 x1 y0 y1 hz hw => ?_⟩, fun f f0 f1 hf => ?_, fun f f0 f1 hf => ?_, fun p p0 p1 hp => ?_⟩ s2 (fun n e => by omega) w
  · refine hc.keep g13.1 ⟨s2.1, fun i hi => hk i (by omega) (by omega) (by omega), fun n a b i => s2.2 n (by omega) i⟩ ?_ (by rw [ai 3 (by decide) (by decide) (by decide)]; exact Int.le_refl _) (ai 4 (by decide) (by decide) (by decide)) hl (fun j _ _ => an 93 (by decide) j) (fun i => an 94 (by decide) i)
    rw [hk 7 (by decide) (by decide) (by decide), ai 3 (by decide) (by decide) (by decide)]
    exact hc.1.1
  · omega
  · rw [ai 3 (by decide) (by decide) (by decide)]; exact n3
  · rw [s2.2 66 (by decide), ai 8 (by decide) (by decide) (by decide)]; exact ca.1
  · rw [s2.2 68 (by decide), s2.2 69 (by decide), s2.2 70 (by decide), an 95 (by decide), an 96 (by decide), an 97 (by decide)]
    obtain ⟨u1, u2, u3, u4⟩ := ca.2.1 f f0 f1
    exact ⟨u1, u2, u3, s2.pg u4⟩
  · rw [an 95 (by decide)] at hz hw
    rw [an 95 (by decide)] at hw
    exact ca.2.2 f f' x0 x1 y0 y1 hz hw
  · rw [an 95 (by decide)] at hf ⊢
    obtain ⟨d1, d2, d3, d4⟩ := c2 f f0 f1 hf
    exact ⟨by rw [an 93 (by decide)]; exact d1, d2.s hl (fun j _ _ => an 93 (by decide) j), d3.s hl (fun j _ _ => an 93 (by decide) j) s2 (by omega) (by omega), d4.s hl (an 97 (by decide) f) (an 93 (by decide) _)⟩
  · rw [an 95 (by decide)] at hf
    rw [an 97 (by decide)]
    exact c3 f f0 f1 hf
  · rw [an 93 (by decide)]
    exact c4 p p0 p1 (fun f f0 f1 => by rw [← an 95 (by decide)]; exact hp f f0 f1)
theorem jhard {K : jc_K} {G : jg_G} {N x : Nat} {r : Int} (hY : jY K G N x) (hh : ∀ k, 0 ≤ k → k < 32 → -1 ≤ G 111 k ∧ G 111 k < 4) (hr : 0 ≤ r ∧ r ≤ N) : ∃ K' b, fc13 K r = some (K', b) ∧ jk_s (fun n => n = 3) K K' ∧ ((b = 1 ∧ jY K' (fr_ha G r) N x ∧ (∀ i, i ≠ 5 → i ≠ 6 → i ≠ 13 → fr_ha G r 92 i = G 92 i) ∧ ∀ n, n ≠ 92 → ∀ j, fr_ha G r n j = G n j) ∨ (b = 0 ∧ jE K' (fr_ha G r) x ∧ jl_a G (fr_ha G r) N ∧ jd_m G (fr_ha G r) ∧ fr_ha G r 92 3 = G 92 3 ∧ fr_ha G r 92 12 ≤ N ∧ fr_ha G r 92 0 = G 92 0 ∧ ∀ j, fr_ha G r 113 j = G 113 j)) := by
  obtain ⟨⟨hc, ⟨⟨n8, n9, n10⟩, n6, n13, n3⟩, hU⟩, ⟨h7, h5, h12, hN, h13⟩, ca, c2, c3, c4⟩ := hY.1
  have due : jd_due G r = if jc_i K 3 8 < r then r - jc_i K 3 8 else 0 := by unfold jd_due; rw [n8]
  have due0 : 0 ≤ jd_due G r ∧ jd_due G r ≤ 1100 ∧ (G 92 13 + jd_due G r ≤ N) := by unfold jd_due; split <;> omega
  obtain ⟨K1, r1, s1, e10, e9, ei⟩ := jk_fc12 (K := K) (w := jd_due G r) ⟨by omega, by omega⟩ n10 n6
  have w7 := hc.1.1
  by_cases hA : G 92 13 < r ∧ 1 ≤ G 92 6 ∧ G 92 6 ≤ r - G 92 13
  · obtain ⟨a1, a2, a3⟩ := hA
    have hdue : jd_due G r = r - G 92 13 := by unfold jd_due; rw [if_pos a1]
    have t2 : 1 ≤ G 92 6 ∧ G 92 6 ≤ jd_due G r := ⟨a2, by omega⟩
    rw [if_pos t2] at r1 e10 e9
    have e8 : jc_i K1 3 8 = G 92 13 := (ei 8 (by decide) (by decide)).trans n8
    have e13 : fc13 K r = some (jc_ui K1 3 8 (G 92 13 + (G 92 6 - 1)), 0) := by
      unfold fc13
      rw [n8, if_neg (by omega), if_pos (show -2147483648 ≤ (r - G 92 13) ∧ (r - G 92 13) < 2147483648 by omega), ← hdue, r1, jo_bs]
      dsimp only
      rw [e8, if_pos (by omega), if_neg (by omega)]
    have s2 : jk_s (fun n => n = 3) K (jc_ui K1 3 8 (G 92 13 + (G 92 6 - 1))) := s1.trans (jk_s.u rfl)
    have eG : fr_ha G r = fr_fw (jg_u (fr_w G (G 92 6 - 1)) 92 13 (G 92 13 + (G 92 6 - 1))) := by
      unfold fr_ha
      rw [if_pos ⟨h7, a1⟩, if_pos ⟨a2, a3⟩]
    have k := fr_fw_k (jg_u (fr_w G (G 92 6 - 1)) 92 13 (G 92 13 + (G 92 6 - 1)))
    have g5 : fr_ha G r 92 5 = jb_m (G 92 5 + (G 92 6 - 1)) := by
      rw [eG, k.1 5 (by decide) (by decide) (by decide) (by decide), jg_uI (by decide)]
      exact jg_uH
    have g13 : fr_ha G r 92 13 = G 92 13 + (G 92 6 - 1) := by
      rw [eG, k.1 13 (by decide) (by decide) (by decide) (by decide), jg_uH]
    have gi : ∀ i, i ≠ 5 → i ≠ 6 → i ≠ 7 → i ≠ 8 → i ≠ 12 → i ≠ 13 → fr_ha G r 92 i = G 92 i := fun i i5 i6 i7 i8 i12 i13 => by
      rw [eG, k.1 i i6 i7 i8 i12, jg_uI i13]
      exact (jg_uI i5).trans (jg_uI i6)
    have gn : ∀ n, (n = 93 ∨ n = 94 ∨ (98 ≤ n ∧ n ≤ 106) ∨ 112 ≤ n) → ∀ j, fr_ha G r n j = G n j := fun n h j => by
      rw [eG, k.2 n h j, jg_uN (by omega)]
      exact (jg_uN (by omega)).trans (jg_uN (by omega))
    have g6 : fr_ha G r 92 6 = 0 := by rw [eG]; exact fr_fw6 _
    have X : jXf (jc_ui K1 3 8 (G 92 13 + (G 92 6 - 1))) (fr_ha G r) G := by
      refine ⟨⟨?_, ⟨⟨?_, ?_, ?_⟩, ?_, ?_, ?_⟩, ?_⟩, _, _, eG, fun _ _ _ _ => rfl, ⟨fun n hn h2 j => ?_, fun j _ => ?_, fun i i3 i4 i5 i6 i8 i13 _ => ?_, ?_, jd_m.same (fun j _ _ => ?_)⟩, ?_⟩
      · rw [g13]
        refine hc.keep (by omega) ⟨s2.1, fun i hi => ?_, fun n a b i => s2.2 n (by omega) i⟩ ?_ (by rw [gi 3 (by decide) (by decide) (by decide) (by decide) (by decide) (by decide)]; exact Int.le_refl _) (gi 4 (by decide) (by decide) (by decide) (by decide) (by decide) (by decide)) ⟨fun m a b j => gn m (by omega) j, fun j _ => gn 93 (by decide) j⟩ (fun j _ _ => gn 93 (by decide) j) (fun i => gn 94 (by decide) i)
        · rw [jc_uI (by omega), ei i (by omega) (by omega)]
        · rw [jc_uI (by decide), ei 7 (by decide) (by decide), gi 3 (by decide) (by decide) (by decide) (by decide) (by decide) (by decide)]
          exact w7
      · rw [jc_uH, g13]
      · rw [jc_uI (by decide), e9, g5, n9]
      · rw [jc_uI (by decide), e10, g6]
      · rw [g6]; decide
      · rw [g13]; omega
      · rw [gi 3 (by decide) (by decide) (by decide) (by decide) (by decide) (by decide)]; exact n3
      · rw [g5]; exact jb_m_r _
      · rw [jg_uN (by omega)]
        exact (jg_uN (by omega)).trans (jg_uN (by omega))
      · rw [jg_uN (by decide)]
        exact (jg_uN (by decide)).trans (jg_uN (by decide))
      · rw [jg_uI i13]
        exact (jg_uI i5).trans (jg_uI i6)
      · rw [jg_uH]; omega
      · rw [jg_uN (by decide)]
        exact (jg_uN (by decide)).trans (jg_uN (by decide))
      · rw [jg_uH, jg_uI (by decide)]
        have : fr_w G (G 92 6 - 1) 92 12 = G 92 12 := (jg_uI (by decide)).trans (jg_uI (by decide))
        rw [this]; omega
    have E := jE.of (x := x) hY.2.1.2 (by omega) hN (by rw [hY.2.1.1]; omega) hY.2.2.2.1 hY.2.2.2.2 hh s2 (fun n e => by omega) X (fun f f0 f1 => (ca.2.1 f f0 f1).2.2.2)
    exact ⟨_, 0, e13, s2, Or.inr ⟨rfl, E, fun m j e => gn m (by omega) j, jd_m.same (fun j _ _ => gn 93 (by decide) j), gi 3 (by decide) (by decide) (by decide) (by decide) (by decide) (by decide), by rw [E.2.1.2.1, g13]; omega, gi 0 (by decide) (by decide) (by decide) (by decide) (by decide) (by decide), gn 113 (by decide)⟩⟩
  · obtain ⟨a13, a6, a5, ai, an⟩ := jx_ha (r := r) h7 h5 hA
    have tn : ¬ (1 ≤ G 92 6 ∧ G 92 6 ≤ jd_due G r) := fun z => hA (by
      unfold jd_due at z
      by_cases c : G 92 13 < r
      · rw [if_pos c] at z; exact ⟨c, z⟩
      · rw [if_neg c] at z; omega)
    rw [if_neg tn] at r1 e10 e9
    have e8 : jc_i K1 3 8 = G 92 13 := (ei 8 (by decide) (by decide)).trans n8
    have e13 : fc13 K r = some (jc_ui K1 3 8 (G 92 13 + jd_due G r), 1) := by
      unfold fc13
      by_cases c : r ≤ G 92 13
      · have hd0 : jd_due G r = 0 := by unfold jd_due; rw [if_neg (by omega)]
        rw [hd0] at r1 ⊢
        rw [n8, if_pos c, r1, jo_bs]
        dsimp only
        rw [e8, if_pos (by omega), if_pos rfl]
      · have hd0 : jd_due G r = r - G 92 13 := by unfold jd_due; rw [if_pos (by omega)]
        rw [n8, if_neg c, if_pos (show -2147483648 ≤ (r - G 92 13) ∧ (r - G 92 13) < 2147483648 by omega), ← hd0, r1, jo_bs]
        dsimp only
        rw [e8, if_pos (by omega), if_pos rfl]
    have s2 : jk_s (fun n => n = 3) K (jc_ui K1 3 8 (G 92 13 + jd_due G r)) := s1.trans (jk_s.u rfl)
    exact ⟨_, 1, e13, s2, Or.inl ⟨rfl, hY.dsk s2 (fun i i8 i9 i10 => by rw [jc_uI i8, ei i i9 i10]) ai an ⟨by rw [jc_uH, a13], by rw [jc_uI (by decide), e9, a5, n9], by rw [jc_uI (by decide), e10, a6]⟩ (by rw [a6]; split <;> omega) ⟨by rw [a13]; omega, by rw [a13]; omega⟩ (by rw [a5]; exact jb_m_r _), ai, an⟩⟩
theorem jTr.fin2 {K K2 K3 : jc_K} {G G1 : jg_G} {t : Int} (hT : jTr K G) (hK : ∀ n, n = 58 ∨ n = 61 ∨ n = 62 → ∀ j, jc_i K2 n j = jc_i K n j) (hG : ∀ j, G1 107 j = G 107 j ∧ (j ≠ t → G1 110 j = G 110 j) ∧ G1 111 j = G 111 j) (ht : 0 ≤ t ∧ t < 4) (hf : fc63 K2 t = some (K3, 0)) : jTr K3 (fr_cl G1 t) := by
  obtain ⟨K', a1, a2, a3, a4, a5, a6⟩ := jk_fc63 (K := K2) ht
  rw [hf] at a1
  cases a1
  refine ⟨fun s s0 s1 => ?_, fun k k0 k1 => ?_⟩
  · obtain ⟨b1, b2, b3, b4, b5⟩ := hT.1 s s0 s1
    rw [a3, a5, hK 58 (by decide), hK 61 (by decide), fr_cl_7 (by decide), fr_cl_10, (hG s).1]
    by_cases e : s = t
    · rw [if_pos e, if_pos e, if_pos (Or.inl e), if_pos (Or.inl e)]
      exact ⟨rfl, Or.inl rfl, rfl, by decide, by decide⟩
    · rw [if_neg e, if_neg e, (hG s).2.1 e, b3]
      refine ⟨b1, b2, rfl, ?_, ?_⟩ <;> split <;> omega
  · obtain ⟨b1, b2, b3⟩ := hT.2 k k0 k1
    rw [a6, fr_cl_11, hK 62 (by decide), (hG k).2.2, b1]
    refine ⟨rfl, ?_, ?_⟩ <;> split <;> omega
section Cu
variable {K : jc_K} {G : jg_G} {k : Nat}
/-- undo -/
theorem jcase7 (h : jIn K G k) (hk : k < 512) (a b e : Int) : ∃ K' G', js7 K G a b e = some (K', G') ∧ jIn K' G' (k + 1) := by
  unfold js7 fc114 fo199
  by_cases a0 : a < 0
  · rw [if_pos a0, if_pos a0, jo_bs, jo_bs]
    exact ⟨_, _, jl_cmp_r (mp := jl_m238) (by decide) jg_uH, h.thr 1⟩
  rw [if_neg a0, if_neg a0]
  by_cases a4 : a < 4
  case neg =>
    rw [if_neg a4, if_pos (show 3 < a by omega), jo_bs, jo_bs]
    exact ⟨_, _, jl_cmp_r (mp := jl_m238) (by decide) jg_uH, h.thr 1⟩
  rw [if_pos a4, if_neg (show ¬ 3 < a by omega)]
  have ha : 0 ≤ a ∧ a < 4 := ⟨by omega, a4⟩
  by_cases d : G 92 7 = 0
  case neg =>
    have d' : ¬ jc_i K 2 8 = 0 := fun z => d (h.down.1 z)
    rw [if_neg d', if_neg d, jo_bs, jo_bs]
    exact ⟨_, _, jl_cmp_r (mp := jl_m238) (by decide) jg_uH, h.thr 2⟩
  obtain ⟨N, W, hs⟩ := h.st d
  obtain ⟨o1, o2⟩ := hs.t ha
  rw [if_pos hs.2.1, if_pos ha, o1, if_pos d, if_pos ha]
  rcases o2 with o | o
  · rw [if_pos o, if_pos o, jo_bs, jo_bs]
    exact ⟨_, _, jl_cmp_r (mp := jl_m238) (by decide) jg_uH, h.thr 2⟩
  rw [if_neg (show ¬ G 107 a = 0 by omega), if_neg (show ¬ G 107 a = 0 by omega)]
  have hW : W.1 ≤ 2000000000 := by have := hs.2.2.1; omega
  have hL := hs.2.2.2.t 0
  have o' : jg_u G 92 0 0 107 a = 1 := by rw [jg_uN (by decide)]; exact o
  have tm : 1 ≤ jtm (jg_u G 92 0 0) N a := by
    unfold jtm
    rw [o', if_pos rfl]
    split
    · decide
    · split <;> decide
  obtain ⟨K0, K1, G1, st, n, r1, r2, r3, r4, r5⟩ := jua hL.1 hL.2.1 (by omega) (by decide) hW hL.2.2.1 hL.2.2.2.1 ha
  have g1 : jk_g jQX K K1 := r4.mono (fun n e => Or.inl e)
  rw [r1, jo_bs]
  dsimp only
  rw [r2, jo_bs, r3, jo_bs]
  dsimp only
  rcases r5 with ⟨es, en, N1, y1, y2, y3, y4, y5, y6, y7, _⟩ | ⟨es, y1, y2, y3⟩
  · subst es
    have hn : jc_i K1 81 4 ≠ -4 := by
      rw [en]
      have := j188p r3
      omega
    rw [if_neg (show ¬ (1 : Int) = 0 by decide), if_pos y1.h7, jtold_a hn, jo_bs, jo_bs, jo_bs]
    obtain ⟨hWo, ρ, hρ⟩ := hL.2.2.2.2.1
    obtain ⟨z1, z2⟩ := jfinA (N' := N1) hs g1 (show jLv K1 G1 N1 k (k + 1) (W.1, 0, W.2.2) 223 from ⟨y1, y2.le (by omega) (Nat.le_refl _), y3, y4, ⟨hWo.cl y5 (fun j j0 j1 => (hL.2.2.2.1.2 j j0 j1).2.2) (fun s s0 s1 => (hL.2.2.2.1.1 s s0 s1).2.2.2.2), ρ, fun s s0 s1 h0 => jrho.cl (t := -1) y5 (fun s s0 s1 _ h0 => hρ s s0 s1 h0) s s0 s1 (by omega) h0⟩, fun s s0 s1 h0 => by
      by_cases hsa : s = a
      · rw [hsa]; exact y6
      · rw [y5.1 s s0 s1, if_neg hsa] at h0
        rw [y7 s s0 s1 hsa]
        exact hL.2.2.2.2.2 s s0 s1 h0⟩)
    exact ⟨_, _, jl_cmp_l (mp := jl_m238) z2 en, z1⟩
  · subst es
    rw [if_pos rfl, if_neg y1.h7]
    obtain ⟨⟨K2, z1, z2⟩, z3⟩ := jfinF hs g1 y1 (y2.le (Nat.le_succ _) (Nat.le_refl _)) (fun j j0 j1 => by
      rw [y3 j, (hL.2.2.2.1.2 j j0 j1).1]
      exact (hL.2.2.2.1.2 j j0 j1).2)
    rw [z1, jo_bs, jo_bs, jo_bs]
    exact ⟨_, _, jl_cmp_l (mp := jl_m238) z3 rfl, z2⟩
/-- commit -/
theorem jcommit {W : jZW} {N : Nat} {a : Int} (hs : jSt K G N k W) (hk : k < 512) (ha : 0 ≤ a ∧ a < 4) (o : G 107 a = 1) {G0 : jg_G} (e0 : jg_u (jg_u G 92 0 0) 110 a (-1) = G0) : ∃ K1 q K2 b, fc20 K 2 a = some (K1, q) ∧ q ≠ 0 ∧ jc_i K1 63 4 = (N : Int) + 1 ∧ G0 92 12 = N ∧ N ≤ 925 ∧ (0 ≤ fr_no G0 2 a 92 6 ∧ fr_no G0 2 a 92 6 < 1000) ∧ 0 ≤ fr_no G0 2 a 92 13 ∧ fc13 K1 ((N : Int) + 1) = some (K2, b) ∧ ((b = 1 ∧ fr_ha (fr_no G0 2 a) ((N : Int) + 1) 92 7 = 0 ∧ ∃ K3, fc63 K2 a = some (K3, 0) ∧ jc_i K3 63 4 = (N : Int) + 1 ∧ jIn K3 (fr_cl (fr_ha (fr_no G0 2 a) ((N : Int) + 1)) a) (k + 1) ∧ fr_cl (fr_ha (fr_no G0 2 a) ((N : Int) + 1)) a 92 0 = 0) ∨ (b = 0 ∧ ¬ fr_ha (fr_no G0 2 a) ((N : Int) + 1) 92 7 = 0 ∧ (∃ K3, fc140 K2 (-4) = some (K3, -4) ∧ jIn K3 (fr_ha (fr_no G0 2 a) ((N : Int) + 1)) (k + 1)) ∧ fr_ha (fr_no G0 2 a) ((N : Int) + 1) 92 0 = 0)) := by
  have hL := hs.2.2.2.t 0
  obtain ⟨hY, hM, hz, hT, ⟨hWo, ρ, hρ⟩, hcl⟩ := hL
  have hg : ∀ n j, ¬ (n = 110 ∨ n = 111 ∨ (n = 92 ∧ j = 0) ∨ 112 ≤ n) → G0 n j = jg_u G 92 0 0 n j := fun n j h => by rw [← e0]; exact jg_uN (by omega)
  have g107 : ∀ s, G0 107 s = jg_u G 92 0 0 107 s := fun s => hg 107 s (by omega)
  have g110 : ∀ s, s ≠ a → G0 110 s = jg_u G 92 0 0 110 s := fun s hs => by rw [← e0]; exact jg_uI hs
  have g110a : G0 110 a = -1 := by rw [← e0]; exact jg_uH
  have g111 : ∀ s, G0 111 s = jg_u G 92 0 0 111 s := fun s => by rw [← e0]; exact jg_uN (by decide)
  have hl0 : jl_a (jg_u G 92 0 0) G0 N := fun m j e => hg m j (by omega)
  have o' : G0 107 a = 1 := by rw [g107, jg_uN (by decide)]; exact o
  have q := jph_110 (G := jg_u G 92 0 0) (N := N) (w := -1) ha
  rw [e0] at q
  have tm : jtm G0 N a ≤ jtm (jg_u G 92 0 0) N a := jtm_le (hl0.t a N (Int.le_refl _)) (g107 a) (Or.inr g110a)
  have hY0 : jY K G0 N k := hY.g hg
  have hM0 : jM G0 N k (W.1, 0, W.2.2) 223 := hM.g hg (fun k k0 k1 => by rw [g111]; exact hM.2.2.1 k k0 k1) (by have := hM.2.2.2.1; omega) ⟨by rw [← e0, jg_uN (by decide)]; exact hM.2.2.2.2.2.2.1, fun j => by rw [← e0, jg_uN (by decide)]; exact hM.2.2.2.2.2.2.2 j⟩ (Nat.le_refl _)
  have hN := hM0.len (by omega) (by decide)
  have tm1 : 1 ≤ jtm G0 N a := by
    unfold jtm
    rw [o', if_pos rfl]
    split
    · decide
    · exact Nat.le_refl _
  have n120 : 120 ≤ K.1.1 := hY.2.2.2.1.1
  clear e0 q
  obtain ⟨K1, q, a1, a2, a3, a4, a5, a6, a7, a8, a9, a10, a11⟩ := jnoted (w := 2) hY0 hM0 hN (Or.inl rfl) ha
  have h12 := hY0.h12
  have oo := fun (n : Nat) (j : Int) => fr_no_o (G := G0) (w := 2) (t := a) (n := n) (j := j)
  have sm := jtm_sum (G := G0) (N := N) ha
  have k5 := hM0.2.2.2.1
  rw [jph_tm] at k5
  have ec : (((N + 1 : Nat) : Nat) : Int) = (N : Int) + 1 := by omega
  have d1 := hY0.1.1.2.1
  have o6 : fr_no G0 2 a 92 6 = G0 92 6 := oo 92 6 (by omega) (by omega) (by omega)
  have o13 : fr_no G0 2 a 92 13 = G0 92 13 := oo 92 13 (by omega) (by omega) (by omega)
  have p107 : ∀ j, fr_no G0 2 a 107 j = G0 107 j := fun j => oo 107 j (by omega) (by omega) (by omega)
  have p110 : ∀ j, fr_no G0 2 a 110 j = G0 110 j := fun j => oo 110 j (by omega) (by omega) (by omega)
  have p111 : ∀ j, fr_no G0 2 a 111 j = G0 111 j := fun j => oo 111 j (by omega) (by omega) (by omega)
  have p108 : ∀ s, s ≠ a → fr_no G0 2 a 108 s = G0 108 s := fun s hs => oo 108 s (by omega) (by omega) (by omega)
  have p0 : fr_no G0 2 a 92 0 = G0 92 0 := oo 92 0 (by omega) (by omega) (by omega)
  have p3 : fr_no G0 2 a 92 3 = G0 92 3 := oo 92 3 (by omega) (by omega) (by omega)
  have p113 : ∀ j, fr_no G0 2 a 113 j = G0 113 j := fun j => oo 113 j (by omega) (by omega) (by omega)
  clear oo
  generalize hG1 : fr_no G0 2 a = G1 at *
  have tme : ∀ s, 0 ≤ s → s < 4 → s ≠ a → jtm G1 (N + 1) s = jtm G0 N s := fun s s0 s1 hs => by
    unfold jtm
    rw [a8 s s0 s1, if_neg hs, p107, p110]
  have eS : jsum (fun s => if s = a then 0 else jtm G1 (N + 1) s) 4 = jsum (fun s => if s = a then 0 else jtm G0 N s) 4 := jsum_e 4 (fun i hi => by
    show (if (i : Int) = a then 0 else jtm G1 (N + 1) i) = (if (i : Int) = a then 0 else jtm G0 N i)
    by_cases e : (i : Int) = a
    · rw [if_pos e, if_pos e]
    · rw [if_neg e, if_neg e, tme i (by omega) (by omega) e])
  have c2 := a9 2
  have c3 := a9 3
  have c0 := a9 0
  have c5 := a9 5
  have c4 := a9 4
  rw [if_pos rfl] at c2
  rw [if_neg (by decide)] at c3 c0 c5 c4
  have m6 := hM0.2.2.2.2.1
  have m7 := hM0.2.2.2.2.2.1
  have m8 := hM0.2.2.2.2.2.2
  have h62 : ∀ j, 0 ≤ j → j < 32 → -1 ≤ jc_i K1 62 j ∧ jc_i K1 62 j < 4 := fun j j0 j1 => by
    rw [a3.2.2.2 62 j (by omega) (by unfold jA_S; omega), (hT.2 j j0 j1).1]
    exact (hT.2 j j0 j1).2
  obtain ⟨K2, b, r1, r2, r3⟩ := jhard (r := (N : Int) + 1) a5 (fun k k0 k1 => by rw [p111]; exact hM0.2.2.1 k k0 k1) ⟨by omega, by omega⟩
  have g2 : jk_g jQX K K2 := (a3.mono (fun n e => Or.inl (Or.inl (Or.inl (Or.inl (by unfold jA_S at e; unfold jQ; omega)))))).trans ((jk_g.s r2).mono (fun n e => Or.inr (Or.inl (by unfold jF_n jS_n; omega))))
  refine ⟨K1, q, K2, b, a1, a2, a5.2.1.1.trans ec, h12, hN, by rw [o6]; exact d1.2.1, by rw [o13]; exact d1.2.2.1.1, r1, ?_⟩
  rcases r3 with ⟨eb, y, ai, an⟩ | ⟨eb, E, hl, hd, x3, x12, x0, x113⟩
  · generalize hG2 : fr_ha G1 ((N : Int) + 1) = G2 at *
    have hl : jl_a G1 G2 ((N + 1 : Nat) : Int) := fun m j e => an m (by omega) j
    have eS2 : jsum (fun s => if s = a then 0 else jtm G2 (N + 1) s) 4 = jsum (fun s => if s = a then 0 else jtm G1 (N + 1) s) 4 := jsum_e 4 (fun i hi => by
      show (if (i : Int) = a then 0 else jtm G2 (N + 1) i) = (if (i : Int) = a then 0 else jtm G1 (N + 1) i)
      unfold jtm
      rw [hl.t i (N + 1) (Int.le_refl _), an 107 (by decide), an 110 (by decide)])
    obtain ⟨K3, b1, b2, b3, b4⟩ := jclosedM (t := a) (κ := k + 1) (B := 223) (W := (W.1, 0, W.2.2)) y ⟨a6.1.a hl (Nat.le_refl _), a6.2.a hl (jd_m.same (fun j _ _ => an 93 (by decide) j)) (Nat.le_refl _)⟩ (fun s s0 s1 hs => by rw [an 108 (by decide), p108 s hs, hl.t s (N + 1) (Int.le_refl _), a8 s s0 s1, if_neg hs]; exact hM0.2.1 s s0 s1) (by rw [hl.t a (N + 1) (Int.le_refl _), a8 a ha.1 ha.2, if_pos rfl]) (fun k k0 k1 => by rw [an 111 (by decide), p111]; exact hM0.2.2.1 k k0 k1) (by
      rw [hl.cw 2 (N + 1) (Int.le_refl _), hl.cw 3 (N + 1) (Int.le_refl _), eS2, eS]
      omega) (by
      rw [hl.cw 0 (N + 1) (Int.le_refl _), hl.cw 5 (N + 1) (Int.le_refl _), hl.cw 4 (N + 1) (Int.le_refl _)]
      omega) ⟨by
      have : jP G2 = jP G1 := jP_same (fun i => an 97 (by decide) i) (ai 3 (by decide) (by decide) (by decide))
      omega, ⟨(ai 0 (by decide) (by decide) (by decide)).trans (p0.trans m8.1), fun j => (an 113 (by decide) j).trans ((p113 j).trans (m8.2 j))⟩⟩ ha
    have hc : jcl (jg_u G 92 0 0) (fr_cl G2 a) a := by
      refine ⟨fun s s0 s1 => ?_, fun s s0 s1 => ?_, fun j j0 j1 => ?_⟩
      · rw [fr_cl_7 (by decide), an 107 (by decide), p107, g107]
      · rw [fr_cl_10, an 110 (by decide), p110]
        by_cases e : s = a
        · rw [if_pos (Or.inl e), if_pos (Or.inl e)]
        · rw [g110 s e]
          by_cases e2 : jg_u G 92 0 0 110 s = a
          · rw [if_pos (Or.inr ⟨s0, s1, e2⟩), if_pos (Or.inr e2)]
          · rw [if_neg (fun z => z.elim e (fun y => e2 y.2.2)), if_neg (fun z => z.elim e e2)]
      · rw [fr_cl_11, an 111 (by decide), p111, g111]
        by_cases e : jg_u G 92 0 0 111 j = a
        · rw [if_pos ⟨j0, j1, e⟩, if_pos e]
        · rw [if_neg (fun z => e z.2.2), if_neg e]
    have hl3 : jl_a G2 (fr_cl G2 a) ((N + 1 : Nat) : Int) := fun m j e => fr_cl_o (by omega)
    have g3 : jk_g jQX K K3 := g2.trans ((jk_g.s b2).mono (fun n e => Or.inl (Or.inr e)))
    have n1201 : 120 ≤ K1.1.1 := a5.2.2.2.1.1
    obtain ⟨z1, z2⟩ := jfinA (N' := N + 1) hs g3 (show jLv K3 (fr_cl G2 a) (N + 1) k (k + 1) (W.1, 0, W.2.2) 223 from ⟨b3, b4, hz.same (fun z => by rw [hl3.h z (N + 1) (Int.le_refl _), hl.h z (N + 1) (Int.le_refl _), a10, hl0.h z N (Int.le_refl _)]), jTr.fin2 hT (fun n hn j => by rw [r2.2 n (by omega), a3.2.2.2 n j (by omega) (by unfold jA_S; omega)]) (fun j => ⟨(an 107 (by decide) j).trans ((p107 j).trans (g107 j)), fun hj => (an 110 (by decide) j).trans ((p110 j).trans (g110 j hj)), (an 111 (by decide) j).trans ((p111 j).trans (g111 j))⟩) ha b1, ⟨hWo.cl hc (fun j j0 j1 => (hT.2 j j0 j1).2.2) (fun s s0 s1 => (hT.1 s s0 s1).2.2.2.2), ρ, fun s s0 s1 h0 => jrho.cl (t := -1) hc (fun s s0 s1 _ h0 => hρ s s0 s1 h0) s s0 s1 (by omega) h0⟩, fun s s0 s1 h0 => by
      rw [hl3.t s (N + 1) (Int.le_refl _), hl.t s (N + 1) (Int.le_refl _), a8 s s0 s1]
      by_cases hsa : s = a
      · rw [if_pos hsa]
      · rw [hc.1 s s0 s1, if_neg hsa] at h0
        rw [if_neg hsa, hl0.t s N (Int.le_refl _)]
        exact hcl s s0 s1 h0⟩)
    exact Or.inl ⟨eb, y.h7, K3, b1, b3.2.1.1.trans ec, z1, z2⟩
  · obtain ⟨z1, z2⟩ := jfinF hs g2 E (jMf.mk2 (N := N) (W := (W.1, 0, W.2.2)) ⟨a6.1.a hl (Nat.le_refl _), a6.2.a hl hd (Nat.le_refl _)⟩ (by
      rw [hl.ph0 (Int.le_refl _)]
      unfold jph0
      have := jsum_le (f := fun s => if 0 < jt G1 s (N + 1) then 2 else 0) (g := fun s => if s = a then 0 else jtm G1 (N + 1) s) 4 (fun i hi => by
        show (if 0 < jt G1 i (N + 1) then 2 else 0) ≤ (if (i : Int) = a then 0 else jtm G1 (N + 1) i)
        by_cases e : (i : Int) = a
        · rw [if_pos e, e, a8 a ha.1 ha.2, if_pos rfl, if_neg (by decide)]
          exact Nat.le_refl _
        · rw [if_neg e]
          unfold jtm
          split
          · exact Nat.le_refl _
          · exact Nat.zero_le _)
      omega) (by
      rw [hl.cw 0 (N + 1) (Int.le_refl _), hl.cw 5 (N + 1) (Int.le_refl _), hl.cw 4 (N + 1) (Int.le_refl _)]
      omega) E (by omega) (by
      have := jP_ge G0
      show _ ≤ (W.1 : Int) + 3300
      have m7' : jP G0 ≤ W.1 + 3 * N := m7
      omega) ⟨x0.trans (p0.trans m8.1), fun j => (x113 j).trans ((p113 j).trans (m8.2 j))⟩) (fun j j0 j1 => by rw [r2.2 62 (by decide)]; exact h62 j j0 j1)
    exact Or.inr ⟨eb, E.h7, z1, z2⟩
theorem jcase6 (h : jIn K G k) (hk : k < 512) (a b e : Int) : ∃ K' G', js6 K G a b e = some (K', G') ∧ jIn K' G' (k + 1) := by
  unfold js6 fc113 fo198
  by_cases a0 : a < 0
  · rw [if_pos a0, if_pos a0, jo_bs, jo_bs]
    exact ⟨_, _, jl_cmp_r (mp := jl_m237) (by decide) jg_uH, h.thr 1⟩
  rw [if_neg a0, if_neg a0]
  by_cases a4 : a < 4
  case neg =>
    rw [if_neg a4, if_pos (show 3 < a by omega), jo_bs, jo_bs]
    exact ⟨_, _, jl_cmp_r (mp := jl_m237) (by decide) jg_uH, h.thr 1⟩
  rw [if_pos a4, if_neg (show ¬ 3 < a by omega)]
  have ha : 0 ≤ a ∧ a < 4 := ⟨by omega, a4⟩
  by_cases d : G 92 7 = 0
  case neg =>
    have d' : ¬ jc_i K 2 8 = 0 := fun z => d (h.down.1 z)
    rw [if_neg d', if_neg d, jo_bs, jo_bs]
    exact ⟨_, _, jl_cmp_r (mp := jl_m237) (by decide) jg_uH, h.thr 2⟩
  obtain ⟨N, W, hs⟩ := h.st d
  obtain ⟨o1, o2⟩ := hs.t ha
  rw [if_pos hs.2.1, if_pos ha, o1, if_pos d, if_pos ha]
  rcases o2 with o | o
  · rw [if_pos o, if_pos o, jo_bs, jo_bs]
    exact ⟨_, _, jl_cmp_r (mp := jl_m237) (by decide) jg_uH, h.thr 2⟩
  rw [if_neg (show ¬ G 107 a = 0 by omega), if_neg (show ¬ G 107 a = 0 by omega)]
  obtain ⟨K1, q, K2, b1, r1, r2, r3, r4, r5, r6, r7, r8, r9⟩ := jcommit hs hk ha o rfl
  generalize jg_u (jg_u G 92 0 0) 110 a (-1) = G0 at *
  rw [r1, jo_bs]
  dsimp only
  rw [if_neg r2, r3, r8, jo_bs]
  dsimp only
  rw [r4, if_pos (show (0 : Int) ≤ N ∧ (N : Int) < 1500 by omega), if_pos (show -1 ≤ a ∧ a < 4 by omega)]
  unfold jo_l
  dsimp only
  rw [if_pos (show 0 ≤ (N : Int) + 1 ∧ (N : Int) + 1 < 1501 by omega), if_pos r6, if_pos r7]
  rcases r9 with ⟨eb, z1, K3, z2, z3, z4, z5⟩ | ⟨eb, z1, ⟨K3, z2, z3⟩, z4⟩
  · subst eb
    rw [if_neg (show ¬ (1 : Int) = 0 by decide), z2, jo_bs, jo_bs, if_pos z1, if_pos ha, jo_bs]
    exact ⟨_, _, jl_cmp_l (mp := jl_m237) z5 z3, z4⟩
  · subst eb
    rw [if_pos rfl, z2, jo_bs, jo_bs, if_neg z1, jo_bs]
    exact ⟨_, _, jl_cmp_l (mp := jl_m237) z4 rfl, z3⟩
end Cu
