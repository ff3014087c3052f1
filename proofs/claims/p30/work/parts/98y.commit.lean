/-! THE LOG MADE DURABLE; COMMIT, UNDO -/
theorem jY.dsk {K K' : jc_K} {G G' : jg_G} {N x : Nat} (hY : jY K G N x) (s2 : jk_s (fun n => n = 3) K K') (hk : ∀ i, i ≠ 8 → i ≠ 9 → i ≠ 10 → jc_i K' 3 i = jc_i K 3 i) (ai : ∀ i, i ≠ 5 → i ≠ 6 → i ≠ 13 → G' 92 i = G 92 i) (an : ∀ n, n ≠ 92 → ∀ j, G' n j = G n j) (dn : jc_i K' 3 8 = G' 92 13 ∧ jc_i K' 3 9 = G' 92 5 ∧ jc_i K' 3 10 = G' 92 6) (g6 : 0 ≤ G' 92 6 ∧ G' 92 6 < 1000) (g13 : G 92 13 ≤ G' 92 13 ∧ G' 92 13 ≤ N) (g5 : jb_r (G' 92 5)) : jY K' G' N x := by
  obtain ⟨⟨hc, ⟨⟨n8, n9, n10⟩, n6, n13, n3⟩, hU⟩, ⟨h7, h5, h12, hN, h13⟩, ca, c2, c3, c4⟩ := hY.1
  have hl : jl_s G G' := ⟨fun m a b j => an m (by omega) j, fun j _ => an 93 (by decide) j⟩
  have w : jw_f G G' := ⟨fun n hn _ j => an n (by omega) j, fun j _ => an 93 (by decide) j, fun i i3 i4 i5 i6 i8 i13 _ => ai i i5 i6 i13, g13.1, jd_m.same (fun j _ _ => an 93 (by decide) j)⟩
  refine hY.f (S := fun n => n = 3) ⟨⟨?_, ⟨dn, g6, ?_, ?_⟩, fun p a b => by rw [an 94 (by decide), an 94 (by decide)]; exact hU p a b⟩, ⟨by rw [ai 7 (by decide) (by decide) (by decide)]; exact h7, g5, by rw [ai 12 (by decide) (by decide) (by decide)]; exact h12, hN, g13.2⟩, ⟨?_, fun f f0 f1 => ?_, fun f f' x0 x1 y0 y1 hz hw => ?_⟩, fun f f0 f1 hf => ?_, fun f f0 f1 hf => ?_, fun p p0 p1 hp => ?_⟩ s2 (fun n e => by omega) w
  · refine hc.keep g13.1 ⟨s2.1, fun i hi => hk i (by omega) (by omega) (by omega), fun n a b i => s2.2 n (by omega) i⟩ ?_ (by rw [ai 3 (by decide) (by decide) (by decide)]; exact Int.le_refl _) (ai 4 (by decide) (by decide) (by decide)) hl (fun j _ _ => an 93 (by decide) j) (fun i => an 94 (by decide) i)
    rw [hk 7 (by decide) (by decide) (by decide), ai 3 (by decide) (by decide) (by decide)]
    exact hc.1.1
  · omega
  · rw [ai 3 (by decide) (by decide) (by decide)]; exact n3
  · rw [s2.2 66 (by decide), ai 8 (by decide) (by decide) (by decide)]; exact ca.1
  · rw [s2.2 68 (by decide), s2.2 69 (by decide), s2.2 70 (by decide), an 95 (by decide), an 96 (by decide), an 97 (by decide)]
    obtain ⟨u1, u2, u3, u4⟩ := ca.2.1 f f0 f1
    exact ⟨u1, u2, u3, s2.pg u4⟩
  · rw [an 95 (by decide)] at hz hw
    rw [an 95 (by decide)] at hw
    exact ca.2.2 f f' x0 x1 y0 y1 hz hw
  · rw [an 95 (by decide)] at hf ⊢
    obtain ⟨d1, d2, d3, d4⟩ := c2 f f0 f1 hf
    exact ⟨by rw [an 93 (by decide)]; exact d1, d2.s hl (fun j _ _ => an 93 (by decide) j), d3.s hl (fun j _ _ => an 93 (by decide) j) s2 (by omega) (by omega), d4.s hl (an 97 (by decide) f) (an 93 (by decide) _)⟩
  · rw [an 95 (by decide)] at hf
    rw [an 97 (by decide)]
    exact c3 f f0 f1 hf
  · rw [an 93 (by decide)]
    exact c4 p p0 p1 (fun f f0 f1 => by rw [← an 95 (by decide)]; exact hp f f0 f1)
theorem jhard {K : jc_K} {G : jg_G} {N x : Nat} {r : Int} (hY : jY K G N x) (hh : ∀ k, 0 ≤ k → k < 32 → -1 ≤ G 111 k ∧ G 111 k < 4) (hr : 0 ≤ r ∧ r ≤ N) : ∃ K' b, fc13 K r = some (K', b) ∧ jk_s (fun n => n = 3) K K' ∧ ((b = 1 ∧ jY K' (fr_ha G r) N x ∧ (∀ i, i ≠ 5 → i ≠ 6 → i ≠ 13 → fr_ha G r 92 i = G 92 i) ∧ (∀ n, n ≠ 92 → ∀ j, fr_ha G r n j = G n j) ∧ r ≤ fr_ha G r 92 13) ∨ (b = 0 ∧ jE K' (fr_ha G r) x ∧ jl_a G (fr_ha G r) N ∧ jd_m G (fr_ha G r) ∧ fr_ha G r 92 3 = G 92 3 ∧ (fr_ha G r 92 12 ≤ N ∧ (fr_ha G r 92 12 < r ∧ G 92 13 ≤ fr_ha G r 92 12)) ∧ fr_ha G r 92 0 = G 92 0 ∧ ∀ j, fr_ha G r 113 j = G 113 j)) := by
  obtain ⟨⟨hc, ⟨⟨n8, n9, n10⟩, n6, n13, n3⟩, hU⟩, ⟨h7, h5, h12, hN, h13⟩, ca, c2, c3, c4⟩ := hY.1
  have due : jd_due G r = if jc_i K 3 8 < r then r - jc_i K 3 8 else 0 := by unfold jd_due; rw [n8]
  have due0 : 0 ≤ jd_due G r ∧ jd_due G r ≤ 1100 ∧ (G 92 13 + jd_due G r ≤ N) := by unfold jd_due; split <;> omega
  obtain ⟨K1, r1, s1, e10, e9, ei⟩ := jk_fc12 (K := K) (w := jd_due G r) ⟨by omega, by omega⟩ n10 n6
  have w7 := hc.1.1
  by_cases hA : G 92 13 < r ∧ 1 ≤ G 92 6 ∧ G 92 6 ≤ r - G 92 13
  · obtain ⟨a1, a2, a3⟩ := hA
    have hdue : jd_due G r = r - G 92 13 := by unfold jd_due; rw [if_pos a1]
    have t2 : 1 ≤ G 92 6 ∧ G 92 6 ≤ jd_due G r := ⟨a2, by omega⟩
    rw [if_pos t2] at r1 e10 e9
    have e8 : jc_i K1 3 8 = G 92 13 := (ei 8 (by decide) (by decide)).trans n8
    have e13 : fc13 K r = some (jc_ui K1 3 8 (G 92 13 + (G 92 6 - 1)), 0) := by
      unfold fc13
      rw [n8, if_neg (by omega), if_pos (show -2147483648 ≤ (r - G 92 13) ∧ (r - G 92 13) < 2147483648 by omega), ← hdue, r1, jo_bs]
      dsimp only
      rw [e8, if_pos (by omega), if_neg (by omega)]
    have s2 : jk_s (fun n => n = 3) K (jc_ui K1 3 8 (G 92 13 + (G 92 6 - 1))) := s1.trans (jk_s.u rfl)
    have eG : fr_ha G r = fr_fw (jg_u (fr_w G (G 92 6 - 1)) 92 13 (G 92 13 + (G 92 6 - 1))) := by
      unfold fr_ha
      rw [if_pos ⟨h7, a1⟩, if_pos ⟨a2, a3⟩]
    have k := fr_fw_k (jg_u (fr_w G (G 92 6 - 1)) 92 13 (G 92 13 + (G 92 6 - 1)))
    have g5 : fr_ha G r 92 5 = jb_m (G 92 5 + (G 92 6 - 1)) := by
      rw [eG, k.1 5 (by decide) (by decide) (by decide) (by decide), jg_uI (by decide)]
      exact jg_uH
    have g13 : fr_ha G r 92 13 = G 92 13 + (G 92 6 - 1) := by
      rw [eG, k.1 13 (by decide) (by decide) (by decide) (by decide), jg_uH]
    have gi : ∀ i, i ≠ 5 → i ≠ 6 → i ≠ 7 → i ≠ 8 → i ≠ 12 → i ≠ 13 → fr_ha G r 92 i = G 92 i := fun i i5 i6 i7 i8 i12 i13 => by
      rw [eG, k.1 i i6 i7 i8 i12, jg_uI i13]
      exact (jg_uI i5).trans (jg_uI i6)
    have gn : ∀ n, (n = 93 ∨ n = 94 ∨ (98 ≤ n ∧ n ≤ 106) ∨ 112 ≤ n) → ∀ j, fr_ha G r n j = G n j := fun n h j => by
      rw [eG, k.2 n h j, jg_uN (by omega)]
      exact (jg_uN (by omega)).trans (jg_uN (by omega))
    have g6 : fr_ha G r 92 6 = 0 := by rw [eG]; exact fr_fw6 _
    have X : jXf (jc_ui K1 3 8 (G 92 13 + (G 92 6 - 1))) (fr_ha G r) G := by
      refine ⟨⟨?_, ⟨⟨?_, ?_, ?_⟩, ?_, ?_, ?_⟩, ?_⟩, _, _, eG, fun _ _ _ _ => rfl, ⟨fun n hn h2 j => ?_, fun j _ => ?_, fun i i3 i4 i5 i6 i8 i13 _ => ?_, ?_, jd_m.same (fun j _ _ => ?_)⟩, ?_⟩
      · rw [g13]
        refine hc.keep (by omega) ⟨s2.1, fun i hi => ?_, fun n a b i => s2.2 n (by omega) i⟩ ?_ (by rw [gi 3 (by decide) (by decide) (by decide) (by decide) (by decide) (by decide)]; exact Int.le_refl _) (gi 4 (by decide) (by decide) (by decide) (by decide) (by decide) (by decide)) ⟨fun m a b j => gn m (by omega) j, fun j _ => gn 93 (by decide) j⟩ (fun j _ _ => gn 93 (by decide) j) (fun i => gn 94 (by decide) i)
        · rw [jc_uI (by omega), ei i (by omega) (by omega)]
        · rw [jc_uI (by decide), ei 7 (by decide) (by decide), gi 3 (by decide) (by decide) (by decide) (by decide) (by decide) (by decide)]
          exact w7
      · rw [jc_uH, g13]
      · rw [jc_uI (by decide), e9, g5, n9]
      · rw [jc_uI (by decide), e10, g6]
      · rw [g6]; decide
      · rw [g13]; omega
      · rw [gi 3 (by decide) (by decide) (by decide) (by decide) (by decide) (by decide)]; exact n3
      · rw [g5]; exact jb_m_r _
      · rw [jg_uN (by omega)]
        exact (jg_uN (by omega)).trans (jg_uN (by omega))
      · rw [jg_uN (by decide)]
        exact (jg_uN (by decide)).trans (jg_uN (by decide))
      · rw [jg_uI i13]
        exact (jg_uI i5).trans (jg_uI i6)
      · rw [jg_uH]; omega
      · rw [jg_uN (by decide)]
        exact (jg_uN (by decide)).trans (jg_uN (by decide))
      · rw [jg_uH, jg_uI (by decide)]
        have : fr_w G (G 92 6 - 1) 92 12 = G 92 12 := (jg_uI (by decide)).trans (jg_uI (by decide))
        rw [this]; omega
    have E := jE.of (x := x) hY.2.1.2 (by omega) hN (by rw [hY.2.1.1]; omega) hY.2.2.2.1 hY.2.2.2.2 hh s2 (fun n e => by omega) X (fun f f0 f1 => (ca.2.1 f f0 f1).2.2.2)
    exact ⟨_, 0, e13, s2, Or.inr ⟨rfl, E, fun m j e => gn m (by omega) j, jd_m.same (fun j _ _ => gn 93 (by decide) j), gi 3 (by decide) (by decide) (by decide) (by decide) (by decide) (by decide), ⟨by rw [E.2.1.2.1, g13]; omega, by rw [E.2.1.2.1, g13]; omega, by rw [E.2.1.2.1, g13]; omega⟩, gi 0 (by decide) (by decide) (by decide) (by decide) (by decide) (by decide), gn 113 (by decide)⟩⟩
  · obtain ⟨a13, a6, a5, ai, an⟩ := jx_ha (r := r) h7 h5 hA
    have tn : ¬ (1 ≤ G 92 6 ∧ G 92 6 ≤ jd_due G r) := fun z => hA (by
      unfold jd_due at z
      by_cases c : G 92 13 < r
      · rw [if_pos c] at z; exact ⟨c, z⟩
      · rw [if_neg c] at z; omega)
    rw [if_neg tn] at r1 e10 e9
    have e8 : jc_i K1 3 8 = G 92 13 := (ei 8 (by decide) (by decide)).trans n8
    have e13 : fc13 K r = some (jc_ui K1 3 8 (G 92 13 + jd_due G r), 1) := by
      unfold fc13
      by_cases c : r ≤ G 92 13
      · have hd0 : jd_due G r = 0 := by unfold jd_due; rw [if_neg (by omega)]
        rw [hd0] at r1 ⊢
        rw [n8, if_pos c, r1, jo_bs]
        dsimp only
        rw [e8, if_pos (by omega), if_pos rfl]
      · have hd0 : jd_due G r = r - G 92 13 := by unfold jd_due; rw [if_pos (by omega)]
        rw [n8, if_neg c, if_pos (show -2147483648 ≤ (r - G 92 13) ∧ (r - G 92 13) < 2147483648 by omega), ← hd0, r1, jo_bs]
        dsimp only
        rw [e8, if_pos (by omega), if_pos rfl]
    have s2 : jk_s (fun n => n = 3) K (jc_ui K1 3 8 (G 92 13 + jd_due G r)) := s1.trans (jk_s.u rfl)
    exact ⟨_, 1, e13, s2, Or.inl ⟨rfl, hY.dsk s2 (fun i i8 i9 i10 => by rw [jc_uI i8, ei i i9 i10]) ai an ⟨by rw [jc_uH, a13], by rw [jc_uI (by decide), e9, a5, n9], by rw [jc_uI (by decide), e10, a6]⟩ (by rw [a6]; split <;> omega) ⟨by rw [a13]; omega, by rw [a13]; omega⟩ (by rw [a5]; exact jb_m_r _), ai, an, by rw [a13]; unfold jd_due; split <;> omega⟩⟩
theorem jTr.fin2 {K K2 K3 : jc_K} {G G1 : jg_G} {t : Int} (hT : jTr K G) (hK : ∀ n, n = 58 ∨ n = 61 ∨ n = 62 → ∀ j, jc_i K2 n j = jc_i K n j) (hG : ∀ j, G1 107 j = G 107 j ∧ (j ≠ t → G1 110 j = G 110 j) ∧ G1 111 j = G 111 j) (ht : 0 ≤ t ∧ t < 4) (hf : fc63 K2 t = some (K3, 0)) : jTr K3 (fr_cl G1 t) := by
  obtain ⟨K', a1, a2, a3, a4, a5, a6⟩ := jk_fc63 (K := K2) ht
  rw [hf] at a1
  cases a1
  refine ⟨fun s s0 s1 => ?_, fun k k0 k1 => ?_⟩
  · obtain ⟨b1, b2, b3, b4, b5⟩ := hT.1 s s0 s1
    rw [a3, a5, hK 58 (by decide), hK 61 (by decide), fr_cl_7 (by decide), fr_cl_10, (hG s).1]
    by_cases e : s = t
    · rw [if_pos e, if_pos e, if_pos (Or.inl e), if_pos (Or.inl e)]
      exact ⟨rfl, Or.inl rfl, rfl, by decide, by decide⟩
    · rw [if_neg e, if_neg e, (hG s).2.1 e, b3]
      refine ⟨b1, b2, rfl, ?_, ?_⟩ <;> split <;> omega
  · obtain ⟨b1, b2, b3⟩ := hT.2 k k0 k1
    rw [a6, fr_cl_11, hK 62 (by decide), (hG k).2.2, b1]
    refine ⟨rfl, ?_, ?_⟩ <;> split <;> omega
section Cu
variable {K : jc_K} {G : jg_G} {N k : Nat} {W : jZW} {a : Int}
/-- undo -/
theorem jundo (hs : jSt K G N k W) (hk : k < 512) (ha : 0 ≤ a ∧ a < 4) (o : G 107 a = 1) : ∃ K' c G', fc114 K a = some (K', .inl c) ∧ ((c = -4 ∧ jSf K' G' (k + 1) (W.1, 0, W.2.2) ∧ G' 92 6 = 0) ∨ (c ≠ -4 ∧ ∃ N', jSt K' G' N' (k + 1) (W.1, 0, W.2.2) ∧ c = (jzL (jg_u G 92 0 0) a N).length ∧ jzV (jg_u G 92 0 0) N G' N' a)) := by
  obtain ⟨o1, _⟩ := hs.t ha
  have hW : W.1 ≤ 2000000000 := by have := hs.2.2.1; omega
  have hL := hs.2.2.2.t 0
  have h7 : G 92 7 = 0 := hs.2.2.2.1.h7
  have o' : jg_u G 92 0 0 107 a = 1 := by rw [jg_uN (by decide)]; exact o
  have tm : 1 ≤ jtm (jg_u G 92 0 0) N a := by
    unfold jtm
    rw [o', if_pos rfl]
    split
    · decide
    · split <;> decide
  have f0 : jf6 G (jg_u G 92 0 0) := (jf6.refl G).u (Or.inr (by decide))
  generalize jg_u G 92 0 0 = G0 at *
  obtain ⟨K0, K1, G1, st, n, r1, r2, r3, r4, r5⟩ := jua hL.1 hL.2.1 (by omega) (by decide) hW hL.2.2.1 hL.2.2.2.1 ha
  have f1 : jf6 G G1 := f0.trans (f6_188 _ _ _ r3)
  have g1 : jk_g jQX K K1 := r4.mono (fun n e => Or.inl e)
  have st0 : fc114 K a = ((fc90 K a).bind fun x6 => (fc92 (x6.1) 0 1).bind fun x8 => if x8.2 = 0 then ((fc140 (x8.1) (-4)).bind fun x11 => some (x11.1, .inl (x11.2))) else ((fc140 (x8.1) (jc_i (x8.1) 81 4)).bind fun x13 => some (x13.1, .inl (x13.2)))) := by
    unfold fc114
    rw [if_neg (by omega), if_pos ha.2, if_pos hs.2.1, if_pos ha, o1, if_neg (by omega)]
  rw [st0, r1, jo_bs]
  dsimp only
  rw [r2, jo_bs]
  dsimp only
  rcases r5 with ⟨es, en, N1, y1, y2, y3, y4, y5, y6, y7, y8, y9, y10, y11, y12, y13⟩ | ⟨es, y1, y2, y3⟩
  · subst es
    have hn : jc_i K1 81 4 ≠ -4 := by
      rw [en]
      have := j188p r3
      omega
    rw [if_neg (show ¬ (1 : Int) = 0 by decide), jtold_a hn, jo_bs]
    obtain ⟨hWo, ρ, hρ⟩ := hL.2.2.2.2.1
    have z := jfinA (N' := N1) hs g1 (show jLv K1 G1 N1 k (k + 1) (W.1, 0, W.2.2) 223 from ⟨y1, y2.le (by omega) (Nat.le_refl _), y3, y4, ⟨hWo.cl y5 (fun j j0 j1 => (hL.2.2.2.1.2 j j0 j1).2.2) (fun s s0 s1 => (hL.2.2.2.1.1 s s0 s1).2.2.2.2), ρ, fun s s0 s1 h0 => jrho.cl (t := -1) y5 (fun s s0 s1 _ h0 => hρ s s0 s1 h0) s s0 s1 (by omega) h0⟩, fun s s0 s1 h0 => by
      by_cases hsa : s = a
      · rw [hsa]; exact y6
      · rw [y5.1 s s0 s1, if_neg hsa] at h0
        rw [y7 s s0 s1 hsa]
        exact hL.2.2.2.2.2 s s0 s1 h0⟩)
    exact ⟨K1, n, G1, by rw [en], Or.inr ⟨by rw [← en]; exact hn, N1, z, y11, jzV.of hL.2.1 y2 y5 y6 y7 y9 y10 y12 y13⟩⟩
  · subst es
    rw [if_pos rfl]
    obtain ⟨K2, z1, z2⟩ := jfinF hs g1 y1 (y2.le (Nat.le_succ _) (Nat.le_refl _)) (fun j j0 j1 => by
      rw [y3 j, (hL.2.2.2.1.2 j j0 j1).1]
      exact (hL.2.2.2.1.2 j j0 j1).2)
    rw [z1, jo_bs]
    exact ⟨K2, -4, G1, rfl, Or.inl ⟨rfl, z2, f1.2.1 h7 y1.h7⟩⟩
end Cu
