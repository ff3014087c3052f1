/-! READ, PUT, TAKE -/
theorem jLv.f {K K' : jc_K} {G G' : jg_G} {N N' x κ κ' B B' : Nat} {W : jZW} {S : Nat → Prop} (h : jLv K G N x κ W B) (hY : jY K' G' N' x) (hM : jM G' N' κ' W B') (hz : jT_z (fun z => jh G' N' z)) (s : jk_g S K K') (hS : ¬ S 58 ∧ ¬ S 61 ∧ ¬ S 62) (g : ∀ j, G' 107 j = G 107 j ∧ G' 110 j = G 110 j ∧ G' 111 j = G 111 j) (hj : ∀ s, 0 ≤ s → s < 4 → G 107 s = 0 → jt G' s N' = jt G s N) : jLv K' G' N' x κ' W B' :=
  ⟨hY, hM, hz, h.2.2.2.1.s s h.1.2.2.2.1.1 hS g, jwt_e h.2.2.2.2.1 g, fun s s0 s1 h0 => by
    rw [(g s).1] at h0
    rw [hj s s0 s1 h0]
    exact h.2.2.2.2.2 s s0 s1 h0⟩
theorem jw_f.tr {G G' : jg_G} (w : jw_f G G') : ∀ j, G' 107 j = G 107 j ∧ G' 110 j = G 110 j ∧ G' 111 j = G 111 j := fun j => ⟨w.1 107 (by decide) (by decide) j, w.1 110 (by decide) (by decide) j, w.1 111 (by decide) (by decide) j⟩
theorem jF_n3 : ¬ jF_n 58 ∧ ¬ jF_n 61 ∧ ¬ jF_n 62 := by
  refine ⟨?_, ?_, ?_⟩ <;> (intro h; unfold jF_n jS_n at h; omega)
theorem jQ3 : ¬ jQ 58 ∧ ¬ jQ 61 ∧ ¬ jQ 62 := by
  refine ⟨?_, ?_, ?_⟩ <;> (intro h; unfold jQ jS_n at h; omega)
theorem jQF3 : ¬ jQF 58 ∧ ¬ jQF 61 ∧ ¬ jQF 62 := by
  refine ⟨?_, ?_, ?_⟩ <;> (intro h; unfold jQF jF_n jQ jS_n at h; omega)
theorem jQ93 : ¬ jQ9 58 ∧ ¬ jQ9 61 ∧ ¬ jQ9 62 := by
  refine ⟨?_, ?_, ?_⟩ <;> (intro h; unfold jQ9 jQ jS_n at h; omega)
/-- the value at the end of the way -/
theorem jW.val {K : jc_K} {G : jg_G} {N x L : Nat} {key : Int} (hY : jY K G N x) (w : jW K G N key L) (hL : L < 24) : ∃ v kk, fc72 K key = some (K, v) ∧ v = jp_v (jh G N (G 112 L)) key ∧ (-1 ≤ v ∧ v < 1000) ∧ ((0 ≤ fr_ro G (G 112 L) ∧ fr_ro G (G 112 L) < 54) ∧ 0 ≤ G 93 (67 * fr_ro G (G 112 L) + 2) ∧ G 93 (67 * fr_ro G (G 112 L) + 2) ≤ 32) ∧ fr_pl G (fr_ro G (G 112 L)) key = kk ∧ ((0 ≤ kk ∧ kk < 32 ∧ G 93 (67 * fr_ro G (G 112 L) + 4 + 2 * kk) = v ∧ v ≠ -1) ∨ (kk < 0 ∧ v = -1)) := by
  have pb := (w.2.1 L (by omega) (Int.le_refl _)).2
  have wl := w.2.2.2.2
  obtain ⟨s1, s2, s3, s4, s5, s6⟩ := hY.seen pb
  obtain ⟨kc, vc, c1, c2⟩ := jk_fc42 (x := key) s6 wl s3
  obtain ⟨kr, d1, d2⟩ := jr_pl (x := key) s5 s6.1.1 s6.1.2
  have ekr : kr = kc := jp_pl_u d1 c2.1
  subst ekr
  have e72 : fc72 K key = some (K, vc) := by
    unfold fc72
    rw [w.end' hL, jo_bs]
    dsimp only
    rw [s1, jo_bs]
    dsimp only
    rw [if_neg (by omega), if_pos s3.1, c1, jo_bs]
  have k0 := d1.1
  have b32 := s6.1
  refine ⟨vc, _, e72, c2.2.trans (jp_v_e s6 c2.1), ?_, ⟨s4, by rw [s5.2.1]; exact s6.1⟩, d2, ?_⟩
  · rw [c2.2]
    split
    · rename_i h
      have := (jp_cell s6 (i := kr) k0.1 h.1).2
      rw [jp_leaf wl] at this
      omega
    · omega
  · by_cases h : kr < (jh G N (G 112 L)).2.1 ∧ (jh G N (G 112 L)).2.2.1 kr = key
    · have := (jp_cell s6 (i := kr) k0.1 h.1).2
      rw [if_pos h]
      have e := c2.2
      rw [if_pos h] at e
      exact Or.inl ⟨k0.1, by omega, by rw [(s5.2.2 kr k0.1 h.1).2, e], by omega⟩
    · rw [if_neg h]
      have e := c2.2
      rw [if_neg h] at e
      exact Or.inr ⟨by omega, e⟩
/-- what a call on a key comes to -/
def jRs (K' : jc_K) (G' : jg_G) (k : Nat) (W : jZW) (c a b : Int) (G : jg_G) (N : Nat) (ok : jg_G → Nat → jg_G → Nat → Prop) : Prop := (c = -4 ∧ jSf K' G' (k + 1) (W.1, 0, W.2.2) ∧ G' 92 6 = 0) ∨ (c ≠ -4 ∧ ∃ N' due Gl Nl, jSt K' G' N' (k + 1) (W.1, 0, W.2.2) ∧ jLk a b 4 (jg_u (jg_u G 92 0 0) 110 a (-1)) N Gl Nl due ∧ ((due < 0 ∧ c = due ∧ G' = Gl ∧ N' = Nl) ∨ (due = 0 ∧ ok Gl Nl G' N')))
/-- nobody else has touched what one has locked -/
theorem jLv.hot {K : jc_K} {G : jg_G} {N x κ B : Nat} {W : jZW} {a key : Int} (h : jLv K G N x κ W B) (ha : 0 ≤ a ∧ a < 4) (hk : 0 ≤ key ∧ key < 32) (hl : G 111 key = a) : ∀ s, 0 ≤ s → s < 4 → s ≠ a → jpp G key s N = -2 := fun s s0 s1 hs => by
  rcases (h.2.2.2.1.1 s s0 s1).2.1 with o | o
  · exact jpp_jt N (h.2.2.2.2.2 s s0 s1 o)
  · by_cases e : jpp G key s N = -2
    · exact e
    · have := h.2.1.2.2.2.2.2.2.2.2.1 key s hk.1 hk.2 s0 s1 o e
      omega
/-- the value at the end of the way is the one by the log -/
theorem jW.A {K : jc_K} {G : jg_G} {N κ B L : Nat} {W : jZW} {key : Int} (hM : jM G N κ W B) (w : jW K G N key L) (hL : L < 24) (hk : 0 ≤ key ∧ key < 32) : jp_v (jh G N (G 112 L)) key = jzA G key N := by
  obtain ⟨lo, hi, rk, hT⟩ := hM.1.1.2.1 N (Nat.le_refl _)
  exact jz_val (g := fun z => jh G N z) (P := fun j => G 112 j) (L := L) hT hM.1.1.E hk w.2.2.1 w.2.2.2.1 (w.2.1 L (by omega) (Int.le_refl _)).2 w.2.2.2.2
section Rd
variable {K : jc_K} {G : jg_G} {N k : Nat} {W : jZW}
theorem jread (hs : jSt K G N k W) (hk : k < 512) {a b : Int} (ha : 0 ≤ a ∧ a < 4) (o : G 107 a = 1) (hb : 0 ≤ b ∧ b < 32) : ∃ K' c G', fc110 K a b = some (K', .inl c) ∧ jRs K' G' k W c a b G N (fun Gl Nl G' N' => jzs Gl Nl G' N' ∧ c = jzA Gl b Nl) := by
  obtain ⟨o1, _⟩ := hs.t ha
  have hW : W.1 ≤ 2000000000 := by have := hs.2.2.1; omega
  have n120 : 98 ≤ K.1.1 := hs.2.2.2.1.2.2.2.1.1
  obtain ⟨K1, c, G1, r1, r2, r3, r4⟩ := jlock (hs.2.2.2.t 0) (by omega) (by decide) hW ha hb (by rw [jg_uN (by decide)]; exact o)
  have f1 : jf6 G G1 := ((jf6.refl G).u (n := 92) (i := 0) (v := 0) (Or.inr (by decide))).trans (f6_190 _ _ _ _ r2)
  have st : fc110 K a b = ((fc142 K a b).bind fun x8 => if x8.2 = 0 then ((fc71 (x8.1) b).bind fun x13 => if x13.2 = 0 then ((fc140 (x13.1) (-4)).bind fun x16 => some (x16.1, .inl (x16.2))) else ((fc72 (x13.1) b).bind fun x18 => (fc140 (x18.1) (x18.2)).bind fun x20 => some (x20.1, .inl (x20.2)))) else ((fc140 (x8.1) (x8.2)).bind fun x11 => some (x11.1, .inl (x11.2)))) := by
    unfold fc110
    rw [if_neg (by omega), if_pos ha.2, if_neg (by omega), if_pos hb.2, if_pos hs.2.1, if_pos ha, o1, if_neg (by omega)]
  rw [st, r1, jo_bs]
  dsimp only
  have g1 : jk_g jQX K K1 := r3.mono (fun n e => Or.inl e)
  rcases r4 with ⟨ec, ⟨N1, hL1, hk1⟩, _⟩ | ⟨ec, N1, hL1, hk1⟩ | ⟨ec, hE, hMf, h62⟩
  · rw [if_pos ec]
    obtain ⟨K2, G2, b1, u1, u2, u3, u4⟩ := jM_find hL1.1 hL1.2.1 (by omega) (by decide) hW hb hL1.2.2.1.pos
    have g2 : jk_g jQX K K2 := g1.trans ((jk_g.s u3).mono (fun n e => Or.inr (Or.inl e)))
    have f2 := f1.trans (f6_175 _ _ _ u2)
    rw [u1, jo_bs]
    dsimp only
    rcases u4 with ⟨e1, y1, y2, y3, L, w, hL⟩ | ⟨e1, y1, y2⟩
    · obtain ⟨v, kk, v1, v0, v2, _⟩ := w.val y1 hL
      rw [if_neg (show ¬ b1 = 0 by omega), v1, jo_bs]
      dsimp only
      rw [jtold_a (show v ≠ -4 by omega), jo_bs]
      have z := jfinA hs g2 ((hL1.f y1 y2 (hL1.2.2.1.same (fun z => y3.l.h N1 z)) (jk_g.s u3) jF_n3 y3.tr (fun s _ _ _ => y3.l.t s N1)).le (Nat.le_refl _) (by omega) (Nat.le_refl _))
      refine ⟨K2, v, G2, rfl, Or.inr ⟨by omega, N1, 0, G1, N1, z, hk1, Or.inr ⟨rfl, jzs.f y3, ?_⟩⟩⟩
      rw [v0, w.A y2 hL hb]
      exact (y3.l.a N1).zA b N1 (Int.le_refl _)
    · rw [if_pos e1]
      have h62 : ∀ j, 0 ≤ j → j < 32 → -1 ≤ jc_i K2 62 j ∧ jc_i K2 62 j < 4 := fun j j0 j1 => by
        rw [u3.2 62 jF_n3.2.2, (hL1.2.2.2.1.2 j j0 j1).1]
        exact (hL1.2.2.2.1.2 j j0 j1).2
      obtain ⟨K3, z1, z2⟩ := jfinF hs g2 y1 (y2.le (by omega) (Nat.le_refl _)) h62
      rw [z1, jo_bs]
      exact ⟨K3, -4, G2, rfl, Or.inl ⟨rfl, z2, f2.2.1 hs.2.2.2.1.h7 y1.h7⟩⟩
  · have cn : c ≠ 0 ∧ c ≠ -4 := by omega
    rw [if_neg cn.1, jtold_a cn.2, jo_bs]
    exact ⟨K1, c, G1, rfl, Or.inr ⟨cn.2, N1, c, G1, N1, jfinA hs g1 hL1, hk1, Or.inl ⟨by omega, rfl, rfl, rfl⟩⟩⟩
  · subst ec
    obtain ⟨K3, z1, z2⟩ := jfinF hs g1 hE hMf h62
    rw [if_neg (show ¬ (-4 : Int) = 0 by decide), z1, jo_bs]
    exact ⟨K3, -4, G1, rfl, Or.inl ⟨rfl, z2, f1.2.1 hs.2.2.2.1.h7 hE.h7⟩⟩
end Rd
