/-! PLACE, BACK, UNDO -/
theorem jnw {K : jc_K} {G : jg_G} {N x κ B : Nat} {W : jZW} {t : Int} (h : jLv K G N x κ W B) (ht : 0 ≤ t ∧ t < 4) : jLv (jc_ui K 61 t (-1)) (jg_u G 110 t (-1)) N x κ W B := by
  obtain ⟨hY, hM, hz, hT, ⟨hWo, ρ, hρ⟩, hcl⟩ := h
  have s61 : jk_s (fun n => n = 61) K (jc_ui K 61 t (-1)) := jk_s.u rfl
  have hg : ∀ n j, ¬ (n = 110 ∨ n = 111 ∨ (n = 92 ∧ j = 0) ∨ 112 ≤ n) → jg_u G 110 t (-1) n j = G n j := fun n j h => jg_uN (by omega)
  have hl : jl_a G (jg_u G 110 t (-1)) N := fun m j e => jg_uN (by omega)
  have g107 : ∀ s, jg_u G 110 t (-1) 107 s = G 107 s := fun s => jg_uN (by decide)
  have g111 : ∀ s, jg_u G 110 t (-1) 111 s = G 111 s := fun s => jg_uN (by decide)
  have hY1 : jY (jc_ui K 61 t (-1)) G N x := hY.f (hY.1.grow (jk_g.s s61) (fun n e z => by unfold jN_k at e; omega) hY.2.2.2.1.1) s61 (fun n e => by omega) (jw_f.refl G)
  have q := jph_110 (G := G) (N := N) (w := -1) ht
  have tm : jtm (jg_u G 110 t (-1)) N t ≤ jtm G N t := jtm_le (hl.t t N (Int.le_refl _)) (g107 t) (Or.inr jg_uH)
  refine ⟨hY1.g hg, hM.g (κ' := κ) (W' := W) hg (fun k k0 k1 => by rw [g111]; exact hM.2.2.1 k k0 k1) (by have := hM.2.2.2.1; omega) ⟨(jg_uN (by decide)).trans hM.2.2.2.2.2.2.1.1, fun j => (jg_uN (by decide)).trans (hM.2.2.2.2.2.2.1.2 j)⟩ (Nat.le_refl _) (fun _ _ _ => jg_uN (by decide)) (fun _ _ _ _ _ _ _ _ h => by rw [g111]; exact h), hz.same (fun z => hl.h z N (Int.le_refl _)), ⟨fun s s0 s1 => ?_, fun k k0 k1 => ?_⟩, ⟨⟨fun k k0 k1 h0 => ?_, fun s s0 s1 h0 => ?_⟩, ρ, fun s s0 s1 h0 => ?_⟩, fun s s0 s1 h0 => ?_⟩
  · have := hT.1 s s0 s1
    rw [jc_uN (by decide), g107]
    refine ⟨this.1, this.2.1, ?_⟩
    by_cases e : s = t
    · rw [e, jc_uH, jg_uH]; exact ⟨rfl, by decide, by decide⟩
    · rw [jc_uI e, jg_uI e]; exact this.2.2
  · rw [jc_uN (by decide), g111]; exact hT.2 k k0 k1
  · rw [g111] at h0 ⊢
    rw [g107]; exact hWo.1 k k0 k1 h0
  · by_cases e : s = t
    · rw [e, jg_uH] at h0; omega
    · rw [jg_uI e] at h0 ⊢
      rw [g107, g107]; exact hWo.2 s s0 s1 h0
  · by_cases e : s = t
    · rw [e, jg_uH] at h0; omega
    · rw [jg_uI e] at h0 ⊢
      exact hρ s s0 s1 h0
  · rw [g107] at h0
    rw [hl.t s N (Int.le_refl _)]
    exact hcl s s0 s1 h0
theorem j187n : ∀ (m : Nat) (G : jg_G) (l1 l2 l3 l4 : Int) (r : jg_G × Int), fo187_10 m G l1 l2 l3 l4 = some r → 0 ≤ l3 → 0 ≤ r.2
  | 0, G, l1, l2, l3, l4, r, h, _ => by cases h
  | m + 1, G, l1, l2, l3, l4, r, h, h0 => by
    unfold fo187_10 at h
    by_cases a1 : l4 ≤ l2
    · rw [if_pos a1] at h
      cases h; exact h0
    rw [if_neg a1] at h
    by_cases a2 : G 92 7 = 0
    case neg =>
      rw [if_neg a2] at h
      cases h; exact h0
    rw [if_pos a2] at h
    by_cases a3 : 0 ≤ l4 ∧ l4 < 1501
    case neg => rw [if_neg a3] at h; cases h
    rw [if_pos a3] at h
    by_cases a4 : G 98 l4 = 1
    · rw [if_pos a4] at h
      by_cases a5 : 0 ≤ G 104 l4 ∧ G 104 l4 < 1501
      case neg => rw [if_neg a5] at h; cases h
      rw [if_pos a5, if_neg (show ¬ G 98 l4 = 0 by omega)] at h
      exact j187n m _ _ _ _ _ _ h h0
    · rw [if_neg a4] at h
      by_cases a6 : G 98 l4 = 0
      · rw [if_pos a6] at h
        cases e : fo186 G l1 l4 with
        | none => rw [e] at h; cases h
        | some y =>
          rw [e, jo_bs] at h
          by_cases a7 : -2147483648 ≤ (l3 + 1) ∧ (l3 + 1) < 2147483648
          · rw [if_pos a7] at h
            exact j187n m _ _ _ _ _ _ h (by omega)
          · rw [if_neg a7] at h; cases h
      · rw [if_neg a6] at h
        exact j187n m _ _ _ _ _ _ h h0
theorem j187p {G G' : jg_G} {l1 l2 n : Int} (h : fo187 G l1 l2 = some (G', n)) : 0 ≤ n := by
  unfold fo187 at h
  by_cases a : 0 ≤ l1 ∧ l1 < 4
  · rw [if_pos a] at h
    exact j187n _ _ _ _ _ _ _ h (Int.le_refl _)
  · rw [if_neg a] at h; cases h
theorem j188p {G G' : jg_G} {l1 n : Int} (h : fo188 G l1 = some (G', n)) : 0 ≤ n := by
  unfold fo188 at h
  cases e : fo187 G l1 0 with
  | none => rw [e] at h; cases h
  | some y =>
    have p := j187p (G' := y.1) (n := y.2) e
    rw [e, jo_bs] at h
    split at h
    · split at h
      · split at h
        · unfold jo_l at h
          split at h
          · dsimp only at h
            cases h; exact p
          · cases h
        · cases h
      · cases h
    · cases h; exact p
/-- gone back from (G, N), a alone -/
def jzB (G : jg_G) (N : Nat) (G' : jg_G) (N' : Nat) (a pl n : Int) : Prop := jzQ G N a pl (jzL G a N) G' N' n ∧ (∀ s, 0 ≤ s → s < 4 → s ≠ a → jzL G' s N' = jzL G s N) ∧ (∀ j, G' 107 j = G 107 j ∧ G' 110 j = G 110 j ∧ G' 111 j = G 111 j) ∧ (∀ s, 0 ≤ s → s < 4 → G 107 s = 1 → G' 109 s = if s = a then G 109 s + n else G 109 s) ∧ jl_a G G' N ∧ N ≤ N' ∧ ∀ j, G' 113 j = G 113 j
section Pb
variable {K : jc_K} {G : jg_G} {N k : Nat} {W : jZW} {a : Int}
theorem jQX61 {t v : Int} : jk_g jQX K (jc_ui K 61 t v) := (jk_g.s (S := fun n => n = 61) (jk_s.u rfl)).mono (fun n e => Or.inl (Or.inr (Or.inr (Or.inr (Or.inl e)))))
/-- place -/
theorem jplace (hs : jSt K G N k W) (ha : 0 ≤ a ∧ a < 4) (o : G 107 a = 1) : ∃ K', fc111 K a = some (K', .inl (G 108 a)) ∧ jSt K' (jg_u (jg_u G 92 0 0) 110 a (-1)) N k (W.1, 0, W.2.2) := by
  obtain ⟨o1, _⟩ := hs.t ha
  refine ⟨jc_ui K 61 a (-1), ?_, fun j j0 j1 => ?_, ?_, hs.2.2.1, jnw (hs.2.2.2.t 0) ha⟩
  · unfold fc111
    rw [if_neg (by omega), if_pos ha.2, if_pos hs.2.1, if_pos ha, o1, if_neg (by omega), (hs.2.2.2.1.2.2.1 a ha.1 ha.2).1]
  · rw [jc_uN (by decide), jg_uN (by decide), jg_uN (by decide)]
    exact hs.1 j j0 j1
  · rw [jc_uN (by decide)]
    exact hs.2.1
/-- back -/
theorem jback (hs : jSt K G N k W) (hk : k < 512) (ha : 0 ≤ a ∧ a < 4) (o : G 107 a = 1) {b : Int} (hb : 0 ≤ b ∧ b ≤ N) : ∃ K' c G', fc112 K a b = some (K', .inl c) ∧ ((c = -4 ∧ jSf K' G' (k + 1) (W.1, 0, W.2.2) ∧ G' 92 6 = 0) ∨ (c ≠ -4 ∧ ∃ N', jSt K' G' N' (k + 1) (W.1, 0, W.2.2) ∧ jzB (jg_u (jg_u G 92 0 0) 110 a (-1)) N G' N' a b c)) := by
  obtain ⟨o1, _⟩ := hs.t ha
  have h63 : jc_i K 63 4 = N := hs.2.2.2.1.2.1.1
  have hW : W.1 ≤ 2000000000 := by have := hs.2.2.1; omega
  have hL := jnw (hs.2.2.2.t 0) ha
  have h7 : G 92 7 = 0 := hs.2.2.2.1.h7
  have o' : jg_u (jg_u G 92 0 0) 110 a (-1) 107 a = 1 := by rw [jg_uN (by decide), jg_uN (by decide)]; exact o
  have f0 : jf6 G (jg_u (jg_u G 92 0 0) 110 a (-1)) := ((jf6.refl G).u (Or.inr (by decide))).u (Or.inl (by decide))
  generalize hG : jg_u (jg_u G 92 0 0) 110 a (-1) = G0 at *
  obtain ⟨K0, K1, G1, st, n, r1, r2, r3, r4, r5⟩ := jbk hL.1 hL.2.1 (by omega) (by decide) hW hL.2.2.1 hL.2.2.2.1 ha hb.1
  have f1 : jf6 G G1 := f0.trans (f6_187 _ _ _ _ r3)
  have g1 : jk_g jQX K K1 := jQX61.trans (r4.mono (fun n e => Or.inl e))
  have st0 : fc112 K a b = ((fc90 (jc_ui K 61 a (-1)) a).bind fun x9 => (fc92 (x9.1) b 0).bind fun x11 => if x11.2 = 0 then ((fc140 (x11.1) (-4)).bind fun x14 => some (x14.1, .inl (x14.2))) else ((fc140 (x11.1) (jc_i (x11.1) 81 4)).bind fun x16 => some (x16.1, .inl (x16.2)))) := by
    unfold fc112
    rw [if_neg (by omega), if_pos ha.2, if_neg (by omega), h63, if_pos hb.2, if_pos hs.2.1, if_pos ha, o1, if_neg (by omega)]
  rw [st0, r1, jo_bs]
  dsimp only
  rw [r2, jo_bs]
  dsimp only
  rcases r5 with ⟨es, en, N1, y1, y2, y3, y4, y5, y6, y7⟩ | ⟨es, y1, y2, y3⟩
  · subst es
    rw [if_neg (show ¬ (1 : Int) = 0 by decide)]
    have hn : jc_i K1 81 4 ≠ -4 := by
      rw [en]
      have := j187p r3
      omega
    rw [jtold_a hn, jo_bs]
    have z := jfinA (N' := N1) hs g1 ((show jLv K1 G1 N1 k k (W.1, 0, W.2.2) 223 from ⟨y1, y2, y3, y4, jwt_e hL.2.2.2.2.1 y5.tr, fun s s0 s1 h0 => by
      rw [(y5.tr s).1] at h0
      have hsa : s ≠ a := fun z => by
        rw [z] at h0
        omega
      rw [y6 s s0 s1 hsa]
      exact hL.2.2.2.2.2 s s0 s1 h0⟩).le (Nat.le_refl _) (Nat.le_succ _) (Nat.le_refl _))
    refine ⟨K1, n, G1, by rw [en], Or.inr ⟨by rw [← en]; exact hn, N1, z, y7, fun s s0 s1 hs => jz_ot y5.1.1 s0 (y6 s s0 s1 hs), y5.tr, fun s s0 s1 h7 => ?_, y5.1.1, y5.1.2.1, fun j => y5.2.2.1 113 (by decide) j⟩⟩
    rw [y2.2.2.2.2.2.2.2.2.2 s s0 s1 (by rw [(y5.tr s).1]; exact h7), hL.2.1.2.2.2.2.2.2.2.2.2 s s0 s1 h7]
    by_cases e : s = a
    · rw [if_pos e, e]
      exact y7.2.2.2
    · rw [if_neg e]
      exact jzn_ot y5.1.1 (y6 s s0 s1 e)
  · subst es
    rw [if_pos rfl]
    obtain ⟨K2, z1, z2⟩ := jfinF hs g1 y1 (y2.le (Nat.le_succ _) (Nat.le_refl _)) (fun j j0 j1 => by
      rw [y3 j, (hL.2.2.2.1.2 j j0 j1).1]
      exact (hL.2.2.2.1.2 j j0 j1).2)
    rw [z1, jo_bs]
    exact ⟨K2, -4, G1, rfl, Or.inl ⟨rfl, z2, f1.2.1 h7 y1.h7⟩⟩
end Pb
