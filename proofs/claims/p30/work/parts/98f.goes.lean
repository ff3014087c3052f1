/-! A PAGE GOES, and the root takes over behind it -/
section Gs
variable {K : jc_K} {G : jg_G} {N x κ B : Nat} {W : jZW}
theorem jgoes {p up k : Int} (hY : jY K G N x) (hM : jM G N κ W B) (hκ : κ ≤ 513) (hB : B ≤ 223) (hW : W.1 ≤ 2000000000) (he : jT_i (fun z => jh G N z) up k) (hkp : (jh G N up).2.2.2 k = p) (hb : (jh G N p).2.1 = 0) (hq : jT_q (fun z => if z = p then jp_0 else if z = up then jp_fg (jp_del (jh G N up) k) else jh G N z)) : ∃ K' b, fc83 K p up = some (K', b) ∧ jk_g jQ K K' ∧ ((∃ G1 G' N', fo181 G p up = some (G1, 0) ∧ G1 92 7 = 0 ∧ fo182 G1 = some (G', 0) ∧ ((b = 1 ∧ (jA K' G G' N N' x κ W B ∧ N + 1 ≤ N' ∧ (∀ j, G' 108 j = G 108 j)) ∧ ¬ ((jh G' N' 0).1 = 2 ∧ (jh G' N' 0).2.1 = 1) ∧ ((∀ z, 0 ≤ z → z < 24 → jp_e ((fun z => if z = p then jp_0 else if z = up then jp_fg (jp_del (jh G N up) k) else jh G N z) z) (jh G' N' z)) ∨ (jT_z (fun z => jh G' N' z) ∧ (if (0 : Int) = up then jp_fg (jp_del (jh G N up) k) else jh G N 0).1 = 2 ∧ (if (0 : Int) = up then jp_fg (jp_del (jh G N up) k) else jh G N 0).2.1 = 1))) ∨ (b = 0 ∧ jE K' G' x ∧ jMf G' κ W B))) ∨ (∃ G', fo181 G p up = some (G', 0) ∧ b = 0 ∧ jE K' G' x ∧ jMf G' κ W B)) := by
  obtain ⟨lo, hi, rk, hT⟩ := hM.1.1.2.1 N (Nat.le_refl _)
  have hc := jT_child hT.1.1 he
  obtain ⟨v1, v2, _⟩ := hT.1.2.2.1 up k he
  rw [show jT_c (fun z => jh G N z) up k = p from hkp] at hc v1 v2
  obtain ⟨K1, q, K2, K3, G1, b, a1, a2, a3, a4, a5, g, o⟩ := jM_go hY hM hκ hB hW he hkp hb hq
  unfold fc83
  rw [if_neg (by omega), a1, jo_bs]
  dsimp only
  rw [if_neg a2, a3, jo_bs]
  dsimp only
  rw [a4, jo_bs]
  dsimp only
  rcases o with ⟨e, s1, s2, s3, s4, s5, s6, s7⟩ | ⟨e, s1, s2⟩
  · rw [if_neg (by omega)]
    have nf : jnf (fun p => jh G1 (N + 1) p) ≤ 24 := by
      have := jsum_le (f := fun p => if (jh G1 (N + 1) p).1 = 0 then 0 else 1) (g := fun _ => 1) 24 (fun i hi => by
        show (if (jh G1 (N + 1) i).1 = 0 then 0 else 1) ≤ 1
        split <;> decide)
      have e24 : jsum (fun _ => 1) 24 = 24 := rfl
      rw [e24] at this
      exact this
    obtain ⟨K', G', b', N', r1, r2, r3, r4⟩ := jto_l hκ hB hW p up jo_N jo_N 0 K3 G1 (N + 1) s1 s3 (by decide) (by omega) (by unfold jo_N; omega) (by unfold jo_N; omega)
    refine ⟨K', b', r1, g.trans r3, Or.inl ⟨G1, G', N', a5, s1.h7, r2, ?_⟩⟩
    rcases r4 with ⟨eb, ⟨x1, x2, x3, x4, x5, x11⟩, x10, x6, x7⟩ | y
    · refine Or.inl ⟨eb, ⟨⟨x1, s2.trans x2, x3, fun j => (x4 j).trans (s5 j).1, x5.trans s6, (jNo.one s7).trans x2.1.1 x11⟩, x2.1.2.1, fun j => (x10 j).trans (s5 j).2⟩, x6, ?_⟩
      rcases x7 with ⟨_, x8⟩ | x8
      · exact Or.inl (fun z a b => by rw [x8]; exact s4 z a b)
      · have e0 : jp_e (if (0 : Int) = p then jp_0 else if (0 : Int) = up then jp_fg (jp_del (jh G N up) k) else jh G N 0) (jh G1 (N + 1) 0) := s4 0 (by decide) (by decide)
        rw [if_neg (show ¬ (0 : Int) = p by omega)] at e0
        exact Or.inr ⟨x8.1, e0.1.trans x8.2.1, e0.2.1.trans x8.2.2⟩
    · exact Or.inr y
  · rw [if_pos e]
    exact ⟨K3, 0, rfl, g, Or.inr ⟨G1, a5, rfl, s1, s2⟩⟩
end Gs
/-! WHAT HAS NOTHING LEFT GOES: the class's loop and shrinks() -/
/-- the pages on the way P, down to d, of which the last may have nothing left -/
def jS_h (g : Int → jp_C) (P : Int → Int) (d : Nat) : Prop := (P 0 = 0 ∧ ∀ j : Int, 0 ≤ j → j ≤ d → 0 ≤ P j ∧ P j < 24) ∧ (∀ j : Int, 0 ≤ j → j < d → (g (P j)).1 = 2 ∧ ∃ k, 0 ≤ k ∧ k < (g (P j)).2.1 ∧ (g (P j)).2.2.2 k = P (j + 1)) ∧ (∀ p, 1 ≤ p → p < 24 → (g p).1 ≠ 0 → p ≠ P d → 0 < (g p).2.1) ∧ ((g 0).1 = 2 → 2 ≤ (g 0).2.1)
section Sh
variable {K : jc_K} {G : jg_G} {N x κ B : Nat} {W : jZW}
/-- the class's end of the way, looked at -/
theorem jsh_81 {d : Nat} (hY : jY K G N x) (hd : jc_i K 79 3 = d) (hd2 : d < 24) (hP : jc_i K 80 d = G 112 d ∧ 0 ≤ G 112 d ∧ G 112 d < 24) : fc70 K = some (K, G 112 d) ∧ fc81 K = some (K, if 0 < d ∧ (jh G N (G 112 d)).1 ≠ 0 ∧ (jh G N (G 112 d)).2.1 = 0 then 1 else 0) := by
  have e70 : fc70 K = some (K, G 112 d) := by
    unfold fc70 fc69
    rw [hd, if_neg (by omega), if_neg (by omega), if_pos ⟨by omega, by omega⟩, jo_bs]
    dsimp only
    rw [hP.1]
  obtain ⟨a, b, c, _, _, w⟩ := hY.seen hP.2
  refine ⟨e70, ?_⟩
  unfold fc81
  rw [e70, jo_bs]
  dsimp only
  rw [a, jo_bs]
  dsimp only
  rw [hd]
  by_cases h0 : d = 0
  · rw [if_pos (by omega), if_neg (by omega)]
  · rw [if_neg (by omega), if_neg (by omega), if_pos c.1, jk_fc36 c, jo_bs]
    dsimp only
    by_cases e : (jh G N (G 112 d)).1 ≠ 0 ∧ (jh G N (G 112 d)).2.1 = 0
    · rw [if_pos e, if_neg (by decide), if_pos ⟨by omega, e⟩]
    · rw [if_neg e, if_pos rfl, if_neg (fun z => e z.2)]
end Sh
