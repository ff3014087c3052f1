/-! RECOVER: what is not as it stays, class and reference -/
section
variable {K : jc_K} {G : jg_G} {N x κ B : Nat} {W : jZW}
def jba (G : jg_G) (N : Nat) (p : Int) : Prop := (1 ≤ p ∧ p < 24) ∧ (jh G N p).1 ≠ 0 ∧ (jh G N p).2.1 = 0
theorem jk_86 (hY : jY K G N x) : fc86 K = some (K, if (jh G N 0).1 = 2 ∧ (jh G N 0).2.1 = 1 then (jh G N 0).2.2.2 0 else -1) := by
  obtain ⟨s1, s2, s3, s4, s5, s6⟩ := hY.seen (p := 0) (by decide)
  unfold fc86
  rw [s1, jo_bs]
  dsimp only
  rw [if_neg (show ¬ jq G 0 = 0 by omega), if_pos s3.1, s3.2.1, s3.2.2.1]
  by_cases c1 : (jh G N 0).1 = 2
  · rw [if_pos c1]
    by_cases c2 : (jh G N 0).2.1 = 1
    · rw [if_pos c2, jk_fc39 s6 c1 s3 (by decide) (by omega), jo_bs, if_pos ⟨c1, c2⟩]
    · rw [if_neg c2, if_neg (fun z => c2 z.2)]
  · rw [if_neg c1, if_neg (fun z => c1 z.1)]
theorem jk_8712 (hY : jY K G N x) : ∀ (m : Nat) (l : Int), 1 ≤ l → l ≤ 24 → 24 < l + m → (∀ p, p < l → ¬ jba G N p) → ∃ v, fc87_12 m K l = some (K, v) ∧ ((v = -1 ∧ ∀ p, ¬ jba G N p) ∨ (jba G N v)) := by
  intro m
  induction m with
  | zero => intro l h0 h1 h2; omega
  | succ m ih =>
    intro l h0 h1 h2 hn
    unfold fc87_12
    by_cases e : 24 ≤ l
    · rw [if_pos e]
      exact ⟨-1, rfl, Or.inl ⟨rfl, fun p z => by
        by_cases c : p < l
        · exact hn p c z
        · have := z.1; omega⟩⟩
    · obtain ⟨s1, s2, s3, s4, s5, s6⟩ := hY.seen (p := l) ⟨by omega, by omega⟩
      rw [if_neg e, s1, jo_bs]
      dsimp only
      rw [if_neg (show ¬ jq G l = 0 by omega), if_pos s3.1, jk_fc36 s3, jo_bs]
      dsimp only
      by_cases c : (jh G N l).1 ≠ 0 ∧ (jh G N l).2.1 = 0
      · rw [if_pos c, if_neg (by decide)]
        exact ⟨l, rfl, Or.inr ⟨⟨h0, by omega⟩, c⟩⟩
      · rw [if_neg c, if_pos rfl, if_pos (by omega)]
        exact ih (l + 1) (by omega) (by omega) (by omega) (fun p hp z => by
          by_cases ep : p = l
          · rw [ep] at z; exact c z.2
          · exact hn p (by omega) z)
/-- a page's parent, the class -/
theorem jk_88 (hY : jY K G N x) {p up : Int} (hup : 0 ≤ up ∧ up < 24) (h1 : ∃ k, jT_i (fun z => jh G N z) up k ∧ (jh G N up).2.2.2 k = p) (hu : ∀ q i, jT_i (fun z => jh G N z) q i → (jh G N q).2.2.2 i = p → q = up) : ∀ (m : Nat) (l : Int), 0 ≤ l → l ≤ up → 24 < l + m → fc88_2 m K p l = some (K, up) := by
  intro m
  induction m with
  | zero => intro l h0 h2 h3; omega
  | succ m ih =>
    intro l h0 h2 h3
    obtain ⟨s1, s2, s3, s4, s5, s6⟩ := hY.seen (p := l) ⟨by omega, by omega⟩
    unfold fc88_2
    rw [if_neg (by omega), s1, jo_bs]
    dsimp only
    rw [if_neg (show ¬ jq G l = 0 by omega), if_pos s3.1, s3.2.1]
    by_cases k2 : (jh G N l).1 = 2
    · rw [if_pos k2]
      rcases jk_fc41 (x := p) s6 k2 s3 with ⟨k, y1, y2, y3, y4⟩ | ⟨y1, y2⟩
      · rw [y1, jo_bs]
        dsimp only
        have := hu l k ⟨⟨by omega, by omega⟩, k2, y2, y3⟩ y4
        rw [if_neg (by omega), this]
      · rw [y1, jo_bs]
        dsimp only
        rw [if_pos rfl, if_pos (by omega)]
        refine ih (l + 1) (by omega) ?_ (by omega)
        by_cases e : l = up
        · obtain ⟨k, z1, z2⟩ := h1
          rw [e] at y2
          exact absurd z2 (y2 k z1.2.2.1 z1.2.2.2)
        · omega
    · rw [if_neg k2, if_pos (by omega)]
      refine ih (l + 1) (by omega) ?_ (by omega)
      by_cases e : l = up
      · obtain ⟨k, z1, z2⟩ := h1
        rw [e] at k2
        exact absurd z1.2.1 k2
      · omega
/-- a page's parent, the reference -/
theorem jr_207k (hY : jY K G N x) {p q : Int} (hq : 0 ≤ q ∧ q < 24) (k2 : (jh G N q).1 = 2) : ∀ (d m : Nat) (k f : Int), 0 ≤ k → k + d = (jh G N q).2.1 → ∃ f', fo207_s (m + (d + 1)) 19 G p f q (fr_ro G q) k = fo207_s m 5 G p f' (q - 1) 0 0 ∧ (((∃ j, k ≤ j ∧ j < (jh G N q).2.1 ∧ (jh G N q).2.2.2 j = p) ∧ f' = q) ∨ ((∀ j, k ≤ j → j < (jh G N q).2.1 → (jh G N q).2.2.2 j ≠ p) ∧ f' = f)) := by
  obtain ⟨s1, s2, s3, s4, s5, s6⟩ := hY.seen hq
  have c32 := s6.1
  intro d
  induction d with
  | zero =>
    intro m k f h0 e
    refine ⟨f, ?_, Or.inr ⟨fun j j0 j1 => by omega, rfl⟩⟩
    show fo207_s (m + 1) 19 G p f q (fr_ro G q) k = _
    conv => lhs; unfold fo207_s
    rw [if_neg (by decide), if_pos rfl, if_pos (by omega), s5.1, if_pos k2, if_pos (by omega), s5.2.1, if_pos (by omega), if_pos (by omega)]
    rfl
  | succ d ih =>
    intro m k f h0 e
    have v4 := (s5.2.2 k h0 (by omega)).2
    have st : fo207_s (m + (d + 1) + 1) 19 G p f q (fr_ro G q) k = fo207_s (m + (d + 1)) 19 G p (if (jh G N q).2.2.2 k = p then q else f) q (fr_ro G q) (k + 1) := by
      conv => lhs; unfold fo207_s
      rw [if_neg (by decide), if_pos rfl, if_pos (by omega), s5.1, if_pos k2, if_pos (by omega), s5.2.1, if_neg (by omega), if_pos (by omega), v4]
      by_cases c : (jh G N q).2.2.2 k = p
      · rw [if_pos c, if_pos c, if_pos (by omega)]
      · rw [if_neg c, if_neg c, if_pos (by omega)]
    by_cases c : (jh G N q).2.2.2 k = p
    · rw [if_pos c] at st
      obtain ⟨f', y1, y2⟩ := ih m (k + 1) q (by omega) (by omega)
      refine ⟨f', st.trans y1, Or.inl ⟨⟨k, Int.le_refl _, by omega, c⟩, ?_⟩⟩
      rcases y2 with y | y
      · exact y.2
      · exact y.2
    · rw [if_neg c] at st
      obtain ⟨f', y1, y2⟩ := ih m (k + 1) f (by omega) (by omega)
      refine ⟨f', st.trans y1, ?_⟩
      rcases y2 with ⟨⟨j, j0, j1, j2⟩, y⟩ | ⟨y0, y⟩
      · exact Or.inl ⟨⟨j, by omega, j1, j2⟩, y⟩
      · refine Or.inr ⟨fun j j0 j1 j2 => ?_, y⟩
        by_cases ej : j = k
        · rw [ej] at j2; exact c j2
        · exact y0 j (by omega) j1 j2
theorem jr_207 (hY : jY K G N x) {p up : Int} (hup : 0 ≤ up ∧ up < 24) (h1 : ∃ k, jT_i (fun z => jh G N z) up k ∧ (jh G N up).2.2.2 k = p) (hu : ∀ q i, jT_i (fun z => jh G N z) q i → (jh G N q).2.2.2 i = p → q = up) : ∀ (d m : Nat) (q f : Int), q = (d : Int) - 1 → d ≤ 24 → 40 * d < m → f = (if q < up then up else -1) → fo207_s m 5 G p f q 0 0 = some (G, up) := by
  intro d
  induction d with
  | zero =>
    intro m q f e h2 h3 hf
    obtain ⟨m, rfl⟩ : ∃ j, m = j + 1 := ⟨m - 1, by omega⟩
    unfold fo207_s
    rw [if_pos rfl, if_pos (by omega), hf, if_pos (by omega)]
  | succ d ih =>
    intro m q f e h2 h3 hf
    have hq : 0 ≤ q ∧ q < 24 := by omega
    obtain ⟨s1, s2, s3, s4, s5, s6⟩ := hY.seen hq
    have c32 := s6.1
    have st : fo207_s m 5 G p f q 0 0 = fo207_s (m - 1) 19 G p f q (fr_ro G q) 0 := by
      obtain ⟨m, rfl⟩ : ∃ j, m = j + 1 := ⟨m - 1, by omega⟩
      conv => lhs; unfold fo207_s
      rw [if_pos rfl, if_neg (by omega), if_pos hq, jo_le]
      rfl
    rw [st]
    have none : (∀ j, 0 ≤ j → j < (jh G N q).2.1 → (jh G N q).1 = 2 → (jh G N q).2.2.2 j ≠ p) → q ≠ up := fun hn z => by
      obtain ⟨k, z1, z2⟩ := h1
      rw [← z] at z1 z2
      exact hn k z1.2.2.1 z1.2.2.2 z1.2.1 z2
    by_cases k2 : (jh G N q).1 = 2
    · obtain ⟨f', y1, y2⟩ := jr_207k hY (p := p) hq k2 (jh G N q).2.1.toNat (m - 1 - ((jh G N q).2.1.toNat + 1)) 0 f (Int.le_refl _) (by omega)
      rw [show m - 1 - ((jh G N q).2.1.toNat + 1) + ((jh G N q).2.1.toNat + 1) = m - 1 by omega] at y1
      rw [y1]
      have mm : 40 * d < m - 1 - ((jh G N q).2.1.toNat + 1) := by
        clear y2 h1 hu none
        omega
      refine ih _ (q - 1) _ (by clear y2 h1 hu none; omega) (by clear y2 h1 hu none; omega) mm ?_
      rcases y2 with ⟨⟨j, j0, j1, j2⟩, y⟩ | ⟨y0, y⟩
      · have eu := hu q j ⟨hq, k2, j0, j1⟩ j2
        clear h1 hu none
        rw [y, if_pos (by omega), eu]
      · have nu := none (fun j j0 j1 _ j2 => y0 j j0 j1 j2)
        clear h1 hu none
        rw [y, hf]
        by_cases c : q < up
        · rw [if_pos c, if_pos (by omega)]
        · rw [if_neg c, if_neg (by omega)]
    · have nu := none (fun j _ _ k => absurd k k2)
      have st2 : fo207_s (m - 1) 19 G p f q (fr_ro G q) 0 = fo207_s (m - 2) 5 G p f (q - 1) 0 0 := by
        obtain ⟨m, rfl⟩ : ∃ j, m = j + 2 := ⟨m - 2, by omega⟩
        show fo207_s (m + 1) 19 G p f q (fr_ro G q) 0 = _
        conv => lhs; unfold fo207_s
        rw [if_neg (by decide), if_pos rfl, if_pos (by omega), s5.1, if_neg k2, if_pos (by omega)]
        rfl
      rw [st2]
      refine ih _ (q - 1) _ (by omega) (by omega) (by omega) ?_
      rw [hf]
      by_cases c : q < up
      · rw [if_pos c, if_pos (by omega)]
      · rw [if_neg c, if_neg (by omega)]
/-- the lowest page that is bare, the reference -/
theorem jr_208 (hY : jY K G N x) (hpar : ∀ p, jba G N p → ∃ up, fo207 G p = some (G, up) ∧ up ≠ -1) : ∀ (d m : Nat) (l f : Int), l = (d : Int) → d ≤ 23 → d < m → ((f = -1 ∧ ∀ p, l < p → ¬ jba G N p) ∨ jba G N f) → ∃ v, fo208_5 m G f l = some (G, v) ∧ ((v = -1 ∧ ∀ p, ¬ jba G N p) ∨ jba G N v) := by
  intro d
  induction d with
  | zero =>
    intro m l f e h2 h3 hf
    obtain ⟨m, rfl⟩ : ∃ j, m = j + 1 := ⟨m - 1, by omega⟩
    unfold fo208_5
    rw [if_pos (by omega)]
    refine ⟨f, rfl, ?_⟩
    rcases hf with ⟨a, b⟩ | a
    · refine Or.inl ⟨a, fun p z => ?_⟩
      have := z.1
      exact b p (by omega) z
    · exact Or.inr a
  | succ d ih =>
    intro m l f e h2 h3 hf
    obtain ⟨m, rfl⟩ : ∃ j, m = j + 1 := ⟨m - 1, by omega⟩
    have hl : 0 ≤ l ∧ l < 24 := by omega
    obtain ⟨s1, s2, s3, s4, s5, s6⟩ := hY.seen hl
    unfold fo208_5
    rw [if_neg (by omega), if_pos hl, jo_le, if_pos (by omega), s5.1]
    have keep : ¬ jba G N l → ((f = -1 ∧ ∀ p, l + -1 < p → ¬ jba G N p) ∨ jba G N f) := fun hn => by
      rcases hf with ⟨a, b⟩ | a
      · refine Or.inl ⟨a, fun p hp z => ?_⟩
        by_cases ep : p = l
        · rw [ep] at z; exact hn z
        · exact b p (by omega) z
      · exact Or.inr a
    by_cases k0 : (jh G N l).1 = 0
    · rw [if_pos k0, if_pos (by omega)]
      exact ih m (l + -1) f (by omega) (by omega) (by omega) (keep (fun z => z.2.1 k0))
    · rw [if_neg k0, jo_le, if_pos (by omega), s5.2.1]
      by_cases c0 : (jh G N l).2.1 = 0
      · have hb : jba G N l := ⟨⟨by omega, hl.2⟩, k0, c0⟩
        obtain ⟨up, u1, u2⟩ := hpar l hb
        rw [if_pos c0, u1, jo_bs]
        dsimp only
        rw [if_neg u2, if_pos (by omega)]
        exact ih m (l + -1) l (by omega) (by omega) (by omega) (Or.inr hb)
      · rw [if_neg c0, if_pos (by omega)]
        exact ih m (l + -1) f (by omega) (by omega) (by omega) (keep (fun z => c0 z.2.2))
theorem jr_209 (hY : jY K G N x) : fo209 G = some (G, if (jh G N 0).1 = 2 ∧ (jh G N 0).2.1 = 1 then 1 else 0) := by
  obtain ⟨s1, s2, s3, s4, s5, s6⟩ := hY.seen (p := 0) (by decide)
  unfold fo209
  rw [if_pos (by decide), jo_le, if_pos (by omega), s5.1]
  by_cases c1 : (jh G N 0).1 = 2
  · rw [if_pos c1, jo_le, if_pos (by omega), s5.2.1]
    by_cases c2 : (jh G N 0).2.1 = 1
    · rw [if_pos c2, if_pos ⟨c1, c2⟩]
    · rw [if_neg c2, if_neg (fun z => c2 z.2)]
  · rw [if_neg c1, if_neg (fun z => c1 z.1)]
end
