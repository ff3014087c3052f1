/-! THE LAW'S OWN ROWS: ends, undoes -/
/-- what ends(t) makes of them -/
def jle (V : jg_G) (t : Int) : jg_G := fun n j => if n = 94 ∧ (j = 4 + t ∨ j = 8 + t ∨ j = 12 + t) then 0 else if n = 94 ∧ 0 ≤ j ∧ j < 4 ∧ (j = t ∨ V 94 j = t) then -1 else if n = 93 ∧ 0 ≤ j ∧ j < 32 ∧ V 93 j = t then -1 else V n j
theorem jle_h {K : jc_K} {t : Int} (ht : 0 ≤ t) : ∀ (m : Nat) (l : Int) (X : jg_G), 0 ≤ l → l ≤ 32 → 32 < l + m → ∃ V', fl147_56 m K X t l = some ((K, V'), 0) ∧ ∀ n j, V' n j = if n = 93 ∧ l ≤ j ∧ j < 32 ∧ X 93 j = t then -1 else X n j := by
  intro m
  induction m with
  | zero => intro l X h0 h1 h2; omega
  | succ m ih =>
    intro l X h0 h1 h2
    unfold fl147_56
    by_cases e : 32 ≤ l
    · rw [if_pos e]
      exact ⟨X, rfl, fun n j => by rw [if_neg (by omega)]⟩
    · rw [if_neg e, if_pos (by omega)]
      have go : ∀ w, w = (if X 93 l = t then -1 else X 93 l) → ∃ V', fl147_56 m K (jg_u X 93 l w) t (l + 1) = some ((K, V'), 0) ∧ ∀ n j, V' n j = if n = 93 ∧ l ≤ j ∧ j < 32 ∧ X 93 j = t then -1 else X n j := fun w hw => by
        obtain ⟨V', y1, y2⟩ := ih (l + 1) (jg_u X 93 l w) (by omega) (by omega) (by omega)
        refine ⟨V', y1, fun n j => ?_⟩
        rw [y2 n j]
        by_cases n93 : n = 93
        · subst n93
          by_cases ej : j = l
          · subst ej
            rw [jg_uH, if_neg (by omega), hw]
            by_cases c : X 93 j = t
            · rw [if_pos c, if_pos ⟨rfl, by omega, by omega, c⟩]
            · rw [if_neg c, if_neg (fun z => c z.2.2.2)]
          · rw [jg_uI ej]
            by_cases c : l + 1 ≤ j ∧ j < 32 ∧ X 93 j = t
            · rw [if_pos ⟨rfl, c⟩, if_pos ⟨rfl, by omega, c.2⟩]
            · rw [if_neg (fun z => c z.2), if_neg (fun z => c ⟨by omega, z.2.2⟩)]
        · rw [if_neg (fun z => n93 z.1), if_neg (fun z => n93 z.1), jg_uN n93]
      by_cases c : X 93 l = t
      · rw [if_pos c, if_pos (by omega)]
        exact go _ (by rw [if_pos c])
      · rw [if_neg c, if_pos (by omega)]
        exact go _ (by rw [if_neg c])
theorem jle_w {K : jc_K} {t : Int} (ht : 0 ≤ t ∧ t < 4) : ∀ (m : Nat) (l : Int) (X : jg_G), 0 ≤ l → l ≤ 4 → 4 < l + m → ∃ V', fl147_26 m K X t l = some ((K, V'), 0) ∧ ∀ n j, V' n j = if n = 94 ∧ l ≤ j ∧ j < 4 ∧ X 94 j = t then -1 else if n = 93 ∧ 0 ≤ j ∧ j < 32 ∧ X 93 j = t then -1 else X n j := by
  intro m
  induction m with
  | zero => intro l X h0 h1 h2; omega
  | succ m ih =>
    intro l X h0 h1 h2
    unfold fl147_26
    by_cases e : 4 ≤ l
    · rw [if_pos e]
      obtain ⟨V', y1, y2⟩ := jle_h (K := K) ht.1 jo_N 0 X (by decide) (by decide) (by decide)
      exact ⟨V', y1, fun n j => by rw [y2 n j, if_neg (show ¬ (n = 94 ∧ l ≤ j ∧ j < 4 ∧ X 94 j = t) by omega)]⟩
    · rw [if_neg e, if_pos (by omega)]
      have go : ∀ w, w = (if X 94 l = t then -1 else X 94 l) → ∃ V', fl147_26 m K (jg_u X 94 l w) t (l + 1) = some ((K, V'), 0) ∧ ∀ n j, V' n j = if n = 94 ∧ l ≤ j ∧ j < 4 ∧ X 94 j = t then -1 else if n = 93 ∧ 0 ≤ j ∧ j < 32 ∧ X 93 j = t then -1 else X n j := fun w hw => by
        obtain ⟨V', y1, y2⟩ := ih (l + 1) (jg_u X 94 l w) (by omega) (by omega) (by omega)
        refine ⟨V', y1, fun n j => ?_⟩
        rw [y2 n j]
        by_cases n94 : n = 94
        · subst n94
          rw [if_neg (show ¬ ((94 : Nat) = 93 ∧ 0 ≤ j ∧ j < 32 ∧ jg_u X 94 l w 93 j = t) from fun z => absurd z.1 (by decide)), if_neg (show ¬ ((94 : Nat) = 93 ∧ 0 ≤ j ∧ j < 32 ∧ X 93 j = t) from fun z => absurd z.1 (by decide))]
          by_cases ej : j = l
          · subst ej
            rw [jg_uH, if_neg (by omega), hw]
            by_cases c : X 94 j = t
            · rw [if_pos c, if_pos ⟨rfl, by omega, by omega, c⟩]
            · rw [if_neg c, if_neg (fun z => c z.2.2.2)]
          · rw [jg_uI ej]
            by_cases c : l + 1 ≤ j ∧ j < 4 ∧ X 94 j = t
            · rw [if_pos ⟨rfl, c⟩, if_pos ⟨rfl, by omega, c.2⟩]
            · rw [if_neg (fun z => c z.2), if_neg (fun z => c ⟨by omega, z.2.2⟩)]
        · simp only [n94, false_and, if_false]
          rw [jg_uN (show (93 : Nat) ≠ 94 by decide), jg_uN n94]
      by_cases c : X 94 l = t
      · rw [if_pos c, if_pos (by omega)]
        exact go _ (by rw [if_pos c])
      · rw [if_neg c, if_pos (by omega)]
        exact go _ (by rw [if_neg c])
theorem jl147 {K : jc_K} {V : jg_G} {t : Int} (ht : 0 ≤ t ∧ t < 4) : ∃ V', fl147 K V t = some ((K, V'), 0) ∧ ∀ n j, V' n j = jle V t n j := by
  unfold fl147
  rw [if_pos (by omega), if_pos (by omega), if_pos (by omega), if_pos (by omega)]
  obtain ⟨V', y1, y2⟩ := jle_w (K := K) ht jo_N 0 (jg_u (jg_u (jg_u (jg_u V 94 (4 + t) 0) 94 (8 + t) 0) 94 (12 + t) 0) 94 t (-1)) (by decide) (by decide) (by decide)
  refine ⟨V', y1, fun n j => ?_⟩
  rw [y2 n j]
  unfold jle
  by_cases n94 : n = 94
  · subst n94
    rw [if_neg (show ¬ ((94 : Nat) = 93 ∧ 0 ≤ j ∧ j < 32 ∧ jg_u (jg_u (jg_u (jg_u V 94 (4 + t) 0) 94 (8 + t) 0) 94 (12 + t) 0) 94 t (-1) 93 j = t) from fun z => absurd z.1 (by decide)), if_neg (show ¬ ((94 : Nat) = 93 ∧ 0 ≤ j ∧ j < 32 ∧ V 93 j = t) from fun z => absurd z.1 (by decide))]
    by_cases e4 : j = 4 + t
    · subst e4
      rw [if_neg (by omega), jg_uI (by omega), jg_uI (by omega), jg_uI (by omega), jg_uH, if_pos ⟨rfl, Or.inl rfl⟩]
    by_cases e8 : j = 8 + t
    · subst e8
      rw [if_neg (by omega), jg_uI (by omega), jg_uI (by omega), jg_uH, if_pos ⟨rfl, Or.inr (Or.inl rfl)⟩]
    by_cases e12 : j = 12 + t
    · subst e12
      rw [if_neg (by omega), jg_uI (by omega), jg_uH, if_pos ⟨rfl, Or.inr (Or.inr rfl)⟩]
    rw [if_neg (show ¬ ((94 : Nat) = 94 ∧ (j = 4 + t ∨ j = 8 + t ∨ j = 12 + t)) by omega)]
    by_cases et : j = t
    · subst et
      rw [jg_uH, if_neg (by omega), if_pos ⟨rfl, by omega, by omega, Or.inl rfl⟩]
    · rw [jg_uI et, jg_uI e12, jg_uI e8, jg_uI e4]
      by_cases c : 0 ≤ j ∧ j < 4 ∧ V 94 j = t
      · rw [if_pos ⟨rfl, c⟩, if_pos ⟨rfl, c.1, c.2.1, Or.inr c.2.2⟩]
      · rw [if_neg (fun z => c z.2), if_neg (fun z => c ⟨z.2.1, z.2.2.1, z.2.2.2.resolve_left et⟩)]
  · simp only [n94, false_and, if_false]
    rw [jg_uN (show (93 : Nat) ≠ 94 by decide), jg_uN (show (93 : Nat) ≠ 94 by decide), jg_uN (show (93 : Nat) ≠ 94 by decide), jg_uN (show (93 : Nat) ≠ 94 by decide), jg_uN n94, jg_uN n94, jg_uN n94, jg_uN n94]
/-- what the rows r, c, o hold of the changes L of t -/
def jll (V G : jg_G) (t : Int) : List Int → Prop
  | [] => True
  | u :: l => (V 95 (16 * t + l.length) = u ∧ V 96 (16 * t + l.length) = G 101 u ∧ V 97 (16 * t + l.length) = G 102 u ∧ (0 ≤ G 101 u ∧ G 101 u < 32)) ∧ jll V G t l
theorem jll.c {V V' G G' : jg_G} {t : Int} : ∀ {L : List Int}, jll V G t L → (∀ n j, n = 95 ∨ n = 96 ∨ n = 97 → 16 * t ≤ j → j < 16 * t + L.length → V' n j = V n j) → (∀ u ∈ L, G' 101 u = G 101 u ∧ G' 102 u = G 102 u) → jll V' G' t L
  | [], _, _, _ => trivial
  | u :: l, h, hV, hG => by
    obtain ⟨⟨a, b, c, d⟩, e⟩ := h
    obtain ⟨g1, g2⟩ := hG u List.mem_cons_self
    have ln : (u :: l).length = l.length + 1 := List.length_cons
    refine ⟨⟨?_, ?_, ?_, ?_⟩, jll.c e (fun n j hn j0 j1 => hV n j hn j0 (by omega)) (fun v hv => hG v (List.mem_cons_of_mem _ hv))⟩
    · rw [hV 95 _ (by decide) (by omega) (by omega)]; exact a
    · rw [hV 96 _ (by decide) (by omega) (by omega), g1]; exact b
    · rw [hV 97 _ (by decide) (by omega) (by omega), g2]; exact c
    · rw [g1]; exact d
theorem jl148 {K : jc_K} {G : jg_G} {t pl : Int} (ht : 0 ≤ t ∧ t < 4) : ∀ (L : List Int) (m : Nat) (V : jg_G) (A : Int → Int) (l7 : Int), L.length < m → L.length ≤ 16 → V 94 (12 + t) = L.length → jll V G t L → (∀ y, 0 ≤ y → y < 32 → V 92 y = A y) → 0 ≤ l7 → l7 + L.length ≤ 1000 → 0 ≤ V 94 (8 + t) → V 94 (8 + t) ≤ 100000 → ∃ V', fl148_3 m K V t pl l7 = some ((K, V'), l7 + (jzP G pl L A).2.2) ∧ (∀ y, 0 ≤ y → y < 32 → V' 92 y = (jzP G pl L A).2.1 y) ∧ V' 94 (12 + t) = (jzP G pl L A).1.length ∧ V' 94 (8 + t) = V 94 (8 + t) + (l7 + (jzP G pl L A).2.2) ∧ jll V' G t (jzP G pl L A).1 ∧ ((0 ≤ (jzP G pl L A).2.2 ∧ (jzP G pl L A).2.2 ≤ L.length) ∧ (jzP G pl L A).1.length ≤ L.length) ∧ ∀ n j, ¬ (n = 92 ∧ 0 ≤ j ∧ j < 32) → ¬ (n = 94 ∧ (j = 12 + t ∨ j = 8 + t)) → V' n j = V n j := by
  intro L
  induction L with
  | nil =>
    intro m V A l7 h1 h2 h3 h4 h5 h6 h7 h8 h9
    cases m with
    | zero => omega
    | succ m =>
      have e0 : V 94 (12 + t) = 0 := h3
      unfold fl148_3
      rw [if_pos (by omega), if_pos (by omega), if_pos (by omega), if_pos (by omega)]
      have e : jzP G pl [] A = ([], A, 0) := rfl
      rw [e]
      refine ⟨_, by rw [Int.add_zero], fun y y0 y1 => by rw [jg_uN (by decide)]; exact h5 y y0 y1, by rw [jg_uI (by omega)]; exact h3, by rw [jg_uH]; show _ = V 94 (8 + t) + (l7 + 0); omega, trivial, ⟨⟨Int.le_refl _, Int.le_refl _⟩, Nat.le_refl _⟩, fun n j _ b => ?_⟩
      by_cases n94 : n = 94
      · subst n94
        exact jg_uI (fun z => b ⟨rfl, Or.inr z⟩)
      · exact jg_uN n94
  | cons u l ih =>
    intro m V A l7 h1 h2 h3 h4 h5 h6 h7 h8 h9
    have ln : (u :: l).length = l.length + 1 := List.length_cons
    obtain ⟨⟨a, b, c, d⟩, e⟩ := id h4
    cases m with
    | zero => omega
    | succ m =>
      unfold fl148_3
      have p1 : 16 * t + V 94 (12 + t) - 1 = 16 * t + (l.length : Int) := by omega
      have p2 : 16 * t + (V 94 (12 + t) - 1) = 16 * t + (l.length : Int) := by omega
      rw [if_pos (by omega), if_neg (by omega), p1, p2, if_pos (by omega), a]
      by_cases hu : u ≤ pl
      · have e : jzP G pl (u :: l) A = (u :: l, A, 0) := by
          conv => lhs; unfold jzP
          rw [if_pos hu]
        rw [if_pos hu, if_pos (by omega), if_pos (by omega), e]
        refine ⟨_, by rw [Int.add_zero], fun y y0 y1 => by rw [jg_uN (by decide)]; exact h5 y y0 y1, by rw [jg_uI (by omega)]; exact h3, by rw [jg_uH]; show _ = V 94 (8 + t) + (l7 + 0); omega, h4.c (fun n j hn _ _ => jg_uN (by omega)) (fun _ _ => ⟨rfl, rfl⟩), ⟨⟨Int.le_refl _, by show (0 : Int) ≤ ((u :: l).length : Int); omega⟩, Nat.le_refl _⟩, fun n j _ b => ?_⟩
        by_cases n94 : n = 94
        · subst n94
          exact jg_uI (fun z => b ⟨rfl, Or.inr z⟩)
        · exact jg_uN n94
      · rw [if_neg hu, if_pos (by omega), if_pos (by omega), b, c, if_pos (by omega), if_pos (by omega), jzP_n hu]
        obtain ⟨V', y1, y2, y3, y4, y5, y6, y7⟩ := ih m (jg_u (jg_u V 94 (12 + t) (V 94 (12 + t) - 1)) 92 (G 101 u) (G 102 u)) (fun y => if y = G 101 u then G 102 u else A y) (l7 + 1) (by omega) (by omega) (by rw [jg_uN (by decide), jg_uH]; omega) (e.c (fun n j hn _ _ => (jg_uN (by omega)).trans (jg_uN (by omega))) (fun _ _ => ⟨rfl, rfl⟩)) (fun y y0 y1 => by
          by_cases ey : y = G 101 u
          · rw [if_pos ey, ey, jg_uH]
          · rw [if_neg ey, jg_uI ey, jg_uN (by decide)]; exact h5 y y0 y1) (by omega) (by omega) (by rw [jg_uN (by decide), jg_uI (by omega)]; exact h8) (by rw [jg_uN (by decide), jg_uI (by omega)]; exact h9)
        refine ⟨V', by rw [y1]; show some _ = some ((K, V'), l7 + (_ + 1)); congr 2; omega, y2, y3, ?_, y5, ⟨⟨?_, ?_⟩, ?_⟩, fun n j hn hb => ?_⟩
        · rw [y4, jg_uN (by decide), jg_uI (by omega)]
          show _ = V 94 (8 + t) + (l7 + (_ + 1))
          omega
        · show 0 ≤ (_ + 1 : Int)
          omega
        · show (_ + 1 : Int) ≤ ((u :: l).length : Int)
          omega
        · exact Nat.le_trans y6.2 (by omega)
        · rw [y7 n j hn hb]
          by_cases n92 : n = 92
          · subst n92
            rw [jg_uI (by omega), jg_uN (by decide)]
          · rw [jg_uN n92]
            by_cases n94 : n = 94
            · subst n94
              exact jg_uI (fun z => hb ⟨rfl, Or.inl z⟩)
            · exact jg_uN n94
