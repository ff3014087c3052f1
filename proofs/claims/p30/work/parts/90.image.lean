/-! AN IMAGE TOLD: tellImage() -/
/-- pages and records stay where shapes do and the pointers of their own names -/
theorem jc_pg_k {K K' : jc_K} {p : Nat} (h : jc_pg K p) (h1 : K'.1 = K.1) (h2 : K'.2.1 = K.2.1) (h3 : jc_p K' p 3 = jc_p K p 3) : jc_pg K' p := by
  obtain ⟨a, b, c, d⟩ := h
  exact ⟨by rw [h1]; exact a, by rw [h2]; exact b, (show jc_p K' p 3 = p + 1 from h3.trans c), d⟩
theorem jc_rc_k {K K' : jc_K} {p : Nat} (h : jc_rc K p) (h1 : K'.1 = K.1) (h2 : K'.2.1 = K.2.1) (h3 : ∀ i, jc_p K' p i = jc_p K p i) : jc_rc K' p := by
  obtain ⟨a, b, c, d⟩ := h
  exact ⟨by rw [h1]; exact a, by rw [h2]; exact b, (show jc_p K' p 9 = p + 1 from (h3 9).trans c), (show jc_p K' p 10 = p + 2 from (h3 10).trans d)⟩
def jk_27 (K K2 : jc_K) (q a : Nat) (num k pos : Int) : Prop := (K2.1 = K.1 ∧ K2.2.1 = K.2.1) ∧ (∀ n i, n ≠ q + 1 → (n ≠ q ∨ i ≠ 8) → jc_i K2 n i = jc_i K n i) ∧ (∀ n i, n ≠ q + 2 → jc_p K2 n i = jc_p K n i) ∧ (∀ j, jc_i K2 (q + 1) j = if j < pos then jc_i K (q + 1) j else if j = pos then num else if j ≤ k then jc_i K (q + 1) (j - 1) else jc_i K (q + 1) j) ∧ (∀ j, jc_p K2 (q + 2) j = if j < pos then jc_p K (q + 2) j else if j = pos then a else if j ≤ k then jc_p K (q + 2) (j - 1) else jc_p K (q + 2) j) ∧ (0 ≤ pos ∧ pos ≤ k) ∧ (0 < pos → jc_i K (q + 1) (pos - 1) ≤ num) ∧ ∀ j, pos ≤ j → j < k → num < jc_i K (q + 1) j
theorem jk_27_e {K : jc_K} {q a : Nat} {num k n8 : Int} (hk : 0 ≤ k ∧ k < 3) (h0 : 0 < k → jc_i K (q + 1) (k - 1) ≤ num) : jk_27 K (jc_ui (jc_up (jc_ui K (q + 1) k num) (q + 2) k a) q 8 n8) q a num k k := by
  refine ⟨⟨rfl, rfl⟩, fun n i h1 h2 => ?_, fun n i h1 => ?_, fun j => ?_, fun j => ?_, ⟨hk.1, Int.le_refl _⟩, h0, fun j a b => by omega⟩
  · simp only [jc_i, jc_ui, jc_up, jg_u]
    rw [if_neg (by omega), if_neg (by omega)]
  · simp only [jc_p, jc_ui, jc_up]
    rw [if_neg (by omega)]
  · simp only [jc_i, jc_ui, jc_up, jg_u]
    rw [if_neg (by omega)]
    by_cases e : j = k
    · rw [if_pos ⟨trivial, e⟩, if_neg (show ¬ j < k by omega), if_pos e]
    · rw [if_neg (by omega), if_neg e]
      by_cases e2 : j < k
      · rw [if_pos e2]
      · rw [if_neg e2, if_neg (by omega)]
  · simp only [jc_p, jc_ui, jc_up]
    by_cases e : j = k
    · rw [if_pos ⟨trivial, e⟩, if_neg (show ¬ j < k by omega), if_pos e]
    · rw [if_neg (by omega), if_neg e]
      by_cases e2 : j < k
      · rw [if_pos e2]
      · rw [if_neg e2, if_neg (by omega)]
theorem jk_fc27_l {q a : Nat} {num n8 : Int} (hn : 0 ≤ n8 ∧ n8 < 3) : ∀ (m : Nat) (k : Int) (K : jc_K), jc_rc K q → 0 ≤ k → k < 3 → k < m → jc_pg K a → (∀ j, 0 ≤ j → j < k → jc_p K (q + 2) j = 0 ∨ jc_pg K (jc_p K (q + 2) j)) → jc_i K q 8 = n8 → ∃ pos K2, jk_27 K K2 q a num k pos ∧ jc_i K2 q 8 = n8 + 1 ∧ fc27_43 m K q num k a = (fc34 K2 a 0).bind fun x => some (x.1, a) := by
  intro m
  induction m with
  | zero => intro k K _ h0 h1 h2; omega
  | succ m ih =>
    intro k K hq h0 h1 h2 ha hp h8
    have hs := hq.2.1
    have pg : ∀ p, jc_pg K p → ∀ (K' : jc_K), K'.1 = K.1 → K'.2.1 = K.2.1 → (∀ n i, n ≠ q + 2 → jc_p K' n i = jc_p K n i) → jc_pg K' p := fun p h K' e1 e2 e3 => jc_pg_k h e1 e2 (e3 p 3 (fun z => by have := h.2.1.1; rw [z, hs.2.2] at this; exact absurd this (by decide)))
    -- the end
    have fin : ∀ h0' : 0 < k → jc_i K (q + 1) (k - 1) ≤ num, ∃ pos K2, jk_27 K K2 q a num k pos ∧ jc_i K2 q 8 = n8 + 1 ∧ (if jc_rc K q then if 0 ≤ k ∧ k < 3 then if a = 0 ∨ jc_pg K a then if jc_rc (jc_up (jc_ui K (q + 1) k num) (q + 2) k a) q then if 3 ≤ jc_i K q 8 then (if jc_pg (jc_up (jc_ui K (q + 1) k num) (q + 2) k a) a then (fc34 (jc_up (jc_ui K (q + 1) k num) (q + 2) k a) a 0).bind fun x10 => some (x10.1, a) else none) else (if -2147483648 ≤ ((jc_i K q 8) + 1) ∧ ((jc_i K q 8) + 1) < 2147483648 then if jc_pg (jc_up (jc_ui K (q + 1) k num) (q + 2) k a) a then (fc34 (jc_ui (jc_up (jc_ui K (q + 1) k num) (q + 2) k a) q 8 ((jc_i K q 8) + 1)) a 0).bind fun x15 => some (x15.1, a) else none else none) else none else none else none else none) = (fc34 K2 a 0).bind fun x => some (x.1, a) := fun h0' => by
      refine ⟨k, jc_ui (jc_up (jc_ui K (q + 1) k num) (q + 2) k a) q 8 (n8 + 1), jk_27_e ⟨h0, h1⟩ h0', jc_uH, ?_⟩
      have up : ∀ n i, n ≠ q + 2 → jc_p (jc_up (jc_ui K (q + 1) k num) (q + 2) k a) n i = jc_p K n i := fun n i hni => by
        simp only [jc_p, jc_ui, jc_up]
        rw [if_neg (by omega)]
      have rc2 : jc_rc (jc_up (jc_ui K (q + 1) k num) (q + 2) k a) q := jc_rc_k hq rfl rfl (fun i => up q i (by omega))
      have pg2 : jc_pg (jc_up (jc_ui K (q + 1) k num) (q + 2) k a) a := pg a ha _ rfl rfl up
      rw [if_pos hq, if_pos ⟨h0, h1⟩, if_pos (Or.inr ha), if_pos rc2, h8, if_neg (by omega), if_pos ⟨by omega, by omega⟩, if_pos pg2]
    unfold fc27_43
    by_cases c : k ≤ 0
    · rw [if_pos c]
      exact fin (fun z => by omega)
    · rw [if_neg c]
      by_cases c2 : jc_i K (q + 1) (k - 1) ≤ num
      · obtain ⟨pos, K2, f1, f2, f3⟩ := fin (fun _ => c2)
        refine ⟨pos, K2, f1, f2, ?_⟩
        rw [← f3, if_pos hq, if_pos ⟨by omega, by omega⟩, if_pos c2, if_pos hq]
      · have up : ∀ n i, n ≠ q + 2 → jc_p (jc_up (jc_ui K (q + 1) k (jc_i K (q + 1) (k - 1))) (q + 2) k (jc_p K (q + 2) (k - 1))) n i = jc_p K n i := fun n i hni => by
          simp only [jc_p, jc_ui, jc_up]
          rw [if_neg (by omega)]
        have upq : ∀ i, jc_p (jc_up (jc_ui K (q + 1) k (jc_i K (q + 1) (k - 1))) (q + 2) k (jc_p K (q + 2) (k - 1))) (q + 2) i = if i = k then jc_p K (q + 2) (k - 1) else jc_p K (q + 2) i := fun i => by
          simp only [jc_p, jc_ui, jc_up]
          by_cases e : i = k
          · rw [if_pos ⟨trivial, e⟩, if_pos e]
          · rw [if_neg (by omega), if_neg e]
        have ui : ∀ n i, n ≠ q + 1 → jc_i (jc_up (jc_ui K (q + 1) k (jc_i K (q + 1) (k - 1))) (q + 2) k (jc_p K (q + 2) (k - 1))) n i = jc_i K n i := fun n i hni => by
          simp only [jc_i, jc_ui, jc_up, jg_u]
          rw [if_neg (by omega)]
        have uiq : ∀ i, jc_i (jc_up (jc_ui K (q + 1) k (jc_i K (q + 1) (k - 1))) (q + 2) k (jc_p K (q + 2) (k - 1))) (q + 1) i = if i = k then jc_i K (q + 1) (k - 1) else jc_i K (q + 1) i := fun i => by
          simp only [jc_i, jc_ui, jc_up, jg_u]
          by_cases e : i = k
          · rw [if_pos ⟨trivial, e⟩, if_pos e]
          · rw [if_neg (by omega), if_neg e]
        have e1 : (jc_up (jc_ui K (q + 1) k (jc_i K (q + 1) (k - 1))) (q + 2) k (jc_p K (q + 2) (k - 1))).1 = K.1 := rfl
        have e2 : (jc_up (jc_ui K (q + 1) k (jc_i K (q + 1) (k - 1))) (q + 2) k (jc_p K (q + 2) (k - 1))).2.1 = K.2.1 := rfl
        rw [if_pos hq, if_pos ⟨by omega, by omega⟩, if_neg c2, if_pos ⟨h0, h1⟩, jo_lne, if_pos (hp (k - 1) (by omega) (by omega)), if_pos ⟨by omega, by omega⟩]
        generalize jc_up (jc_ui K (q + 1) k (jc_i K (q + 1) (k - 1))) (q + 2) k (jc_p K (q + 2) (k - 1)) = Kn at up upq ui uiq e1 e2 ⊢
        obtain ⟨pos, K2, ⟨⟨x1, x2⟩, x3, x4, x5, x6, ⟨x7, x8⟩, x9, x10⟩, y, z⟩ := ih (k + -1) Kn (jc_rc_k hq e1 e2 (fun i => up q i (by omega))) (by omega) (by omega) (by omega) (pg a ha Kn e1 e2 up) (fun j j0 j1 => by
          rw [upq, if_neg (by omega)]
          exact (hp j j0 (by omega)).imp id (fun h => pg _ h Kn e1 e2 up)) (by rw [ui q 8 (by omega)]; exact h8)
        refine ⟨pos, K2, ⟨⟨x1.trans e1, x2.trans e2⟩, fun n i h1 h2 => (x3 n i h1 h2).trans (ui n i h1), fun n i h1 => (x4 n i h1).trans (up n i h1), fun j => ?_, fun j => ?_, ⟨x7, by omega⟩, fun z => ?_, fun j j0 j1 => ?_⟩, y, z⟩
        · rw [x5, uiq, uiq]
          by_cases a1 : j < pos
          · rw [if_pos a1, if_pos a1, if_neg (by omega)]
          · rw [if_neg a1, if_neg a1]
            by_cases a2 : j = pos
            · rw [if_pos a2, if_pos a2]
            · rw [if_neg a2, if_neg a2]
              by_cases a3 : j ≤ k + -1
              · rw [if_pos a3, if_neg (show ¬ j - 1 = k by omega), if_pos (show j ≤ k by omega)]
              · rw [if_neg a3]
                by_cases a4 : j = k
                · rw [if_pos a4, if_pos (show j ≤ k by omega), a4]
                · rw [if_neg a4, if_neg (show ¬ j ≤ k by omega)]
        · rw [x6, upq, upq]
          by_cases a1 : j < pos
          · rw [if_pos a1, if_pos a1, if_neg (by omega)]
          · rw [if_neg a1, if_neg a1]
            by_cases a2 : j = pos
            · rw [if_pos a2, if_pos a2]
            · rw [if_neg a2, if_neg a2]
              by_cases a3 : j ≤ k + -1
              · rw [if_pos a3, if_neg (show ¬ j - 1 = k by omega), if_pos (show j ≤ k by omega)]
              · rw [if_neg a3]
                by_cases a4 : j = k
                · rw [if_pos a4, if_pos (show j ≤ k by omega), a4]
                · rw [if_neg a4, if_neg (show ¬ j ≤ k by omega)]
        · have := x9 z
          rw [uiq, if_neg (by omega)] at this
          exact this
        · by_cases e : j = k - 1
          · rw [e]; omega
          · have := x10 j j0 (by omega)
            rw [uiq, if_neg (by omega)] at this
            exact this
