/-! what the small functions of pages give -/
theorem fr_scan_sp (G : jg_G) (a x : Int) : ∀ (m : Nat) (k : Int), 0 ≤ k → k ≤ G 93 (67 * a + 2) → G 93 (67 * a + 2) ≤ k + m → k ≤ fr_scan G a x m k ∧ fr_scan G a x m k ≤ G 93 (67 * a + 2) ∧ (∀ i, k ≤ i → i < fr_scan G a x m k → G 93 (67 * a + 3 + 2 * i) < x) ∧ (fr_scan G a x m k < G 93 (67 * a + 2) → x ≤ G 93 (67 * a + 3 + 2 * fr_scan G a x m k)) := by
  intro m
  induction m with
  | zero =>
    intro k h0 h1 h2
    unfold fr_scan
    exact ⟨by omega, by omega, fun i _ _ => by omega, fun _ => by omega⟩
  | succ m ih =>
    intro k h0 h1 h2
    unfold fr_scan
    split
    · exact ⟨by omega, by omega, fun i _ _ => by omega, fun _ => by omega⟩
    · split
      · exact ⟨by omega, by omega, fun i _ _ => by omega, fun _ => by assumption⟩
      · rename_i c1 c2
        obtain ⟨e1, e2, e3, e4⟩ := ih (k + 1) (by omega) (by omega) (by omega)
        refine ⟨by omega, e2, fun i hi hi2 => ?_, e4⟩
        by_cases hik : i = k
        · subst hik; omega
        · exact e3 i (by omega) hi2
theorem fr_cs_sp (G : jg_G) (a x : Int) : ∀ (m : Nat) (k : Int), 0 ≤ k → G 93 (67 * a + 2) ≤ k + 1 + m → k ≤ fr_cs G a x m k ∧ (k < G 93 (67 * a + 2) → fr_cs G a x m k < G 93 (67 * a + 2)) ∧ (G 93 (67 * a + 2) ≤ k → fr_cs G a x m k = k) ∧ (∀ i, k < i → i ≤ fr_cs G a x m k → G 93 (67 * a + 3 + 2 * i) ≤ x) ∧ (fr_cs G a x m k + 1 < G 93 (67 * a + 2) → x < G 93 (67 * a + 3 + 2 * (fr_cs G a x m k + 1))) := by
  intro m
  induction m with
  | zero =>
    intro k h0 h2
    unfold fr_cs
    exact ⟨by omega, by omega, fun _ => rfl, fun i _ _ => by omega, fun _ => by omega⟩
  | succ m ih =>
    intro k h0 h2
    unfold fr_cs
    split
    · exact ⟨by omega, by omega, fun _ => rfl, fun i _ _ => by omega, fun _ => by omega⟩
    · split
      · exact ⟨by omega, by omega, fun _ => rfl, fun i _ _ => by omega, fun _ => by assumption⟩
      · rename_i c1 c2
        obtain ⟨e1, e2, e3, e4, e5⟩ := ih (k + 1) (by omega) (by omega)
        refine ⟨by omega, fun _ => e2 (by omega), fun _ => by omega, fun i hi hi2 => ?_, e5⟩
        by_cases hik : i = k + 1
        · subst hik; omega
        · exact e4 i (by omega) hi2
theorem fr_fo_r (G : jg_G) (p : Int) : -1 ≤ fr_fo G p ∧ fr_fo G p < 4 ∧ (0 ≤ fr_fo G p → G 95 (fr_fo G p) = p) := by
  unfold fr_fo
  split
  · exact ⟨by decide, by decide, fun _ => by assumption⟩
  split
  · exact ⟨by decide, by decide, fun _ => by assumption⟩
  split
  · exact ⟨by decide, by decide, fun _ => by assumption⟩
  split
  · exact ⟨by decide, by decide, fun _ => by assumption⟩
  · exact ⟨by decide, by decide, fun h => absurd h (by decide)⟩
theorem fr_cps_sp (G : jg_G) (a p : Int) : ∀ (m : Nat) (f k : Int), 0 ≤ k → G 93 (67 * a + 2) ≤ k + m → (fr_cps G a p m f k = f ∧ (∀ i, k ≤ i → i < G 93 (67 * a + 2) → G 93 (67 * a + 4 + 2 * i) ≠ p)) ∨ (k ≤ fr_cps G a p m f k ∧ fr_cps G a p m f k < G 93 (67 * a + 2) ∧ G 93 (67 * a + 4 + 2 * fr_cps G a p m f k) = p) := by
  intro m
  induction m with
  | zero =>
    intro f k h0 h1
    unfold fr_cps
    exact Or.inl ⟨rfl, fun i _ _ => by omega⟩
  | succ m ih =>
    intro f k h0 h1
    unfold fr_cps
    split
    · exact Or.inl ⟨rfl, fun i _ _ => by omega⟩
    · rename_i c
      rcases ih (if G 93 (67 * a + 4 + 2 * k) = p then k else f) (k + 1) (by omega) (by omega) with ⟨e1, e2⟩ | ⟨e1, e2, e3⟩
      · by_cases hp : G 93 (67 * a + 4 + 2 * k) = p
        · rw [if_pos hp] at e1 ⊢
          rw [e1]
          exact Or.inr ⟨by omega, by omega, hp⟩
        · rw [if_neg hp] at e1 ⊢
          rw [e1]
          refine Or.inl ⟨rfl, fun i hi hi2 => ?_⟩
          by_cases hik : i = k
          · subst hik; exact hp
          · exact e2 i (by omega) hi2
      · exact Or.inr ⟨by omega, e2, e3⟩
