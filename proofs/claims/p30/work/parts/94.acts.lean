/-! THE REFERENCE'S SMALL ACTIONS: acts() -/
def ja_g (G : jg_G) (w r x0 x1 x2 n : Int) : jg_G := jg_u (jg_u (jg_u (jg_u (fr_no G w ((-1) : Int)) 106 (3 * r) x0) 106 (3 * r + 1) x1) 106 (3 * r + 2) x2) 105 r n
theorem jo_171 {G : jg_G} {N : Nat} {w a b c : Int} (h12 : G 92 12 = N) (hN : N < 1100) (hab : a ≠ b) (hc : c ≠ a ∧ c ≠ b) : ∃ x0 x1 x2 lo hi, fo171 G w a b c = fo171_160 jo_N (ja_g G w ((N : Int) + 1) x0 x1 x2 (if c = -1 then 2 else 3)) w a b c ((N : Int) + 1) lo hi 0 ∧ x0 < x1 ∧ ((c = -1 ∧ x2 = -1 ∧ ((x0 = a ∧ x1 = b) ∨ (x0 = b ∧ x1 = a))) ∨ (c ≠ -1 ∧ x1 < x2 ∧ ((x0 = a ∧ x1 = b ∧ x2 = c) ∨ (x0 = a ∧ x1 = c ∧ x2 = b) ∨ (x0 = b ∧ x1 = a ∧ x2 = c) ∨ (x0 = b ∧ x1 = c ∧ x2 = a) ∨ (x0 = c ∧ x1 = a ∧ x2 = b) ∨ (x0 = c ∧ x1 = b ∧ x2 = a)))) := by
  unfold fo171
  rw [h12, if_pos ⟨by omega, by omega⟩, if_pos (by decide), jo_le]
  have p0 : 0 ≤ 3 * ((N : Int) + 1) ∧ 3 * ((N : Int) + 1) < 4503 := by omega
  have p1 : 0 ≤ 3 * ((N : Int) + 1) + 1 ∧ 3 * ((N : Int) + 1) + 1 < 4503 := by omega
  have p2 : 0 ≤ 3 * ((N : Int) + 1) + 2 ∧ 3 * ((N : Int) + 1) + 2 < 4503 := by omega
  have p3 : 0 ≤ (N : Int) + 1 ∧ (N : Int) + 1 < 1501 := by omega
  simp only [if_pos p0, if_pos p1, if_pos p2, if_pos p3]
  by_cases ab : b ≤ a
  · rw [if_pos ab]
    by_cases e : c = -1
    · rw [if_pos e, if_pos e]
      exact ⟨b, a, -1, b, a, rfl, by omega, Or.inl ⟨e, rfl, Or.inr ⟨rfl, rfl⟩⟩⟩
    · rw [if_neg e, if_neg e]
      by_cases c1 : b ≤ c
      · rw [if_pos c1]
        by_cases c2 : c ≤ a
        · rw [if_pos c2]
          exact ⟨b, c, a, b, a, rfl, by omega, Or.inr ⟨e, by omega, by omega⟩⟩
        · rw [if_neg c2]
          exact ⟨b, a, c, b, a, rfl, by omega, Or.inr ⟨e, by omega, by omega⟩⟩
      · rw [if_neg c1]
        by_cases c2 : c ≤ a
        · rw [if_pos c2]
          exact ⟨c, b, a, b, a, rfl, by omega, Or.inr ⟨e, by omega, by omega⟩⟩
        · omega
  · rw [if_neg ab]
    by_cases e : c = -1
    · rw [if_pos e, if_pos e]
      exact ⟨a, b, -1, a, b, rfl, by omega, Or.inl ⟨e, rfl, Or.inl ⟨rfl, rfl⟩⟩⟩
    · rw [if_neg e, if_neg e]
      by_cases c1 : a ≤ c
      · rw [if_pos c1]
        by_cases c2 : c ≤ b
        · rw [if_pos c2]
          exact ⟨a, c, b, a, b, rfl, by omega, Or.inr ⟨e, by omega, by omega⟩⟩
        · rw [if_neg c2]
          exact ⟨a, b, c, a, b, rfl, by omega, Or.inr ⟨e, by omega, by omega⟩⟩
      · rw [if_neg c1]
        by_cases c2 : c ≤ b
        · rw [if_pos c2]
          exact ⟨c, a, b, a, b, rfl, by omega, Or.inr ⟨e, by omega, by omega⟩⟩
        · omega
/-- the rows of a small action: of the pages P, by rising numbers; c: what they hold -/
def jr_I (G : jg_G) (r m : Int) (c : Int → jp_C) (P : Int → Prop) : Prop := G 105 r = m ∧ (∀ k, 0 ≤ k → k < m → (0 ≤ G 106 (3 * r + k) ∧ G 106 (3 * r + k) < 24) ∧ jp_r G (54 + 3 * (r - 1) + k) (c (G 106 (3 * r + k))) ∧ P (G 106 (3 * r + k))) ∧ (∀ k, 0 ≤ k → k + 1 < m → G 106 (3 * r + k) < G 106 (3 * r + (k + 1))) ∧ ∀ y, P y → ∃ k, 0 ≤ k ∧ k < m ∧ G 106 (3 * r + k) = y
/-- the rows are copied -/
theorem jo_171l {r m w a b c7 lo hi : Int} {c : Int → jp_C} (hr : 1 ≤ r ∧ r < 1501) (hm : m ≤ 3) : ∀ (f : Nat) (k : Int) (G : jg_G), G 105 r = m → 0 ≤ k → k ≤ m → m < k + f → (∀ j, 0 ≤ j → j < m → 0 ≤ G 106 (3 * r + j) ∧ G 106 (3 * r + j) < 24) → (∀ p, 0 ≤ p → p < 24 → (0 ≤ fr_ro G p ∧ fr_ro G p < 54) ∧ jp_r G (fr_ro G p) (c p) ∧ (c p).2.1 ≤ 32) → (∀ j, 0 ≤ j → j < k → jp_r G (54 + 3 * (r - 1) + j) (c (G 106 (3 * r + j)))) → ∃ G', fo171_160 f G w a b c7 r lo hi k = some (G', r) ∧ (∀ n j, ¬ (n = 93 ∧ 67 * (54 + 3 * (r - 1)) ≤ j ∧ j < 67 * (54 + 3 * r)) → G' n j = G n j) ∧ ∀ j, 0 ≤ j → j < m → jp_r G' (54 + 3 * (r - 1) + j) (c (G 106 (3 * r + j))) := by
  intro f
  induction f with
  | zero => intro k G h5 h0 h1 h2; omega
  | succ f ih =>
    intro k G h5 h0 h1 h2 hp hs hd
    unfold fo171_160
    rw [if_pos ⟨by omega, hr.2⟩, h5]
    by_cases e : m ≤ k
    · rw [if_pos e]
      exact ⟨G, rfl, fun _ _ _ => rfl, fun j j0 j1 => hd j j0 (by omega)⟩
    · obtain ⟨q0, q1⟩ := hp k h0 (by omega)
      obtain ⟨⟨s0, s1⟩, s2, s3⟩ := hs _ q0 q1
      rw [if_neg e, if_pos ⟨by omega, by omega⟩, if_pos ⟨q0, q1⟩, jo_le, if_pos ⟨s0, by omega⟩, if_pos ⟨by omega, by omega⟩, if_pos ⟨by omega, by omega⟩]
      obtain ⟨c1, c2, _⟩ := jr_copies (b := 54 + 3 * (r - 1) + k) s3 s2
      have o : ∀ n j, ¬ (n = 93 ∧ 67 * (54 + 3 * (r - 1) + k) ≤ j ∧ j < 67 * (54 + 3 * (r - 1) + k) + 67) → fr_copies G (fr_ro G (G 106 (3 * r + k))) (54 + 3 * (r - 1) + k) n j = G n j := fun n j z => c1 n j z
      generalize fr_copies G (fr_ro G (G 106 (3 * r + k))) (54 + 3 * (r - 1) + k) = G1 at c1 c2 o ⊢
      have ro : ∀ p, fr_ro G1 p = fr_ro G p := fun p => by
        have : ∀ f, G1 95 f = G 95 f := fun f => o 95 f (by omega)
        unfold fr_ro fr_fo
        simp only [this]
      have e106 : ∀ j, G1 106 j = G 106 j := fun j => o 106 j (by omega)
      obtain ⟨G', x1, x2, x3⟩ := ih (k + 1) G1 ((o 105 r (by omega)).trans h5) (by omega) (by omega) (by omega) (fun j j0 j1 => by rw [e106]; exact hp j j0 j1) (fun p p0 p1 => by
        obtain ⟨⟨t0, t1⟩, t2, t3⟩ := hs p p0 p1
        rw [ro]
        exact ⟨⟨t0, t1⟩, c1.r (by omega) t3 t2, t3⟩) (fun j j0 j1 => by
        rw [e106]
        by_cases ej : j = k
        · rw [ej]; exact c2
        · obtain ⟨t0, t1⟩ := hp j j0 (by omega)
          exact c1.r (by omega) (hs _ t0 t1).2.2 (hd j j0 (by omega)))
      refine ⟨G', x1, fun n j z => (x2 n j z).trans (o n j (by omega)), fun j j0 j1 => ?_⟩
      have := x3 j j0 j1
      rw [e106] at this
      exact this
