/-! MARK: its numbers filled in, the reference -/
theorem fr_fo_93 {G : jg_G} {i v p : Int} : fr_fo (jg_u G 93 i v) p = fr_fo G p := by
  have e : ∀ j, jg_u G 93 i v 95 j = G 95 j := fun j => jg_uN (by decide)
  unfold fr_fo
  rw [e 3, e 2, e 1, e 0]
theorem jr_80l {r b : Int} (hb : 0 ≤ b ∧ b + 28 ≤ 305118) : ∀ (m : Nat) (l : Int) (G : jg_G), 0 ≤ l → l ≤ 24 → 24 < l + m → ∃ X, fo200_80 m G r b l = fo200_80 1 X r b 24 ∧ (∀ n j, ¬ (n = 93 ∧ b + 4 + l ≤ j ∧ j < b + 28) → X n j = G n j) ∧ ∀ p, l ≤ p → p < 24 → X 93 (b + 4 + p) = if fr_fo G p = -1 then 0 else G 97 (fr_fo G p)
  | 0, l, G, h0, h1, h2 => by omega
  | m + 1, l, G, h0, h1, h2 => by
    by_cases h4 : 24 ≤ l
    · have e : l = 24 := by omega
      subst e
      refine ⟨G, ?_, fun _ _ _ => rfl, fun p p0 p1 => by omega⟩
      unfold fo200_80
      rw [if_pos (show (24 : Int) ≤ 24 by decide), if_pos (show (24 : Int) ≤ 24 by decide)]
    have fr := fr_fo_r G l
    have rg : -2147483648 ≤ (l + 1) ∧ (l + 1) < 2147483648 := by omega
    have ri : 0 ≤ b + 4 + l ∧ b + 4 + l < 305118 := by omega
    have st : ∀ v : Int, (v = if fr_fo G l = -1 then 0 else G 97 (fr_fo G l)) → ∃ X, fo200_80 m (jg_u G 93 (b + 4 + l) v) r b (l + 1) = fo200_80 1 X r b 24 ∧ (∀ n j, ¬ (n = 93 ∧ b + 4 + l ≤ j ∧ j < b + 28) → X n j = G n j) ∧ ∀ p, l ≤ p → p < 24 → X 93 (b + 4 + p) = if fr_fo G p = -1 then 0 else G 97 (fr_fo G p) := fun v hv => by
      obtain ⟨X, r1, r2, r3⟩ := jr_80l hb m (l + 1) (jg_u G 93 (b + 4 + l) v) (by omega) (by omega) (by omega)
      refine ⟨X, r1, fun n j hn => ?_, fun p p0 p1 => ?_⟩
      · rw [r2 n j (by omega)]
        by_cases e : n = 93
        · rw [e]; exact jg_uI (by omega)
        · exact jg_uN e
      · by_cases e : p = l
        · rw [e, r2 93 (b + 4 + l) (by omega), jg_uH]; exact hv
        · rw [r3 p (by omega) p1, fr_fo_93, jg_uN (by decide)]
    unfold fo200_80
    rw [if_neg h4, jo_le]
    by_cases e : fr_fo G l = -1
    · rw [if_pos e, if_pos ri, if_pos rg]
      exact st 0 (if_pos e).symm
    · rw [if_neg e, if_pos (show 0 ≤ fr_fo G l ∧ fr_fo G l < 4 by omega), if_pos ri, if_pos rg]
      exact st _ (if_neg e).symm
theorem jr_53l {r b : Int} (hb : 0 ≤ b ∧ b + 28 ≤ 305118) : ∀ (m : Nat) (l : Int) (G : jg_G), 0 ≤ l → l ≤ 4 → 4 < l + m → ∃ X, fo200_53 m G r b l = fo200_80 1 X r b 24 ∧ (∀ n j, ¬ (n = 93 ∧ b + l ≤ j ∧ j < b + 28) → X n j = G n j) ∧ (∀ t, l ≤ t → t < 4 → X 93 (b + t) = G 108 t) ∧ ∀ p, 0 ≤ p → p < 24 → X 93 (b + 4 + p) = if fr_fo G p = -1 then 0 else G 97 (fr_fo G p)
  | 0, l, G, h0, h1, h2 => by omega
  | m + 1, l, G, h0, h1, h2 => by
    unfold fo200_53
    by_cases h4 : 4 ≤ l
    · rw [if_pos h4]
      obtain ⟨X, r1, r2, r3⟩ := jr_80l (r := r) hb jo_N 0 G (by decide) (by decide) (by unfold jo_N; omega)
      exact ⟨X, r1, fun n j hn => r2 n j (by omega), fun t t0 t1 => by omega, r3⟩
    rw [if_neg h4, if_pos (show 0 ≤ l ∧ l < 4 by omega), if_pos (show 0 ≤ b + l ∧ b + l < 305118 by omega), if_pos (show -2147483648 ≤ (l + 1) ∧ (l + 1) < 2147483648 by omega)]
    obtain ⟨X, r1, r2, r3, r4⟩ := jr_53l hb m (l + 1) (jg_u G 93 (b + l) (G 108 l)) (by omega) (by omega) (by omega)
    refine ⟨X, r1, fun n j hn => ?_, fun t t0 t1 => ?_, fun p p0 p1 => ?_⟩
    · rw [r2 n j (by omega)]
      by_cases e : n = 93
      · rw [e]; exact jg_uI (by omega)
      · exact jg_uN e
    · by_cases e : t = l
      · rw [e, r2 93 (b + l) (by omega), jg_uH]
      · rw [r3 t (by omega) t1, jg_uN (by decide)]
    · rw [r4 p p0 p1, fr_fo_93, jg_uN (by decide)]
