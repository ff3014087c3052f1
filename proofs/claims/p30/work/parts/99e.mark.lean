/-! MARK: its numbers filled in, the class -/
theorem jk_67l {q a : Nat} : ∀ (m : Nat) (l : Int) (K : jc_K), 0 ≤ l → l ≤ 4 → 4 < l + m → jc_rc K q → jc_p K q 11 = a → jc_ta K a 4 → ∃ K', fc67_16 m K q l = some (K', 0) ∧ jk_s (fun n => n = a) K K' ∧ (∀ t, l ≤ t → t < 4 → jc_i K' a t = if jc_i K 58 t = 0 then 0 else jc_i K 59 t) ∧ ∀ t, t < l → jc_i K' a t = jc_i K a t
  | 0, l, K, h0, h1, h2, _, _, _ => by omega
  | m + 1, l, K, h0, h1, h2, hrc, hp, hta => by
    unfold fc67_16
    have a120 : 98 ≤ a := hta.1
    by_cases h4 : 4 ≤ l
    · rw [if_pos h4]
      exact ⟨K, rfl, jk_s.refl, fun t t0 t1 => by omega, fun t _ => rfl⟩
    have st : ∀ v : Int, (v = if jc_i K 58 l = 0 then 0 else jc_i K 59 l) → ∃ K', fc67_16 m (jc_ui K a l v) q (l + 1) = some (K', 0) ∧ jk_s (fun n => n = a) K K' ∧ (∀ t, l ≤ t → t < 4 → jc_i K' a t = if jc_i K 58 t = 0 then 0 else jc_i K 59 t) ∧ ∀ t, t < l → jc_i K' a t = jc_i K a t := fun v hv => by
      obtain ⟨K', r1, r2, r3, r4⟩ := jk_67l m (l + 1) (jc_ui K a l v) (by omega) (by omega) (by omega) hrc hp hta
      refine ⟨K', r1, jk_s.trans (jk_s.u rfl) r2, fun t t0 t1 => ?_, fun t ht => ?_⟩
      · by_cases e : t = l
        · rw [e, r4 l (by omega), jc_uH]; exact hv
        · rw [r3 t (by omega) t1, jc_uN (by omega), jc_uN (by omega)]
      · rw [r4 t (by omega), jc_uI (by omega)]
    rw [if_neg h4, if_pos hrc, jo_lne, hp, if_pos hta, jo_lne, if_pos (show 0 ≤ l ∧ l < 4 by omega), if_pos hta, if_pos (show -2147483648 ≤ (l + 1) ∧ (l + 1) < 2147483648 by omega), if_pos hta, if_pos (show -2147483648 ≤ (l + 1) ∧ (l + 1) < 2147483648 by omega)]
    by_cases e : jc_i K 58 l = 0
    · rw [if_pos e]
      exact st 0 (if_pos e).symm
    · rw [if_neg e]
      exact st _ (if_neg e).symm
theorem jk_47l {q a : Nat} : ∀ (m : Nat) (l : Int) (K : jc_K), 0 ≤ l → l ≤ 4 → 4 < l + m → jc_rc K q → jc_p K q 12 = a → jc_ta K a 24 → (∀ f, 0 ≤ f → f < 4 → jc_i K 68 f < 24) → (∀ f f', 0 ≤ f → f < 4 → 0 ≤ f' → f' < 4 → 0 ≤ jc_i K 68 f → jc_i K 68 f = jc_i K 68 f' → f = f') → ∃ K', fc10_47 m K q l = some (K', 0) ∧ jk_s (fun n => n = a) K K' ∧ (∀ f, l ≤ f → f < 4 → 0 ≤ jc_i K 68 f → jc_i K' a (jc_i K 68 f) = jc_i K 70 f) ∧ ∀ p, (∀ f, l ≤ f → f < 4 → jc_i K 68 f ≠ p) → jc_i K' a p = jc_i K a p
  | 0, l, K, h0, h1, h2, _, _, _, _, _ => by omega
  | m + 1, l, K, h0, h1, h2, hrc, hp, hta, hb, hu => by
    unfold fc10_47
    have a120 : 98 ≤ a := hta.1
    by_cases h4 : 4 ≤ l
    · rw [if_pos h4]
      exact ⟨K, rfl, jk_s.refl, fun t t0 t1 => by omega, fun t _ => rfl⟩
    have rg : -2147483648 ≤ (l + 1) ∧ (l + 1) < 2147483648 := by omega
    rw [if_neg h4, if_pos (show 0 ≤ l ∧ l < 4 by omega)]
    by_cases e : jc_i K 68 l < 0
    · rw [if_pos e, if_pos rg]
      obtain ⟨K', r1, r2, r3, r4⟩ := jk_47l m (l + 1) K (by omega) (by omega) (by omega) hrc hp hta hb hu
      refine ⟨K', r1, r2, fun f f0 f1 hf => r3 f (by by_cases z : f = l; rw [z] at hf; omega; omega) f1 hf, fun p hp' => r4 p (fun f f0 f1 => hp' f (by omega) f1)⟩
    · have b := hb l (by omega) (by omega)
      rw [if_neg e, if_pos hrc, jo_lne, hp, if_pos hta, if_neg (show ¬ 24 ≤ jc_i K 68 l by omega), jo_lne, if_pos hta, if_pos (show 0 ≤ jc_i K 68 l ∧ jc_i K 68 l < 24 by omega), if_pos rg]
      have e68 : ∀ f, jc_i (jc_ui K a (jc_i K 68 l) (jc_i K 70 l)) 68 f = jc_i K 68 f := fun f => jc_uN (by omega)
      have e70 : ∀ f, jc_i (jc_ui K a (jc_i K 68 l) (jc_i K 70 l)) 70 f = jc_i K 70 f := fun f => jc_uN (by omega)
      obtain ⟨K', r1, r2, r3, r4⟩ := jk_47l m (l + 1) (jc_ui K a (jc_i K 68 l) (jc_i K 70 l)) (by omega) (by omega) (by omega) hrc hp hta (fun f f0 f1 => by rw [e68]; exact hb f f0 f1) (fun f f' f0 f1 g0 g1 hz hw => by
        rw [e68] at hz
        rw [e68, e68] at hw
        exact hu f f' f0 f1 g0 g1 hz hw)
      simp only [e68, e70] at r3 r4
      refine ⟨K', r1, jk_s.trans (jk_s.u rfl) r2, fun f f0 f1 hf => ?_, fun p hp' => ?_⟩
      · by_cases z : f = l
        · rw [z, r4 _ (fun f' g0 g1 hw => by
            have := hu f' l (by omega) g1 (by omega) (by omega) (by omega) hw
            omega), jc_uH]
        · exact r3 f (by omega) f1 hf
      · rw [r4 p (fun f f0 f1 => hp' f (by omega) f1), jc_uI (fun z => hp' l (Int.le_refl _) (by omega) z.symm)]
theorem jk_17l {q a : Nat} : ∀ (m : Nat) (l : Int) (K : jc_K), 0 ≤ l → l ≤ 24 → 24 < l + m → jc_rc K q → jc_p K q 12 = a → jc_ta K a 24 → (∀ f, 0 ≤ f → f < 4 → jc_i K 68 f < 24) → (∀ f f', 0 ≤ f → f < 4 → 0 ≤ f' → f' < 4 → 0 ≤ jc_i K 68 f → jc_i K 68 f = jc_i K 68 f' → f = f') → (∀ p, 0 ≤ p → p < l → jc_i K a p = 0) → ∃ K', fc10_17 m K q l = some (K', 0) ∧ jk_s (fun n => n = a) K K' ∧ (∀ f, 0 ≤ f → f < 4 → 0 ≤ jc_i K 68 f → jc_i K' a (jc_i K 68 f) = jc_i K 70 f) ∧ ∀ p, 0 ≤ p → p < 24 → (∀ f, 0 ≤ f → f < 4 → jc_i K 68 f ≠ p) → jc_i K' a p = 0
  | 0, l, K, h0, h1, h2, _, _, _, _, _, _ => by omega
  | m + 1, l, K, h0, h1, h2, hrc, hp, hta, hb, hu, hz => by
    unfold fc10_17
    have a120 : 98 ≤ a := hta.1
    by_cases h4 : 24 ≤ l
    · rw [if_pos h4]
      obtain ⟨K', r1, r2, r3, r4⟩ := jk_47l jo_N 0 K (by decide) (by decide) (by unfold jo_N; omega) hrc hp hta hb hu
      exact ⟨K', r1, r2, r3, fun p p0 p1 hp' => by rw [r4 p hp']; exact hz p p0 (by omega)⟩
    have e68 : ∀ f, jc_i (jc_ui K a l 0) 68 f = jc_i K 68 f := fun f => jc_uN (by omega)
    have e70 : ∀ f, jc_i (jc_ui K a l 0) 70 f = jc_i K 70 f := fun f => jc_uN (by omega)
    rw [if_neg h4, if_pos hrc, jo_lne, hp, if_pos hta, jo_lne, if_pos hta, if_pos (show 0 ≤ l ∧ l < 24 by omega), if_pos (show -2147483648 ≤ (l + 1) ∧ (l + 1) < 2147483648 by omega)]
    obtain ⟨K', r1, r2, r3, r4⟩ := jk_17l m (l + 1) (jc_ui K a l 0) (by omega) (by omega) (by omega) hrc hp hta (fun f f0 f1 => by rw [e68]; exact hb f f0 f1) (fun f f' f0 f1 g0 g1 hz hw => by
      rw [e68] at hz
      rw [e68, e68] at hw
      exact hu f f' f0 f1 g0 g1 hz hw) (fun p p0 p1 => by
      by_cases e : p = l
      · rw [e, jc_uH]
      · rw [jc_uI e]; exact hz p p0 (by omega))
    simp only [e68, e70] at r3 r4
    exact ⟨K', r1, jk_s.trans (jk_s.u rfl) r2, r3, r4⟩
