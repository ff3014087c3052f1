/-! THE FRAMES: whose page is where, and the clock -/
/-- who holds what, who was used, since when it differs: alike -/
def jf_a (K : jc_K) (G : jg_G) : Prop := (jc_i K 66 5 = G 92 8 ∧ 0 ≤ G 92 8 ∧ G 92 8 < 4) ∧ (∀ f, 0 ≤ f → f < 4 → (jc_i K 68 f = G 95 f ∧ jc_i K 69 f = G 96 f ∧ jc_i K 70 f = G 97 f) ∧ (G 96 f = 0 ∨ G 96 f = 1) ∧ (-1 ≤ G 95 f ∧ G 95 f < 24) ∧ jc_pg K (71 + 2 * f.toNat)) ∧ ∀ f f', 0 ≤ f → f < 4 → 0 ≤ f' → f' < 4 → 0 ≤ G 95 f → G 95 f = G 95 f' → f = f'
theorem fr_fo_is {G : jg_G} {p f : Int} (h : ∀ f f', 0 ≤ f → f < 4 → 0 ≤ f' → f' < 4 → 0 ≤ G 95 f → G 95 f = G 95 f' → f = f') (hp : 0 ≤ p) (h0 : 0 ≤ f) (h1 : f < 4) (hf : G 95 f = p) : fr_fo G p = f := by
  have r := fr_fo_r G p
  by_cases c : 0 ≤ fr_fo G p
  · exact h _ _ c r.2.1 h0 h1 (by rw [r.2.2 c]; exact hp) (by rw [r.2.2 c, hf])
  · exfalso
    have e : fr_fo G p = -1 := by omega
    unfold fr_fo at e
    by_cases c3 : G 95 3 = p
    · rw [if_pos c3] at e; omega
    by_cases c2 : G 95 2 = p
    · rw [if_neg c3, if_pos c2] at e; omega
    by_cases c1 : G 95 1 = p
    · rw [if_neg c3, if_neg c2, if_pos c1] at e; omega
    by_cases c0 : G 95 0 = p
    · rw [if_neg c3, if_neg c2, if_neg c1, if_pos c0] at e; omega
    · have : f = 0 ∨ f = 1 ∨ f = 2 ∨ f = 3 := by omega
      rcases this with rfl | rfl | rfl | rfl
      · exact c0 hf
      · exact c1 hf
      · exact c2 hf
      · exact c3 hf
theorem fr_fo_no {G : jg_G} {p : Int} (h : ∀ f, 0 ≤ f → f < 4 → G 95 f ≠ p) : fr_fo G p = -1 := by
  have r := fr_fo_r G p
  by_cases c : 0 ≤ fr_fo G p
  · exact absurd (r.2.2 c) (h _ c r.2.1)
  · omega
theorem jk_fc2 {K : jc_K} {G : jg_G} {p : Int} (h : jf_a K G) (hp : 0 ≤ p) : fc2 K p = some (K, fr_fo G p) := by
  have key : ∀ (m : Nat) (i : Int), 0 ≤ i → i ≤ 4 → 4 < i + m → (∀ j, 0 ≤ j → j < i → G 95 j ≠ p) → fc2_2 m K p i = some (K, fr_fo G p) := by
    intro m
    induction m with
    | zero => intro i _ _ _; omega
    | succ m ih =>
      intro i h0 h1 h2 hj
      unfold fc2_2
      by_cases c1 : 4 ≤ i
      · rw [if_pos c1, fr_fo_no (fun f f0 f1 => hj f f0 (by omega))]
      · rw [if_neg c1, if_pos ⟨h0, by omega⟩, (h.2.1 i h0 (by omega)).1.1]
        by_cases c2 : G 95 i = p
        · rw [if_pos c2, fr_fo_is h.2.2 hp h0 (by omega) c2]
        · rw [if_neg c2, if_pos (by omega)]
          refine ih (i + 1) (by omega) (by omega) (by omega) (fun j j0 j1 => ?_)
          by_cases e : j = i
          · rw [e]; exact c2
          · exact hj j j0 (by omega)
  unfold fc2
  rw [jo_Ne]
  exact key 4000 0 (by decide) (by decide) (by decide) (fun j j0 j1 => by omega)
/-- only the hand and who was used have changed -/
def jf_c (K K1 : jc_K) (G G1 : jg_G) : Prop := (jk_s (fun n => n = 66 ∨ n = 69) K K1 ∧ ∀ i, i ≠ 5 → jc_i K1 66 i = jc_i K 66 i) ∧ (∀ n, n ≠ 92 → n ≠ 96 → ∀ j, G1 n j = G n j) ∧ ∀ i, i ≠ 8 → G1 92 i = G 92 i
theorem jf_c.trans {K K1 K2 : jc_K} {G G1 G2 : jg_G} (h : jf_c K K1 G G1) (h2 : jf_c K1 K2 G1 G2) : jf_c K K2 G G2 :=
  ⟨⟨h.1.1.trans h2.1.1, fun i hi => (h2.1.2 i hi).trans (h.1.2 i hi)⟩, fun n a b j => (h2.2.1 n a b j).trans (h.2.1 n a b j), fun i hi => (h2.2.2 i hi).trans (h.2.2 i hi)⟩
theorem jf_clock {p : Int} : ∀ (u : Nat) (K : jc_K) (G : jg_G) (m m' : Nat) (l l1 l2 : Int), jf_a K G → G 96 0 + G 96 1 + G 96 2 + G 96 3 = u → 0 ≤ l2 → l2 + u ≤ 4 → u < m → u < m' → ∃ f K1 G1, fc6_4 m K l1 l2 = some (K1, f) ∧ fo168_19 m' G p l = (if G1 97 f ≤ 0 then fo168_100 G1 p f else (fo167 G1 f).bind fun x => fo168_100 (x.1) p f) ∧ (0 ≤ f ∧ f < 4) ∧ jf_a K1 G1 ∧ jf_c K K1 G G1 := by
  intro u
  induction u with
  | zero =>
    intro K G m m' l l1 l2 h hu h0 h1 hm hm'
    obtain ⟨m, rfl⟩ : ∃ k, m = k + 1 := ⟨m - 1, by omega⟩
    obtain ⟨m', rfl⟩ : ∃ k, m' = k + 1 := ⟨m' - 1, by omega⟩
    obtain ⟨⟨a1, a2, a3⟩, b, c⟩ := h
    have u0 : G 96 (G 92 8) = 0 := by
      have e0 := (b 0 (by decide) (by decide)).2.1
      have e1 := (b 1 (by decide) (by decide)).2.1
      have e2 := (b 2 (by decide) (by decide)).2.1
      have e3 := (b 3 (by decide) (by decide)).2.1
      have : G 92 8 = 0 ∨ G 92 8 = 1 ∨ G 92 8 = 2 ∨ G 92 8 = 3 := by omega
      rcases this with e | e | e | e <;> rw [e] <;> omega
    refine ⟨G 92 8, jc_ui K 66 5 ((G 92 8 + 1) % 4), jg_u G 92 8 ((G 92 8 + 1) % 4), ?_, ?_, ⟨a2, a3⟩, ⟨⟨by rw [jc_uH, jg_uH], by rw [jg_uH]; omega, by rw [jg_uH]; omega⟩, fun f f0 f1 => ?_, fun f f' q0 q1 q2 q3 q4 q5 => ?_⟩, ⟨jk_s.u (Or.inl rfl), fun i hi => jc_uI hi⟩, fun n n1 n2 j => jg_uN n1, fun i hi => jg_uI hi⟩
    · unfold fc6_4
      rw [if_neg (by omega), a1, if_neg (by omega), if_neg (by omega), if_pos (by omega), if_pos (by omega), if_pos ⟨a2, a3⟩, (b _ a2 a3).1.1, (b _ a2 a3).1.2.1, u0]
      by_cases e : G 95 (G 92 8) = -1
      · rw [if_pos e]
      · rw [if_neg e, if_pos rfl]
    · unfold fo168_19
      rw [if_pos ⟨a2, a3⟩, u0, jg_uN (n := 92) (m := 97) (by decide)]
      by_cases e : G 95 (G 92 8) = -1
      · rw [if_pos e, if_pos (by omega), if_pos (by omega)]
      · rw [if_neg e, if_pos rfl, if_pos (by omega), if_pos (by omega)]
    · have := b f f0 f1
      rw [jg_uN (by decide), jg_uN (by decide), jg_uN (by decide), jc_uN (by decide), jc_uN (by decide), jc_uN (by decide)]
      exact this
    · rw [jg_uN (by decide)] at q4 q5
      rw [jg_uN (by decide)] at q5
      exact c f f' q0 q1 q2 q3 q4 q5
  | succ u ih =>
    intro K G m m' l l1 l2 h hu h0 h1 hm hm'
    obtain ⟨m, rfl⟩ : ∃ k, m = k + 1 := ⟨m - 1, by omega⟩
    obtain ⟨m', rfl⟩ : ∃ k, m' = k + 1 := ⟨m' - 1, by omega⟩
    have hh := h
    obtain ⟨⟨a1, a2, a3⟩, b, c⟩ := h
    by_cases st : G 95 (G 92 8) = -1 ∨ G 96 (G 92 8) = 0
    · refine ⟨G 92 8, jc_ui K 66 5 ((G 92 8 + 1) % 4), jg_u G 92 8 ((G 92 8 + 1) % 4), ?_, ?_, ⟨a2, a3⟩, ⟨⟨by rw [jc_uH, jg_uH], by rw [jg_uH]; omega, by rw [jg_uH]; omega⟩, fun f f0 f1 => ?_, fun f f' q0 q1 q2 q3 q4 q5 => ?_⟩, ⟨jk_s.u (Or.inl rfl), fun i hi => jc_uI hi⟩, fun n n1 n2 j => jg_uN n1, fun i hi => jg_uI hi⟩
      · unfold fc6_4
        rw [if_neg (by omega), a1, if_neg (by omega), if_neg (by omega), if_pos (by omega), if_pos (by omega), if_pos ⟨a2, a3⟩, (b _ a2 a3).1.1, (b _ a2 a3).1.2.1]
        by_cases e : G 95 (G 92 8) = -1
        · rw [if_pos e]
        · rw [if_neg e, if_pos (st.resolve_left e)]
      · unfold fo168_19
        rw [if_pos ⟨a2, a3⟩, jg_uN (n := 92) (m := 97) (by decide)]
        by_cases e : G 95 (G 92 8) = -1
        · rw [if_pos e, if_pos (by omega), if_pos (by omega)]
        · rw [if_neg e, if_pos (st.resolve_left e), if_pos (by omega), if_pos (by omega)]
      · have := b f f0 f1
        rw [jg_uN (by decide), jg_uN (by decide), jg_uN (by decide), jc_uN (by decide), jc_uN (by decide), jc_uN (by decide)]
        exact this
      · rw [jg_uN (by decide)] at q4 q5
        rw [jg_uN (by decide)] at q5
        exact c f f' q0 q1 q2 q3 q4 q5
    · have n1 : G 95 (G 92 8) ≠ -1 := fun z => st (Or.inl z)
      have n2 : G 96 (G 92 8) ≠ 0 := fun z => st (Or.inr z)
      have e1 : G 96 (G 92 8) = 1 := (b _ a2 a3).2.1.resolve_left n2
      have ha : jf_a (jc_ui (jc_ui K 66 5 ((G 92 8 + 1) % 4)) 69 (G 92 8) 0) (jg_u (jg_u G 96 (G 92 8) 0) 92 8 ((G 92 8 + 1) % 4)) := by
        refine ⟨⟨by rw [jc_uN (by decide), jc_uH, jg_uH], by rw [jg_uH]; omega, by rw [jg_uH]; omega⟩, fun f f0 f1 => ?_, fun f f' q0 q1 q2 q3 q4 q5 => ?_⟩
        · obtain ⟨⟨b1, b2, b3⟩, b4, b5, b6⟩ := b f f0 f1
          refine ⟨⟨?_, ?_, ?_⟩, ?_, ?_, b6⟩
          · rw [jc_uN (by decide), jc_uN (by decide), jg_uN (by decide), jg_uN (by decide)]; exact b1
          · rw [jg_uN (by decide)]
            by_cases e : f = G 92 8
            · rw [e, jc_uH, jg_uH]
            · rw [jc_uI e, jc_uN (by decide), jg_uI e]; exact b2
          · rw [jc_uN (by decide), jc_uN (by decide), jg_uN (by decide), jg_uN (by decide)]; exact b3
          · rw [jg_uN (by decide)]
            by_cases e : f = G 92 8
            · rw [e, jg_uH]; exact Or.inl rfl
            · rw [jg_uI e]; exact b4
          · rw [jg_uN (by decide), jg_uN (by decide)]; exact b5
        · rw [jg_uN (by decide), jg_uN (by decide)] at q4 q5
          rw [jg_uN (by decide), jg_uN (by decide)] at q5
          exact c f f' q0 q1 q2 q3 q4 q5
      have hc : jf_c K (jc_ui (jc_ui K 66 5 ((G 92 8 + 1) % 4)) 69 (G 92 8) 0) G (jg_u (jg_u G 96 (G 92 8) 0) 92 8 ((G 92 8 + 1) % 4)) := by
        refine ⟨⟨(jk_s.u (S := fun n => n = 66 ∨ n = 69) (Or.inl rfl)).trans (jk_s.u (Or.inr rfl)), fun i hi => ?_⟩, fun n q1 q2 j => ?_, fun i hi => ?_⟩
        · rw [jc_uN (by decide), jc_uI hi]
        · rw [jg_uN q1, jg_uN q2]
        · rw [jg_uI hi, jg_uN (by decide)]
      have hs : jg_u (jg_u G 96 (G 92 8) 0) 92 8 ((G 92 8 + 1) % 4) 96 0 + jg_u (jg_u G 96 (G 92 8) 0) 92 8 ((G 92 8 + 1) % 4) 96 1 + jg_u (jg_u G 96 (G 92 8) 0) 92 8 ((G 92 8 + 1) % 4) 96 2 + jg_u (jg_u G 96 (G 92 8) 0) 92 8 ((G 92 8 + 1) % 4) 96 3 = u := by
        have u96 : ∀ i, jg_u (jg_u G 96 (G 92 8) 0) 92 8 ((G 92 8 + 1) % 4) 96 i = if i = G 92 8 then 0 else G 96 i := fun i => by
          rw [jg_uN (by decide)]
          by_cases e : i = G 92 8
          · rw [if_pos e, e, jg_uH]
          · rw [if_neg e, jg_uI e]
        rw [u96, u96, u96, u96]
        have : G 92 8 = 0 ∨ G 92 8 = 1 ∨ G 92 8 = 2 ∨ G 92 8 = 3 := by omega
        rcases this with e | e | e | e <;> rw [e] at e1 ⊢ <;> simp <;> omega
      obtain ⟨f, K1, G1, r1, r2, r3, r4, r5⟩ := ih _ _ m m' l (G 92 8) (l2 + 1) ha hs (by omega) (by omega) (by omega) (by omega)
      refine ⟨f, K1, G1, ?_, ?_, r3, r4, hc.trans r5⟩
      · unfold fc6_4
        rw [if_neg (by omega), a1, if_neg (by omega), if_neg (by omega), if_pos (by omega), if_pos (by omega), if_pos ⟨a2, a3⟩, (b _ a2 a3).1.1, (b _ a2 a3).1.2.1, if_neg n1, if_neg n2, if_pos (by omega)]
        exact r1
      · unfold fo168_19
        rw [if_pos ⟨a2, a3⟩, if_neg n1, if_neg n2, if_pos (by omega), if_pos (by omega)]
        exact r2
