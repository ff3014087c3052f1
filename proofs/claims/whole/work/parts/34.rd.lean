/-! the reference: rows of pages, crashes, writes -/
def fr_ro (G : jg_G) (p : Int) : Int := if fr_fo G p = -1 then 4 + 2 * p else fr_fo G p
theorem cs161 {d : Nat} {σ0 : ib_H} {G : jg_G} {Q : ib_O → Prop} {p : Int} (hp : 0 ≤ p ∧ p < 24) (h : ∀ σ, jg_S σ0 G σ → jb_r (fr_ro G p) → Q (.inl (some (jb_v (fr_ro G p))), σ)) : jg_W σ0 G (d + 1) 161 0 [some (.ref 92), some (jb_v p), none] [] Q := by
  have hr := fr_fo_r G p
  have hv : jb_r (fr_ro G p) := by unfold fr_ro; split <;> exact ⟨by omega, by omega⟩
  refine jt161_0 ⟨by omega, by omega⟩ ⟨fun c σ s => ?_, fun c σ s => ?_⟩
  · have e : fr_ro G p = 4 + 2 * p := if_pos c
    rw [← e]
    exact h σ s hv
  · have e : fr_ro G p = fr_fo G p := if_neg c
    rw [← e]
    exact h σ s hv
def fr_to (G : jg_G) (p : Int) : Int := if fr_fo G p = -1 ∧ ¬ G 94 (4 + 2 * p) = G 94 (4 + 2 * p + 1) then 1 else 0
theorem cs162 {d : Nat} {σ0 : ib_H} {G : jg_G} {Q : ib_O → Prop} {p : Int} (hp : 0 ≤ p ∧ p < 24) (h : ∀ σ, jg_S σ0 G σ → jb_r (fr_to G p) → Q (.inl (some (jb_v (fr_to G p))), σ)) : jg_W σ0 G (d + 1) 162 0 [some (.ref 92), some (jb_v p)] [] Q := by
  have hv : jb_r (fr_to G p) := by unfold fr_to; split <;> exact ⟨by omega, by omega⟩
  refine jt162_0 ⟨by omega, by omega⟩ ⟨fun c σ s => ?_, fun c => ⟨⟨by omega, by omega⟩, ⟨by omega, by omega⟩, fun c2 σ s => ?_, fun c2 σ s => ?_⟩⟩
  · have e : fr_to G p = 0 := if_neg (fun z => c z.1)
    rw [← e]
    exact h σ s hv
  · have e : fr_to G p = 0 := if_neg (fun z => z.2 c2)
    rw [← e]
    exact h σ s hv
  · have e : fr_to G p = 1 := if_pos ⟨Decidable.byContradiction c, c2⟩
    rw [← e]
    exact h σ s hv
/-- what falls() leaves of the frames and transactions below i -/
def fr_fi (G : jg_G) (i : Int) : jg_G := fun n j => if n = 95 ∧ 0 ≤ j ∧ j < i then -1 else if (n = 96 ∨ n = 97 ∨ n = 107 ∨ n = 108 ∨ n = 109) ∧ 0 ≤ j ∧ j < i then 0 else if n = 110 ∧ 0 ≤ j ∧ (j < i ∨ (j < 4 ∧ 0 ≤ G 110 j ∧ G 110 j < i)) then -1 else if n = 111 ∧ 0 ≤ j ∧ j < 32 ∧ 0 ≤ G 111 j ∧ G 111 j < i then -1 else G n j
theorem fr_fi_s (G : jg_G) (i : Int) (h0 : 0 ≤ i) (h4 : i < 4) : fr_cl (jg_u (jg_u (jg_u (fr_fi G i) 95 i (-1)) 96 i 0) 97 i 0) i = fr_fi G (i + 1) := by
  funext n j
  by_cases h1 : n = 95
  · subst h1
    simp [fr_cl, jg_u, fr_fi]
    repeat' split
    all_goals first | rfl | (exfalso; omega)
  by_cases h2 : n = 96
  · subst h2
    simp [fr_cl, jg_u, fr_fi]
    repeat' split
    all_goals first | rfl | (exfalso; omega)
  by_cases h3 : n = 97
  · subst h3
    simp [fr_cl, jg_u, fr_fi]
    repeat' split
    all_goals first | rfl | (exfalso; omega)
  by_cases h5 : n = 110
  · subst h5
    simp [fr_cl, jg_u, fr_fi]
    repeat' split
    all_goals first | rfl | (exfalso; omega)
  by_cases h6 : n = 111
  · subst h6
    simp [fr_cl, jg_u, fr_fi]
    repeat' split
    all_goals first | rfl | (exfalso; omega)
  simp only [fr_cl, jg_u, fr_fi, h1, h2, h3, h5, h6, false_and, if_false, false_or]
  repeat' split
  all_goals first | rfl | (exfalso; omega)
def fr_f0 (G : jg_G) : jg_G := jg_u (jg_u (jg_u G 92 7 1) 92 8 0) 92 12 (G 92 13)
def fr_fa (G : jg_G) : jg_G := fr_fi (fr_f0 G) 4
theorem cs163 {d : Nat} {σ0 : ib_H} {G : jg_G} {Q : ib_O → Prop} (h : jg_E σ0 (fr_fa G) none Q) : jg_W σ0 G (d + 1) 163 0 [some (.ref 92), none] [] Q := by
  have st : ∀ i, 0 ≤ i → i < 4 → jg_W σ0 (fr_fi (fr_f0 G) (i + 1)) (d + 1) 163 20 [some (.ref 92), some (jb_v (i + 1))] [] Q → jg_W σ0 (fr_fi (fr_f0 G) i) (d + 1) 163 20 [some (.ref 92), some (jb_v i)] [] Q := by
    intro i h0 h4 e
    refine jt163_20 ⟨by omega, by omega⟩ ⟨fun z => by omega, fun _ => ⟨⟨by omega, by omega⟩, ⟨by omega, by omega⟩, ?_⟩⟩
    rw [fr_fi_s _ _ h0 h4]
    exact e
  refine jt163_0 ?_
  refine cast (congrArg (fun g => jg_W σ0 g (d + 1) 163 20 [some (.ref 92), some (jb_v 0)] [] Q) ?_) (st 0 (by decide) (by decide) (st 1 (by decide) (by decide) (st 2 (by decide) (by decide) (st 3 (by decide) (by decide) (jt163_20 (l1 := 4) ⟨by decide, by decide⟩ ⟨fun _ => h, fun z => absurd (by decide) z⟩)))))
  funext n j
  unfold fr_fi
  repeat' split
  all_goals first | rfl | (exfalso; omega)
/-- k writes, none of them the told one -/
def fr_w (G : jg_G) (k : Int) : jg_G := jg_u (jg_u G 92 6 (if G 92 6 ≤ 0 then G 92 6 else G 92 6 - k)) 92 5 (jb_m (G 92 5 + k))
/-- the told write comes: a crash -/
def fr_fw (G : jg_G) : jg_G := fr_fa (jg_u G 92 6 0)
def fr_iw (G : jg_G) : jg_G := if G 92 7 = 0 then (if G 92 6 = 1 then fr_fw G else fr_w G 1) else G
def fr_ok (G : jg_G) : Int := if G 92 7 = 0 ∧ ¬ G 92 6 = 1 then 1 else 0
theorem cs164 {d : Nat} {σ0 : ib_H} {G : jg_G} {Q : ib_O → Prop} (h0 : 0 ≤ G 92 6 ∧ G 92 6 < 1000) (h : ∀ σ, jg_S σ0 (fr_iw G) σ → jb_r (fr_ok G) → Q (.inl (some (jb_v (fr_ok G))), σ)) : jg_W σ0 G (d + 2) 164 0 [some (.ref 92)] [] Q := by
  have hv : jb_r (fr_ok G) := by unfold fr_ok; split <;> exact ⟨by omega, by omega⟩
  refine jt164_0 ⟨fun c => ⟨fun c2 => ⟨fun c3 => ⟨⟨by omega, by omega⟩, fun σ s => ?_⟩, fun c3 => ⟨⟨by omega, by omega⟩, fun σ s => ?_⟩⟩, fun c2 => ?_⟩, fun c σ s => ?_⟩
  · have e : fr_ok G = 1 := if_pos ⟨c, c2⟩
    have e2 : fr_iw G = jg_u (jg_u G 92 6 (G 92 6 - 0)) 92 5 (jb_m (G 92 5 + 1)) := by
      unfold fr_iw fr_w
      rw [if_pos c, if_neg c2, if_pos c3, Int.sub_zero]
    rw [← e]
    exact h σ (by rw [e2]; exact s) hv
  · have e : fr_ok G = 1 := if_pos ⟨c, c2⟩
    have e2 : fr_iw G = jg_u (jg_u G 92 6 (G 92 6 - 1)) 92 5 (jb_m (G 92 5 + 1)) := by
      unfold fr_iw fr_w
      rw [if_pos c, if_neg c2, if_neg c3]
    rw [← e]
    exact h σ (by rw [e2]; exact s) hv
  · have e : fr_ok G = 0 := if_neg (fun z => c2 z.2)
    have e2 : fr_iw G = fr_fa (jg_u G 92 6 0) := by
      unfold fr_iw fr_fw
      rw [if_pos c, if_pos (Decidable.byContradiction c2)]
    refine cs163 (jg_Wk (jt164_26 (fun σ s => ?_)))
    rw [← e]
    exact h σ (by rw [e2]; exact s) hv
  · have e : fr_ok G = 0 := if_neg (fun z => c z.1)
    have e2 : fr_iw G = G := if_neg c
    rw [← e]
    exact h σ (by rw [e2]; exact s) hv
theorem fr_w_w (G : jg_G) (k : Int) (h : G 92 6 = 0 ∨ 1 < G 92 6) (hk : 0 ≤ k) : fr_w (fr_w G 1) k = fr_w G (k + 1) := by
  funext n j
  unfold fr_w
  by_cases hn : n = 92
  · subst hn
    by_cases h5 : j = 5
    · subst h5
      simp only [jg_u, and_self, if_true, show ¬ ((5 : Int) = 6) by decide, and_false, if_false]
      rw [jb_m_add]
      congr 1
      omega
    · by_cases h6 : j = 6
      · subst h6
        simp only [jg_u, and_self, if_true, show ¬ ((6 : Int) = 5) by decide, and_false, if_false]
        repeat' split
        all_goals omega
      · simp only [jg_u, h5, h6, and_false, if_false]
  · simp only [jg_u, hn, false_and, if_false]
/-- the log made durable up to r -/
def fr_ha (G : jg_G) (r : Int) : jg_G := if G 92 7 = 0 ∧ G 92 13 < r then (if 1 ≤ G 92 6 ∧ G 92 6 ≤ r - G 92 13 then fr_fw (jg_u (fr_w G (G 92 6 - 1)) 92 13 (G 92 13 + (G 92 6 - 1))) else jg_u (fr_w G (r - G 92 13)) 92 13 r) else G
theorem cs165 {d : Nat} {σ0 : ib_H} {Q : ib_O → Prop} {r : Int} (rr : 0 ≤ r ∧ r < 1501) : ∀ (m : Nat) {G : jg_G}, (0 ≤ G 92 6 ∧ G 92 6 < 1000) → (0 ≤ G 92 13 ∧ r ≤ G 92 13 + m) → (jg_E σ0 (fr_ha G r) none Q) → jg_W σ0 G (d + 3) 165 0 [some (.ref 92), some (jb_v r)] [] Q := by
  intro m
  induction m with
  | zero =>
    intro G h0 hm h
    refine jt165_0 ⟨by omega, by omega⟩ ⟨fun c => ?_, fun c => ⟨fun c2 => ?_, fun c2 => by omega⟩⟩
    · rw [show fr_ha G r = G from if_neg (fun z => c z.1)] at h
      exact h
    · rw [show fr_ha G r = G from if_neg (fun z => by omega)] at h
      exact h
  | succ m ih =>
    intro G h0 hm h
    refine jt165_0 ⟨by omega, by omega⟩ ⟨fun c => ?_, fun c => ⟨fun c2 => ?_, fun c2 => ?_⟩⟩
    · rw [show fr_ha G r = G from if_neg (fun z => c z.1)] at h
      exact h
    · rw [show fr_ha G r = G from if_neg (fun z => by omega)] at h
      exact h
    · have c := Decidable.byContradiction c
      rw [show fr_ha G r = _ from if_pos ⟨c, by omega⟩] at h
      refine cs164 h0 (fun σ s rv => ?_)
      by_cases c3 : G 92 6 = 1
      · have e : fr_ok G = 0 := if_neg (fun z => z.2 c3)
        have e2 : fr_iw G = fr_fw G := by
          unfold fr_iw
          rw [if_pos c, if_pos c3]
        rw [e2] at s
        rw [e]
        rw [if_pos (by omega), c3] at h
        refine jt165_24 (s1 := G 92 13) (s2 := 0) ⟨by omega, by omega⟩ ⟨by omega, by omega⟩ ⟨by decide, by decide⟩ ⟨fun _ => ⟨⟨by omega, by omega⟩, ?_⟩, fun z => absurd rfl z⟩ σ s
        have e4 : fr_fw (jg_u (fr_w G (1 - 1)) 92 13 (G 92 13 + (1 - 1))) = jg_u (fr_fw G) 92 13 (G 92 13 + 0) := by
          funext n j
          by_cases hn : n = 92
          · subst hn
            simp only [fr_fw, fr_fa, fr_fi, fr_f0, fr_w, jg_u, show ¬ ((92 : Nat) = 95) by decide, show ¬ ((92 : Nat) = 96 ∨ (92 : Nat) = 97 ∨ (92 : Nat) = 107 ∨ (92 : Nat) = 108 ∨ (92 : Nat) = 109) by decide, show ¬ ((92 : Nat) = 110) by decide, show ¬ ((92 : Nat) = 111) by decide, false_and, if_false, true_and, Int.sub_self, Int.add_zero, Int.sub_zero]
            by_cases h7 : j = 7
            · simp only [h7, show ¬ ((7 : Int) = 12) by decide, show ¬ ((7 : Int) = 13) by decide, show ¬ ((7 : Int) = 8) by decide, if_false, if_true]
            by_cases h13 : j = 13
            · subst h13; simp
            by_cases h5 : j = 5
            · subst h5; simp [jb_m_e (s.r 92 5)]
              have hr5 := s.r 92 5
              have : fr_fw G 92 5 = G 92 5 := by simp [fr_fw, fr_fa, fr_fi, fr_f0, jg_u]
              rw [this] at hr5
              exact jb_m_e hr5
            by_cases h6 : j = 6
            · subst h6; simp
            by_cases h8 : j = 8
            · subst h8; simp
            by_cases h12 : j = 12
            · subst h12; simp
            simp only [h7, h13, h5, h6, h8, h12, if_false]
          · simp only [fr_fw, fr_fa, fr_fi, fr_f0, fr_w, jg_u, hn, false_and, if_false]
            by_cases h110 : n = 110
            · subst h110; simp
            · by_cases h111 : n = 111
              · subst h111; simp
              · simp only [h110, h111, false_and, if_false]
        rw [e4] at h
        refine jt165_0 ⟨by omega, by omega⟩ ⟨fun _ => h, fun z => absurd ?_ z⟩
        simp [fr_fw, fr_fa, fr_fi, fr_f0, jg_u]
      · have e : fr_ok G = 1 := if_pos ⟨c, c3⟩
        have e2 : fr_iw G = fr_w G 1 := by
          unfold fr_iw
          rw [if_pos c, if_neg c3]
        rw [e2] at s
        rw [e]
        refine jt165_24 (s1 := G 92 13) (s2 := 1) ⟨by omega, by omega⟩ ⟨by omega, by omega⟩ ⟨by decide, by decide⟩ ⟨fun z => absurd z (by decide), fun _ => ⟨⟨by omega, by omega⟩, ?_⟩⟩ σ s
        have f6 : jg_u (fr_w G 1) 92 13 (G 92 13 + 1) 92 6 = if G 92 6 ≤ 0 then G 92 6 else G 92 6 - 1 := by simp [fr_w, jg_u]
        have f13 : jg_u (fr_w G 1) 92 13 (G 92 13 + 1) 92 13 = G 92 13 + 1 := by simp [jg_u]
        have f7 : jg_u (fr_w G 1) 92 13 (G 92 13 + 1) 92 7 = 0 := by simp [fr_w, jg_u, c]
        have f5 : jg_u (fr_w G 1) 92 13 (G 92 13 + 1) 92 5 = jb_m (G 92 5 + 1) := by simp [fr_w, jg_u]
        have sw : ∀ k x, 0 ≤ k → jg_u (fr_w (jg_u (fr_w G 1) 92 13 (G 92 13 + 1)) k) 92 13 x = jg_u (fr_w G (k + 1)) 92 13 x := by
          intro k x hk
          rw [← fr_w_w G k (by omega) hk]
          funext n j
          by_cases hj : n = 92 ∧ j = 13
          · rw [hj.1, hj.2]
            simp [jg_u]
          · show (if n = 92 ∧ j = 13 then _ else _) = (if n = 92 ∧ j = 13 then _ else _)
            rw [if_neg hj, if_neg hj]
            unfold fr_w
            by_cases hn : n = 92
            · subst hn
              simp only [jg_u, true_and, show ¬ ((6 : Int) = 13) by decide, show ¬ ((5 : Int) = 13) by decide, if_false] at hj ⊢
              simp only [hj, if_false]
            · simp only [jg_u, hn, false_and, if_false]
        refine ih (by rw [f6]; split <;> omega) (by rw [f13]; omega) ?_
        have e5 : fr_ha (jg_u (fr_w G 1) 92 13 (G 92 13 + 1)) r = (if 1 ≤ G 92 6 ∧ G 92 6 ≤ r - G 92 13 then fr_fw (jg_u (fr_w G (G 92 6 - 1)) 92 13 (G 92 13 + (G 92 6 - 1))) else jg_u (fr_w G (r - G 92 13)) 92 13 r) := by
          unfold fr_ha
          rw [f7, f13, f6]
          by_cases c6 : G 92 13 + 1 < r
          · rw [if_pos ⟨rfl, c6⟩]
            by_cases c7 : 1 ≤ G 92 6 ∧ G 92 6 ≤ r - G 92 13
            · rw [if_pos c7, if_pos (by split <;> omega)]
              rw [if_neg (by omega : ¬ G 92 6 ≤ 0), sw _ _ (by omega)]
              congr 2
              · congr 1
                omega
              · omega
            · rw [if_neg c7, if_neg (by split <;> omega), sw _ _ (by omega)]
              congr 2
              omega
          · rw [if_neg (fun z => c6 z.2), if_neg (by omega)]
            have : r = G 92 13 + 1 := by omega
            rw [this]
            congr 2
            omega
        rw [e5]
        exact h
theorem cs165' {d : Nat} {σ0 : ib_H} {Q : ib_O → Prop} {r : Int} {G : jg_G} (rr : 0 ≤ r ∧ r < 1501) (h0 : 0 ≤ G 92 6 ∧ G 92 6 < 1000) (hm : 0 ≤ G 92 13) (h : jg_E σ0 (fr_ha G r) none Q) : jg_W σ0 G (d + 3) 165 0 [some (.ref 92), some (jb_v r)] [] Q :=
  cs165 rr (r - G 92 13).toNat h0 ⟨hm, by omega⟩ h
