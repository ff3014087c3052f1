/-! RECOVER: its beginnings and ends -/
theorem jk_51 {K : jc_K} : ∃ K', fc51 K = some (K', 0) ∧ jk_s (fun n => n = 85) K K' ∧ ∀ j, 0 ≤ j → j < 4 → jc_i K' 85 j = 0 := by
  have key : ∀ (m : Nat) (l : Int) (K1 : jc_K), jk_s (fun n => n = 85) K K1 → 0 ≤ l → l ≤ 4 → 4 < l + m → (∀ j, 0 ≤ j → j < l → jc_i K1 85 j = 0) → ∃ K', fc51_2 m K1 l = some (K', 0) ∧ jk_s (fun n => n = 85) K K' ∧ ∀ j, 0 ≤ j → j < 4 → jc_i K' 85 j = 0 := by
    intro m
    induction m with
    | zero => intro l K1 s h0 h1 h2; omega
    | succ m ih =>
      intro l K1 s h0 h1 h2 hj
      unfold fc51_2
      by_cases e : 4 ≤ l
      · rw [if_pos e]
        exact ⟨K1, rfl, s, fun j j0 j1 => hj j j0 (by omega)⟩
      · rw [if_neg e, if_pos (by omega), if_pos (by omega)]
        exact ih (l + 1) _ (s.trans (jk_s.u rfl)) (by omega) (by omega) (by omega) (fun j j0 j1 => by
          by_cases z : j = l
          · rw [z, jc_uH]
          · rw [jc_uI z]; exact hj j j0 (by omega))
  exact key jo_N 0 K jk_s.refl (by decide) (by decide) (by decide) (fun j _ _ => by omega)
theorem jr_212 {G : jg_G} : ∃ G', fo212_32 jo_N G 0 = fo212_32 1 G' 4 ∧ (∀ n, n ≠ 113 → ∀ j, G' n j = G n j) ∧ (∀ j, 0 ≤ j → j < 4 → G' 113 j = 0) ∧ ∀ j, ¬ (0 ≤ j ∧ j < 4) → G' 113 j = G 113 j := by
  have key : ∀ (m : Nat) (l : Int) (X : jg_G), (∀ n, n ≠ 113 → ∀ j, X n j = G n j) → 0 ≤ l → l ≤ 4 → 4 < l + m → (∀ j, 0 ≤ j → j < l → X 113 j = 0) → (∀ j, ¬ (0 ≤ j ∧ j < 4) → X 113 j = G 113 j) → ∃ G', fo212_32 m X l = fo212_32 1 G' 4 ∧ (∀ n, n ≠ 113 → ∀ j, G' n j = G n j) ∧ (∀ j, 0 ≤ j → j < 4 → G' 113 j = 0) ∧ ∀ j, ¬ (0 ≤ j ∧ j < 4) → G' 113 j = G 113 j := by
    intro m
    induction m with
    | zero => intro l X hX h0 h1 h2; omega
    | succ m ih =>
      intro l X hX h0 h1 h2 hj ho
      by_cases e : 4 ≤ l
      · have el : l = 4 := by omega
        subst el
        refine ⟨X, ?_, hX, hj, ho⟩
        unfold fo212_32
        rw [if_pos e, if_pos e]
      · obtain ⟨G', y1, y2⟩ := ih (l + 1) (jg_u X 113 l 0) (fun n hn j => by rw [jg_uN hn]; exact hX n hn j) (by omega) (by omega) (by omega) (fun j j0 j1 => by
          by_cases z : j = l
          · rw [z, jg_uH]
          · rw [jg_uI z]; exact hj j j0 (by omega)) (fun j hj => by rw [jg_uI (by omega)]; exact ho j hj)
        refine ⟨G', ?_, y2⟩
        rw [← y1]
        conv => lhs; unfold fo212_32
        rw [if_neg e, if_pos (by omega), if_pos (by omega)]
  exact key jo_N 0 G (fun _ _ _ => rfl) (by decide) (by decide) (by decide) (fun j _ _ => by omega) (fun _ _ => rfl)
theorem jk_91 {K : jc_K} : ∃ K', fc91 K = some (K', 0) ∧ jk_s (fun n => n = 82) K K' ∧ ∀ t, 0 ≤ t → t < 4 → jc_i K' 82 t = if jc_i K 59 t ≤ 0 then -1 else jc_i K 59 t := by
  have key : ∀ (m : Nat) (l : Int) (K1 : jc_K), jk_s (fun n => n = 82) K K1 → 0 ≤ l → l ≤ 4 → 4 < l + m → (∀ j, 0 ≤ j → j < l → jc_i K1 82 j = if jc_i K 59 j ≤ 0 then -1 else jc_i K 59 j) → ∃ K', fc91_2 m K1 l = some (K', 0) ∧ jk_s (fun n => n = 82) K K' ∧ ∀ t, 0 ≤ t → t < 4 → jc_i K' 82 t = if jc_i K 59 t ≤ 0 then -1 else jc_i K 59 t := by
    intro m
    induction m with
    | zero => intro l K1 s h0 h1 h2; omega
    | succ m ih =>
      intro l K1 s h0 h1 h2 hj
      unfold fc91_2
      by_cases e : 4 ≤ l
      · rw [if_pos e]
        exact ⟨K1, rfl, s, fun j j0 j1 => hj j j0 (by omega)⟩
      · have e59 : jc_i K1 59 l = jc_i K 59 l := s.2 59 (by decide) l
        have go : ∀ v, v = (if jc_i K 59 l ≤ 0 then -1 else jc_i K 59 l) → ∃ K', fc91_2 m (jc_ui K1 82 l v) (l + 1) = some (K', 0) ∧ jk_s (fun n => n = 82) K K' ∧ ∀ t, 0 ≤ t → t < 4 → jc_i K' 82 t = if jc_i K 59 t ≤ 0 then -1 else jc_i K 59 t := fun v hv =>
          ih (l + 1) _ (s.trans (jk_s.u rfl)) (by omega) (by omega) (by omega) (fun j j0 j1 => by
            by_cases z : j = l
            · rw [z, jc_uH]; exact hv
            · rw [jc_uI z]; exact hj j j0 (by omega))
        rw [if_neg e, if_pos (by omega), e59]
        by_cases c : jc_i K 59 l ≤ 0
        · rw [if_pos c, if_pos (by omega)]
          exact go _ (by rw [if_pos c])
        · rw [if_neg c, if_pos (by omega)]
          exact go _ (by rw [if_neg c])
  exact key jo_N 0 K jk_s.refl (by decide) (by decide) (by decide) (fun j _ _ => by omega)
theorem jr_2112 {G : jg_G} : ∃ G', fo211 G = fo211_s jo_N 27 G' 0 0 ∧ (∀ n, n ≠ 115 → ∀ j, G' n j = G n j) ∧ ∀ t, 0 ≤ t → t < 4 → G' 115 t = G 108 t := by
  have key : ∀ (m : Nat) (l : Int) (X : jg_G), (∀ n, n ≠ 115 → ∀ j, X n j = G n j) → 0 ≤ l → l ≤ 4 → 4 < l + m → (∀ j, 0 ≤ j → j < l → X 115 j = G 108 j) → ∃ G', fo211_2 m X l = fo211_s jo_N 27 G' 0 0 ∧ (∀ n, n ≠ 115 → ∀ j, G' n j = G n j) ∧ ∀ t, 0 ≤ t → t < 4 → G' 115 t = G 108 t := by
    intro m
    induction m with
    | zero => intro l X hX h0 h1 h2; omega
    | succ m ih =>
      intro l X hX h0 h1 h2 hj
      by_cases e : 4 ≤ l
      · refine ⟨X, ?_, hX, fun t t0 t1 => hj t t0 (by omega)⟩
        conv => lhs; unfold fo211_2
        rw [if_pos e]
      · obtain ⟨G', y1, y2⟩ := ih (l + 1) (jg_u X 115 l (X 108 l)) (fun n hn j => by rw [jg_uN hn]; exact hX n hn j) (by omega) (by omega) (by omega) (fun j j0 j1 => by
          by_cases z : j = l
          · rw [z, jg_uH]; exact hX 108 (by decide) l
          · rw [jg_uI z]; exact hj j j0 (by omega))
        refine ⟨G', ?_, y2⟩
        rw [← y1]
        conv => lhs; unfold fo211_2
        rw [if_neg e, if_pos (by omega), if_pos (by omega)]
  unfold fo211
  exact key jo_N 0 G (fun _ _ _ => rfl) (by decide) (by decide) (by decide) (fun j _ _ => by omega)
theorem jMf.k {G G' : jg_G} {κ B : Nat} {W W' : jZW} (h : jMf G κ W B) (hl : jl_s G G') (hd : jd_m G G') (h12 : G' 92 12 = G 92 12) (h3 : G' 92 3 ≤ W'.1 + 3300) (hz : jgz W' G') (h5 : ∀ j, j < 0 → G' 113 j = G 113 j) : jMf G' κ W' B := by
  obtain ⟨n, a, ⟨b1, b2⟩, c, d, e, f, f9⟩ := h
  have hn := hl.a n
  exact ⟨n, h12.trans a, ⟨b1.a hn (Nat.le_refl _), b2.a hn hd (Nat.le_refl _)⟩, by rw [hn.ph0 (Int.le_refl _)]; exact c, by rw [hn.cw 0 n (Int.le_refl _), hn.cw 5 n (Int.le_refl _), hn.cw 4 n (Int.le_refl _)]; exact d, h3, hz, fun x x0 x1 => by rw [hn.pv x n (Int.le_refl _), h5 _ (by omega)]; exact f9 x x0 x1⟩
/-- fallen again: the class falls, too -/
theorem jrcf {K : jc_K} {G : jg_G} {k : Nat} {W : jZW} (hE : jE K G k) (hM : jMf G k W 223) (hW : W.1 ≤ 9000 * (k + 1)) (h0 : W.2.1 = 0) (h62 : ∀ j, 0 ≤ j → j < 32 → -1 ≤ jc_i K 62 j ∧ jc_i K 62 j < 4) (h85 : ∀ j, 0 ≤ j → j < 4 → jc_i K 85 j = G 113 j) : ∃ K2, fc140 K (-4) = some (K2, -4) ∧ jSf K2 G (k + 1) W := by
  obtain ⟨K2, a, b, c⟩ := jtold_f hE h62
  exact ⟨K2, a, fun j j0 j1 => by rw [c]; exact h85 j j0 j1, hW, b.le (by omega), hM.le (by omega) (Nat.le_refl _)⟩
