/-! CHECK, the reference's side: a stack -/
theorem fo228_mn {G : jg_G} {w f : Int} : fo228 G w f = some (G, jmn w f) := by
  unfold fo228 jmn
  by_cases h : f < w
  · rw [if_pos (by omega), if_pos h]
  · by_cases e : f ≤ w
    · rw [if_pos e, if_neg h, show f = w by omega]
    · rw [if_neg e, if_neg h]
theorem jr_229l {X : jg_G} {r lo hi : Int} {c : jp_C} (hr : jp_r X r c) (hw : jp_w c) (hs : jst c) (rb : 0 ≤ r ∧ r < 54) {l5 k0 : Int} (hk : (l5 = 1 ∧ k0 = 0 ∧ c.1 = 1) ∨ (l5 = 0 ∧ k0 = 1 ∧ c.1 = 2)) : ∀ (m : Nat) (k b : Int), k0 ≤ k → k ≤ c.2.1 + 1 → c.2.1 + 1 < k + m → ((b = 1 ∧ ∀ i, k0 ≤ i → i < k → i < c.2.1 → lo ≤ c.2.2.1 i ∧ c.2.2.1 i < hi) ∨ (b = 0 ∧ ∃ i, k0 ≤ i ∧ i < c.2.1 ∧ ¬ (lo ≤ c.2.2.1 i ∧ c.2.2.1 i < hi))) → ∃ b', fo229_31 m X r lo hi b l5 k = some (X, b') ∧ ((b' = 1 ∧ ∀ i, k0 ≤ i → i < c.2.1 → lo ≤ c.2.2.1 i ∧ c.2.2.1 i < hi) ∨ (b' = 0 ∧ ∃ i, k0 ≤ i ∧ i < c.2.1 ∧ ¬ (lo ≤ c.2.2.1 i ∧ c.2.2.1 i < hi))) := by
  intro m
  induction m with
  | zero => intro k b h0 h1 h2; omega
  | succ m ih =>
    intro k b h0 h1 h2 hb
    have c32 := hw.1
    unfold fo229_31
    rw [if_pos (by omega), hr.2.1]
    by_cases e : c.2.1 ≤ k
    · rw [if_pos e, if_pos (by rcases hb with z | z <;> omega)]
      refine ⟨b, rfl, ?_⟩
      rcases hb with ⟨z, y⟩ | z
      · exact Or.inl ⟨z, fun i i0 i1 => y i i0 (by omega) i1⟩
      · exact Or.inr z
    rw [if_neg e]
    rcases hb with ⟨b1, hg⟩ | ⟨b0, hg⟩
    · have hkk := (hr.2.2 k (by omega) (by omega)).1
      rw [if_neg (show ¬ b = 0 by omega), if_pos (by omega), hkk]
      by_cases g1 : c.2.2.1 k < lo
      · rw [if_pos g1, if_pos (by omega)]
        exact ih (k + 1) 0 (by omega) (by omega) (by omega) (Or.inr ⟨rfl, k, h0, by omega, fun z => by omega⟩)
      rw [if_neg g1]
      by_cases g2 : hi ≤ c.2.2.1 k
      · rw [if_pos g2, if_pos (by omega)]
        exact ih (k + 1) 0 (by omega) (by omega) (by omega) (Or.inr ⟨rfl, k, h0, by omega, fun z => by omega⟩)
      rw [if_neg g2]
      have nx : ∀ _ : Int, ∃ b', fo229_31 m X r lo hi 1 l5 (k + 1) = some (X, b') ∧ ((b' = 1 ∧ ∀ i, k0 ≤ i → i < c.2.1 → lo ≤ c.2.2.1 i ∧ c.2.2.1 i < hi) ∨ (b' = 0 ∧ ∃ i, k0 ≤ i ∧ i < c.2.1 ∧ ¬ (lo ≤ c.2.2.1 i ∧ c.2.2.1 i < hi))) := fun _ => ih (k + 1) 1 (by omega) (by omega) (by omega) (Or.inl ⟨rfl, fun i i0 i1 i2 => by
        by_cases z : i = k
        · rw [z]; omega
        · exact hg i i0 (by omega) i2⟩)
      have up : k0 < k → c.2.2.1 (k - 1) < c.2.2.1 k := fun z => by
        have ek : k - 1 + 1 = k := by omega
        rcases hk with ⟨_, y1, y2⟩ | ⟨_, y1, y2⟩
        · rcases hw.2 with w | w | w
          · have := w.1; omega
          · have := w.2.2 (k - 1) (by omega) (by omega)
            rw [ek] at this; exact this
          · have := w.1; omega
        · have := hs y2 (k - 1) (by omega) (by omega)
          rw [ek] at this; exact this
      by_cases l0 : l5 = 0
      · rw [if_pos l0]
        by_cases z : k = 1
        · rw [if_pos z, if_pos (by omega)]; exact nx 0
        · have hk1 := (hr.2.2 (k - 1) (by omega) (by omega)).1
          have := up (by omega)
          rw [if_neg z, if_pos (by omega), hk1, if_neg (by omega), if_pos (by omega)]; exact nx 0
      · rw [if_neg l0]
        by_cases z : k = 0
        · rw [if_pos z, if_pos (by omega)]; exact nx 0
        · have hk1 := (hr.2.2 (k - 1) (by omega) (by omega)).1
          have := up (by omega)
          rw [if_neg z, if_pos (by omega), hk1, if_neg (by omega), if_pos (by omega)]; exact nx 0
    · rw [if_pos b0, if_pos (by omega)]
      exact ih (k + 1) 0 (by omega) (by omega) (by omega) (Or.inr ⟨rfl, hg⟩)
theorem jr_229 {X : jg_G} {r lo hi d : Int} {c : jp_C} (hr : jp_r X r c) (hw : jp_w c) (hs : jst c) (rb : 0 ≤ r ∧ r < 54) (h0 : c.1 ≠ 0) : ∃ b, fo229 X r lo hi = some (X, b) ∧ ((b = 1 ∧ jrk c (lo, hi, d)) ∨ (b = 0 ∧ ¬ jrk c (lo, hi, d))) := by
  have c32 := hw.1
  unfold fo229
  rw [if_pos (by omega), hr.1]
  by_cases k1 : c.1 = 1
  · rw [if_pos k1]
    obtain ⟨b, b1, b2⟩ := jr_229l (lo := lo) (hi := hi) (l5 := 1) (k0 := 0) hr hw hs rb (Or.inl ⟨rfl, rfl, k1⟩) jo_N 0 1 (by decide) (by omega) (by unfold jo_N; omega) (Or.inl ⟨rfl, fun i i0 i1 => by omega⟩)
    refine ⟨b, b1, ?_⟩
    rcases b2 with ⟨z, y⟩ | ⟨z, i, i0, i1, y⟩
    · exact Or.inl ⟨z, fun i i0 i1 _ => y i i0 i1⟩
    · exact Or.inr ⟨z, fun w => y (w i i0 i1 (Or.inl k1))⟩
  · have k2 : c.1 = 2 := by
      rcases hw.2 with w | w | w
      · exact absurd w.1 h0
      · exact absurd w.1 k1
      · exact w.1
    rw [if_neg k1]
    obtain ⟨b, b1, b2⟩ := jr_229l (lo := lo) (hi := hi) (l5 := 0) (k0 := 1) hr hw hs rb (Or.inr ⟨rfl, rfl, k2⟩) jo_N 1 1 (by decide) (by omega) (by unfold jo_N; omega) (Or.inl ⟨rfl, fun i i0 i1 => by omega⟩)
    refine ⟨b, b1, ?_⟩
    rcases b2 with ⟨z, y⟩ | ⟨z, i, i0, i1, y⟩
    · exact Or.inl ⟨z, fun i i0 i1 w => y i (by omega) i1⟩
    · exact Or.inr ⟨z, fun w => y (w i (by omega) i1 (Or.inr i0))⟩
/-- one child after the other comes onto the stack -/
theorem jr_286 {c : jp_C} {row : Int} (rb : 0 ≤ row ∧ row < 54) (h4 : c.2.1 ≤ 4) (hk : c.1 = 2) {w lv p lo hi : Int} {n d : Nat} (hn : n ≤ 90) (hd : d ≤ 24) : ∀ (r i : Nat) (X : jg_G), jp_r X row c → (i : Int) + r = c.2.1 → ∃ X', (∀ m, fo230_s (m + (r + 1)) 286 X w lv ((n : Int) + i) p lo hi d row i = fo230_s m 65 X' w lv ((n : Int) + c.2.1) p 0 0 0 0 0) ∧ (∀ a j, ¬ (a = 117 ∧ 4 * ((n : Int) + i) ≤ j) → X' a j = X a j) ∧ ∀ j : Int, i ≤ j → j < c.2.1 → X' 117 (4 * ((n : Int) + j)) = c.2.2.2 j ∧ X' 117 (4 * ((n : Int) + j) + 1) = (if j = 0 then lo else c.2.2.1 j) ∧ X' 117 (4 * ((n : Int) + j) + 2) = (if j + 1 < c.2.1 then c.2.2.1 (j + 1) else hi) ∧ X' 117 (4 * ((n : Int) + j) + 3) = (d : Int) + 1 := by
  intro r
  induction r with
  | zero =>
    intro i X hr e
    refine ⟨X, fun m => ?_, fun _ _ _ => rfl, fun j j0 j1 => by omega⟩
    show fo230_s (m + 1) 286 X w lv ((n : Int) + i) p lo hi d row i = _
    conv => lhs; unfold fo230_s
    rw [if_neg (by decide), if_pos rfl, if_pos (by omega), hr.1, if_pos hk, if_pos (by omega), hr.2.1, if_pos (by omega), show (i : Int) = c.2.1 by omega]
  | succ r ih =>
    intro i X hr e
    have push : ∃ X2, (∀ m, fo230_s (m + (r + 1 + 1)) 286 X w lv ((n : Int) + i) p lo hi d row i = fo230_s (m + (r + 1)) 286 X2 w lv ((n : Int) + i + 1) p lo hi d row ((i : Int) + 1)) ∧ (∀ a j, ¬ (a = 117 ∧ 4 * ((n : Int) + i) ≤ j) → X2 a j = X a j) ∧ X2 117 (4 * ((n : Int) + i)) = c.2.2.2 i ∧ X2 117 (4 * ((n : Int) + i) + 1) = (if (i : Int) = 0 then lo else c.2.2.1 i) ∧ X2 117 (4 * ((n : Int) + i) + 2) = (if (i : Int) + 1 < c.2.1 then c.2.2.1 ((i : Int) + 1) else hi) ∧ X2 117 (4 * ((n : Int) + i) + 3) = (d : Int) + 1 := by
      refine ⟨jg_u (jg_u (jg_u (jg_u X 117 (4 * ((n : Int) + i)) (c.2.2.2 i)) 117 (4 * ((n : Int) + i) + 1) (if (i : Int) = 0 then lo else c.2.2.1 i)) 117 (4 * ((n : Int) + i) + 2) (if (i : Int) + 1 < c.2.1 then c.2.2.1 ((i : Int) + 1) else hi)) 117 (4 * ((n : Int) + i) + 3) ((d : Int) + 1), fun m => ?_, fun a j h => ?_, ?_, ?_, ?_, jg_uH⟩
      · have v4 := (hr.2.2 (i : Int) (by omega) (by omega)).2
        have v3 := (hr.2.2 (i : Int) (by omega) (by omega)).1
        show fo230_s (m + (r + 1) + 1) 286 X w lv ((n : Int) + i) p lo hi d row i = _
        conv => lhs; unfold fo230_s
        rw [if_neg (by decide), if_pos rfl, if_pos (by omega), hr.1, if_pos hk, if_pos (by omega), hr.2.1, if_neg (by omega), if_pos (by omega), if_pos (by omega), v4, v3]
        by_cases i0 : (i : Int) = 0
        · rw [if_pos i0, if_pos i0, if_pos (by omega), if_pos (by omega)]
          by_cases i1 : (i : Int) + 1 < c.2.1
          · have v5 := (hr.2.2 ((i : Int) + 1) (by omega) i1).1
            rw [if_neg (by omega), if_pos (by omega), if_pos (by omega), if_pos (by omega), if_pos (by omega), if_pos (by omega), v5, if_pos i1]
          · rw [if_pos (by omega), if_pos (by omega), if_pos (by omega), if_pos (by omega), if_pos (by omega), if_neg i1]
        · rw [if_neg i0, if_neg i0, if_pos (by omega), if_pos (by omega), if_pos (by omega)]
          by_cases i1 : (i : Int) + 1 < c.2.1
          · have v5 := (hr.2.2 ((i : Int) + 1) (by omega) i1).1
            rw [if_neg (by omega), if_pos (by omega), if_pos (by omega), if_pos (by omega), if_pos (by omega), if_pos (by omega), v5, if_pos i1]
          · rw [if_pos (by omega), if_pos (by omega), if_pos (by omega), if_pos (by omega), if_pos (by omega), if_neg i1]
      · by_cases ea : a = 117
        · have : j < 4 * ((n : Int) + i) := by
            by_cases z : 4 * ((n : Int) + i) ≤ j
            · exact absurd ⟨ea, z⟩ h
            · omega
          subst ea
          rw [jg_uI (by omega), jg_uI (by omega), jg_uI (by omega), jg_uI (by omega)]
        · rw [jg_uN ea, jg_uN ea, jg_uN ea, jg_uN ea]
      · rw [jg_uI (by omega), jg_uI (by omega), jg_uI (by omega), jg_uH]
      · rw [jg_uI (by omega), jg_uI (by omega), jg_uH]
      · rw [jg_uI (by omega), jg_uH]
    obtain ⟨X2, x1, x2, x3, x4, x5, x6⟩ := push
    have hr2 : jp_r X2 row c := ⟨(x2 93 _ (by omega)).trans hr.1, (x2 93 _ (by omega)).trans hr.2.1, fun j j0 j1 => by
      rw [x2 93 _ (by omega), x2 93 _ (by omega)]
      exact hr.2.2 j j0 j1⟩
    obtain ⟨X', y1, y2, y3⟩ := ih (i + 1) X2 hr2 (by omega)
    have en : (n : Int) + ((i + 1 : Nat) : Int) = (n : Int) + i + 1 := by omega
    have ei : ((i + 1 : Nat) : Int) = (i : Int) + 1 := by omega
    rw [en] at y2
    refine ⟨X', fun m => ?_, fun a j h => ?_, fun j j0 j1 => ?_⟩
    · have := y1 m
      rw [en, ei] at this
      rw [x1 m]
      exact this
    · rw [y2 a j (fun z => h ⟨z.1, by omega⟩)]
      exact x2 a j h
    · by_cases ej : j = i
      · subst ej
        rw [y2 117 _ (by omega), y2 117 _ (by omega), y2 117 _ (by omega), y2 117 _ (by omega)]
        exact ⟨x3, x4, x5, x6⟩
      · exact y3 j (by omega) j1
section
variable {K : jc_K} {G X : jg_G} {k : Nat}
/-- one entry is taken from the stack -/
theorem jr_pop (h : jIn K G k) (hX : jx_w G X) {n d : Nat} {p lo hi : Int} (e0 : X 117 (4 * (n : Int)) = p) (e1 : X 117 (4 * (n : Int) + 1) = lo) (e2 : X 117 (4 * (n : Int) + 2) = hi) (e3 : X 117 (4 * (n : Int) + 3) = d) (hp : 0 ≤ p ∧ p < 24) (hn : n ≤ 90) (hd : d ≤ 24) (w lv p0 : Int) : ∃ (s : Nat) (X' : jg_G) (w' lv' : Int) (e : Nat), (1 ≤ s ∧ s ≤ 6) ∧ (∀ m, fo230_s (m + s) 65 X w lv ((n : Int) + 1) p0 0 0 0 0 0 = fo230_s m 65 X' w' lv' ((n : Int) + e) p 0 0 0 0 0) ∧ jx_w G X' ∧ (X' 118 p = 1 ∧ ∀ z, z ≠ p → X' 118 z = X 118 z) ∧ (∀ j, j < 4 * (n : Int) → X' 117 j = X 117 j) ∧ ((fr_to G p ≠ 0 ∧ w' = 1 ∧ lv' = lv ∧ e = 0) ∨ (fr_to G p = 0 ∧ (X 118 p ≠ 0 ∨ (jsc G p).1 = 0) ∧ w' = jmn w 2 ∧ lv' = lv ∧ e = 0) ∨ (fr_to G p = 0 ∧ X 118 p = 0 ∧ (jsc G p).1 ≠ 0 ∧ (∃ w1 w2, (¬ jrk (jsc G p) (lo, hi, (d : Int)) → w1 = jmn w 3) ∧ (¬ ¬ jrk (jsc G p) (lo, hi, (d : Int)) → w1 = w) ∧ ((jsc G p).2.1 = 0 ∧ (p ≠ 0 ∨ (jsc G p).1 = 2) → w2 = jmn w1 5) ∧ (¬ ((jsc G p).2.1 = 0 ∧ (p ≠ 0 ∨ (jsc G p).1 = 2)) → w2 = w1) ∧ ((jsc G p).1 = 1 ∧ lv ≠ -1 ∧ lv ≠ (d : Int) → w' = jmn w2 4) ∧ (¬ ((jsc G p).1 = 1 ∧ lv ≠ -1 ∧ lv ≠ (d : Int)) → w' = w2)) ∧ lv' = (if (jsc G p).1 = 1 then (d : Int) else lv) ∧ e = jec (jsc G) (fr_to G) p ∧ ∀ j : Int, 0 ≤ j → j < e → X' 117 (4 * ((n : Int) + j)) = (jsc G p).2.2.2 j ∧ X' 117 (4 * ((n : Int) + j) + 1) = (jkl (jsc G) p j (lo, hi, (d : Int))).1 ∧ X' 117 (4 * ((n : Int) + j) + 2) = (jkl (jsc G) p j (lo, hi, (d : Int))).2.1 ∧ X' 117 (4 * ((n : Int) + j) + 3) = (jkl (jsc G) p j (lo, hi, (d : Int))).2.2)) := by
  have hX1 : jx_w G (jg_u X 118 p 1) := fun a ha j => by rw [jg_uN (by omega)]; exact hX a ha j
  have v118 : jg_u X 118 p 1 118 p = 1 ∧ ∀ z, z ≠ p → jg_u X 118 p 1 118 z = X 118 z := ⟨jg_uH, fun z hz => jg_uI hz⟩
  have v117 : ∀ j, j < 4 * (n : Int) → jg_u X 118 p 1 117 j = X 117 j := fun j _ => jg_uN (by decide)
  have en : (n : Int) + 1 + -1 = n := by omega
  obtain ⟨rb, ht⟩ := h.see hp
  by_cases t0 : fr_to G p = 0
  case neg =>
    have ht := ht.resolve_right (fun z => t0 z.1)
    refine ⟨1, jg_u X 118 p 1, 1, lv, 0, by omega, fun m => ?_, hX1, v118, v117, Or.inl ⟨t0, rfl, rfl, rfl⟩⟩
    conv => lhs; unfold fo230_s
    rw [if_pos rfl, if_neg (by omega), en, if_pos (by omega), if_pos (by omega), if_pos (by omega), if_pos (by omega), e0, if_pos hp, jo_le, jo_le, hX.to, if_neg t0, if_pos hp, if_pos (by omega)]
    rw [show (n : Int) + ((0 : Nat) : Int) = n by omega]
  obtain ⟨_, ⟨hr, hw, hs⟩, _⟩ := ht.resolve_left (fun z => by rw [z.2] at t0; exact absurd t0 (by decide))
  have hrX : jp_r X (fr_ro G p) (jsc G p) := ⟨(hX 93 (by decide) _).trans hr.1, (hX 93 (by decide) _).trans hr.2.1, fun j j0 j1 => by
    rw [hX 93 (by decide), hX 93 (by decide)]
    exact hr.2.2 j j0 j1⟩
  have hrX1 : jp_r (jg_u X 118 p 1) (fr_ro G p) (jsc G p) := ⟨(hX1 93 (by decide) _).trans hr.1, (hX1 93 (by decide) _).trans hr.2.1, fun j j0 j1 => by
    rw [hX1 93 (by decide), hX1 93 (by decide)]
    exact hr.2.2 j j0 j1⟩
  by_cases s0 : X 118 p = 0
  case neg =>
    refine ⟨1, jg_u X 118 p 1, jmn w 2, lv, 0, by omega, fun m => ?_, hX1, v118, v117, Or.inr (Or.inl ⟨t0, Or.inl s0, rfl, rfl, rfl⟩)⟩
    conv => lhs; unfold fo230_s
    rw [if_pos rfl, if_neg (by omega), en, if_pos (by omega), if_pos (by omega), if_pos (by omega), if_pos (by omega), e0, if_pos hp, jo_le, jo_le, hX.to, if_pos t0, if_pos hp, if_neg s0, fo228_mn, jo_bs, if_pos (by omega)]
    rw [show (n : Int) + ((0 : Nat) : Int) = n by omega]
  by_cases k0 : (jsc G p).1 = 0
  · refine ⟨1, jg_u X 118 p 1, jmn w 2, lv, 0, by omega, fun m => ?_, hX1, v118, v117, Or.inr (Or.inl ⟨t0, Or.inr k0, rfl, rfl, rfl⟩)⟩
    conv => lhs; unfold fo230_s
    rw [if_pos rfl, if_neg (by omega), en, if_pos (by omega), if_pos (by omega), if_pos (by omega), if_pos (by omega), e0, if_pos hp, jo_le, jo_le, hX.to, if_pos t0, if_pos hp, if_pos s0, hX.ro, if_pos (by omega), hrX.1, if_pos k0, fo228_mn, jo_bs, if_pos (by omega)]
    rw [show (n : Int) + ((0 : Nat) : Int) = n by omega]
  -- looked into
  obtain ⟨b, f1, f2⟩ := jr_229 (lo := lo) (hi := hi) (d := (d : Int)) hrX1 hw hs rb k0
  have b32 := hw.1
  have X1k : jg_u X 118 p 1 93 (67 * fr_ro G p) = (jsc G p).1 := hrX1.1
  have X1c : jg_u X 118 p 1 93 (67 * fr_ro G p + 2) = (jsc G p).2.1 := hrX1.2.1
  have step : ∃ w' lv', (∀ m, fo230_s (m + 1) 65 X w lv ((n : Int) + 1) p0 0 0 0 0 0 = fo230_s m 286 (jg_u X 118 p 1) w' lv' n p lo hi d (fr_ro G p) 0) ∧ (∃ w1 w2, (¬ jrk (jsc G p) (lo, hi, (d : Int)) → w1 = jmn w 3) ∧ (¬ ¬ jrk (jsc G p) (lo, hi, (d : Int)) → w1 = w) ∧ ((jsc G p).2.1 = 0 ∧ (p ≠ 0 ∨ (jsc G p).1 = 2) → w2 = jmn w1 5) ∧ (¬ ((jsc G p).2.1 = 0 ∧ (p ≠ 0 ∨ (jsc G p).1 = 2)) → w2 = w1) ∧ ((jsc G p).1 = 1 ∧ lv ≠ -1 ∧ lv ≠ (d : Int) → w' = jmn w2 4) ∧ (¬ ((jsc G p).1 = 1 ∧ lv ≠ -1 ∧ lv ≠ (d : Int)) → w' = w2)) ∧ lv' = (if (jsc G p).1 = 1 then (d : Int) else lv) := by
    have start : ∀ m, fo230_s (m + 1) 65 X w lv ((n : Int) + 1) p0 0 0 0 0 0 = fo230_s (m + 1) 65 X w lv ((n : Int) + 1) p0 0 0 0 0 0 := fun _ => rfl
    generalize hw1 : (if b = 0 then jmn w 3 else w) = w1
    generalize hw2 : (if (jsc G p).2.1 = 0 ∧ (p ≠ 0 ∨ (jsc G p).1 = 2) then jmn w1 5 else w1) = w2
    generalize hw3 : (if (jsc G p).1 = 1 ∧ lv ≠ -1 ∧ lv ≠ (d : Int) then jmn w2 4 else w2) = w3
    refine ⟨w3, if (jsc G p).1 = 1 then (d : Int) else lv, fun m => ?_, ⟨w1, w2, fun z => ?_, fun z => ?_, fun z => ?_, fun z => ?_, fun z => ?_, fun z => ?_⟩, rfl⟩
    · conv => lhs; unfold fo230_s
      rw [if_pos rfl, if_neg (by omega), en, if_pos (by omega), if_pos (by omega), if_pos (by omega), if_pos (by omega), e0, e1, e2, e3, if_pos hp, jo_le, jo_le, hX.to, if_pos t0, if_pos hp, if_pos s0, hX.ro, if_pos (by omega), hrX.1, if_neg k0, f1, jo_bs]
      dsimp only
      -- from the bare test on, with the fault w1
      have tail : ∀ v, (if 0 ≤ ((67 * fr_ro G p) + 2) ∧ ((67 * fr_ro G p) + 2) < 305118 then if jg_u X 118 p 1 93 ((67 * fr_ro G p) + 2) = 0 then (if p = 0 then (if jg_u X 118 p 1 93 (67 * fr_ro G p) = 2 then ((fo228 (jg_u X 118 p 1) v 5).bind fun x59 => if (x59.1) 93 (67 * fr_ro G p) = 1 then (if lv = (-1) then (if -2147483648 ≤ (n : Int) ∧ (n : Int) < 2147483648 then fo230_s m 286 (x59.1) (x59.2) (d : Int) (n : Int) p lo hi (d : Int) (fr_ro G p) 0 else none) else (if lv = (d : Int) then (if -2147483648 ≤ (n : Int) ∧ (n : Int) < 2147483648 then fo230_s m 286 (x59.1) (x59.2) (d : Int) (n : Int) p lo hi (d : Int) (fr_ro G p) 0 else none) else ((fo228 (x59.1) (x59.2) 4).bind fun x67 => if -2147483648 ≤ (n : Int) ∧ (n : Int) < 2147483648 then fo230_s m 286 (x67.1) (x67.2) (d : Int) (n : Int) p lo hi (d : Int) (fr_ro G p) 0 else none))) else (if -2147483648 ≤ (n : Int) ∧ (n : Int) < 2147483648 then fo230_s m 286 (x59.1) (x59.2) lv (n : Int) p lo hi (d : Int) (fr_ro G p) 0 else none)) else (if jg_u X 118 p 1 93 (67 * fr_ro G p) = 1 then (if lv = (-1) then (if -2147483648 ≤ (n : Int) ∧ (n : Int) < 2147483648 then fo230_s m 286 (jg_u X 118 p 1) v (d : Int) (n : Int) p lo hi (d : Int) (fr_ro G p) 0 else none) else (if lv = (d : Int) then (if -2147483648 ≤ (n : Int) ∧ (n : Int) < 2147483648 then fo230_s m 286 (jg_u X 118 p 1) v (d : Int) (n : Int) p lo hi (d : Int) (fr_ro G p) 0 else none) else ((fo228 (jg_u X 118 p 1) v 4).bind fun x56 => if -2147483648 ≤ (n : Int) ∧ (n : Int) < 2147483648 then fo230_s m 286 (x56.1) (x56.2) (d : Int) (n : Int) p lo hi (d : Int) (fr_ro G p) 0 else none))) else (if -2147483648 ≤ (n : Int) ∧ (n : Int) < 2147483648 then fo230_s m 286 (jg_u X 118 p 1) v lv (n : Int) p lo hi (d : Int) (fr_ro G p) 0 else none))) else ((fo228 (jg_u X 118 p 1) v 5).bind fun x38 => if (x38.1) 93 (67 * fr_ro G p) = 1 then (if lv = (-1) then (if -2147483648 ≤ (n : Int) ∧ (n : Int) < 2147483648 then fo230_s m 286 (x38.1) (x38.2) (d : Int) (n : Int) p lo hi (d : Int) (fr_ro G p) 0 else none) else (if lv = (d : Int) then (if -2147483648 ≤ (n : Int) ∧ (n : Int) < 2147483648 then fo230_s m 286 (x38.1) (x38.2) (d : Int) (n : Int) p lo hi (d : Int) (fr_ro G p) 0 else none) else ((fo228 (x38.1) (x38.2) 4).bind fun x46 => if -2147483648 ≤ (n : Int) ∧ (n : Int) < 2147483648 then fo230_s m 286 (x46.1) (x46.2) (d : Int) (n : Int) p lo hi (d : Int) (fr_ro G p) 0 else none))) else (if -2147483648 ≤ (n : Int) ∧ (n : Int) < 2147483648 then fo230_s m 286 (x38.1) (x38.2) lv (n : Int) p lo hi (d : Int) (fr_ro G p) 0 else none))) else (if jg_u X 118 p 1 93 (67 * fr_ro G p) = 1 then (if lv = (-1) then (if -2147483648 ≤ (n : Int) ∧ (n : Int) < 2147483648 then fo230_s m 286 (jg_u X 118 p 1) v (d : Int) (n : Int) p lo hi (d : Int) (fr_ro G p) 0 else none) else (if lv = (d : Int) then (if -2147483648 ≤ (n : Int) ∧ (n : Int) < 2147483648 then fo230_s m 286 (jg_u X 118 p 1) v (d : Int) (n : Int) p lo hi (d : Int) (fr_ro G p) 0 else none) else ((fo228 (jg_u X 118 p 1) v 4).bind fun x34 => if -2147483648 ≤ (n : Int) ∧ (n : Int) < 2147483648 then fo230_s m 286 (x34.1) (x34.2) (d : Int) (n : Int) p lo hi (d : Int) (fr_ro G p) 0 else none))) else (if -2147483648 ≤ (n : Int) ∧ (n : Int) < 2147483648 then fo230_s m 286 (jg_u X 118 p 1) v lv (n : Int) p lo hi (d : Int) (fr_ro G p) 0 else none)) else none) = fo230_s m 286 (jg_u X 118 p 1) (if (jsc G p).1 = 1 ∧ lv ≠ -1 ∧ lv ≠ (d : Int) then jmn (if (jsc G p).2.1 = 0 ∧ (p ≠ 0 ∨ (jsc G p).1 = 2) then jmn v 5 else v) 4 else (if (jsc G p).2.1 = 0 ∧ (p ≠ 0 ∨ (jsc G p).1 = 2) then jmn v 5 else v)) (if (jsc G p).1 = 1 then (d : Int) else lv) n p lo hi d (fr_ro G p) 0 := fun v => by
        have leaf : ∀ v, (if jg_u X 118 p 1 93 (67 * fr_ro G p) = 1 then (if lv = (-1) then (if -2147483648 ≤ (n : Int) ∧ (n : Int) < 2147483648 then fo230_s m 286 (jg_u X 118 p 1) v (d : Int) (n : Int) p lo hi (d : Int) (fr_ro G p) 0 else none) else (if lv = (d : Int) then (if -2147483648 ≤ (n : Int) ∧ (n : Int) < 2147483648 then fo230_s m 286 (jg_u X 118 p 1) v (d : Int) (n : Int) p lo hi (d : Int) (fr_ro G p) 0 else none) else ((fo228 (jg_u X 118 p 1) v 4).bind fun x56 => if -2147483648 ≤ (n : Int) ∧ (n : Int) < 2147483648 then fo230_s m 286 (x56.1) (x56.2) (d : Int) (n : Int) p lo hi (d : Int) (fr_ro G p) 0 else none))) else (if -2147483648 ≤ (n : Int) ∧ (n : Int) < 2147483648 then fo230_s m 286 (jg_u X 118 p 1) v lv (n : Int) p lo hi (d : Int) (fr_ro G p) 0 else none)) = fo230_s m 286 (jg_u X 118 p 1) (if (jsc G p).1 = 1 ∧ lv ≠ -1 ∧ lv ≠ (d : Int) then jmn v 4 else v) (if (jsc G p).1 = 1 then (d : Int) else lv) n p lo hi d (fr_ro G p) 0 := fun v => by
          rw [X1k, if_pos (show -2147483648 ≤ (n : Int) ∧ (n : Int) < 2147483648 by omega), if_pos (show -2147483648 ≤ (n : Int) ∧ (n : Int) < 2147483648 by omega)]
          by_cases k1 : (jsc G p).1 = 1
          · rw [if_pos k1, if_pos k1]
            by_cases z1 : lv = -1
            · rw [if_pos z1, if_neg (fun y => y.2.1 z1)]
            · rw [if_neg z1]
              by_cases z2 : lv = d
              · rw [if_pos z2, if_neg (fun y => y.2.2 z2)]
              · rw [if_neg z2, if_pos ⟨k1, z1, z2⟩, fo228_mn, jo_bs, if_pos (show -2147483648 ≤ (n : Int) ∧ (n : Int) < 2147483648 by omega)]
          · rw [if_neg k1, if_neg k1, if_neg (fun y => k1 y.1)]
        rw [if_pos (by omega), X1c, fo228_mn, jo_bs]
        dsimp only
        rw [leaf, leaf, X1k]
        by_cases c0 : (jsc G p).2.1 = 0
        · rw [if_pos c0]
          by_cases pz : p = 0
          · rw [if_pos pz]
            by_cases k2 : (jsc G p).1 = 2
            · rw [if_pos k2, if_pos (show (jsc G p).2.1 = 0 ∧ (p ≠ 0 ∨ (jsc G p).1 = 2) from ⟨c0, Or.inr k2⟩)]
            · rw [if_neg k2, if_neg (show ¬ ((jsc G p).2.1 = 0 ∧ (p ≠ 0 ∨ (jsc G p).1 = 2)) from fun y => y.2.elim (fun w => w pz) k2)]
          · rw [if_neg pz, if_pos (show (jsc G p).2.1 = 0 ∧ (p ≠ 0 ∨ (jsc G p).1 = 2) from ⟨c0, Or.inl pz⟩)]
        · rw [if_neg c0, if_neg (show ¬ ((jsc G p).2.1 = 0 ∧ (p ≠ 0 ∨ (jsc G p).1 = 2)) from fun y => c0 y.1)]
      by_cases b0 : b = 0
      · rw [if_pos b0] at hw1 ⊢
        rw [fo228_mn, jo_bs]
        dsimp only
        rw [tail, hw1, hw2, hw3]
      · rw [if_neg b0] at hw1 ⊢
        rw [tail, hw1, hw2, hw3]
    · rw [← hw1, if_pos (by
        rcases f2 with y | y
        · exact absurd y.2 z
        · exact y.1)]
    · rw [← hw1, if_neg (by
        rcases f2 with y | y
        · omega
        · exact absurd y.2 z)]
    · rw [← hw2, if_pos z]
    · rw [← hw2, if_neg z]
    · rw [← hw3, if_pos z]
    · rw [← hw3, if_neg z]
  obtain ⟨w', lv', st1, st2, st3⟩ := step
  by_cases k1 : (jsc G p).1 = 1
  · have ec : jec (jsc G) (fr_to G) p = 0 := by
      unfold jec
      rw [if_neg (fun z => by omega)]
    refine ⟨2, jg_u X 118 p 1, w', lv', 0, by omega, fun m => ?_, hX1, v118, v117, Or.inr (Or.inr ⟨t0, s0, k0, st2, st3, ec.symm, fun j j0 j1 => by omega⟩)⟩
    rw [show m + 2 = (m + 1) + 1 from rfl, st1]
    conv => lhs; unfold fo230_s
    rw [if_neg (by decide), if_pos rfl, if_pos (by omega), X1k, if_neg (by omega)]
    rw [show (n : Int) + ((0 : Nat) : Int) = n by omega]
  · have k2 : (jsc G p).1 = 2 := by
      rcases hw.2 with w | w | w
      · exact absurd w.1 k0
      · exact absurd w.1 k1
      · exact w.1
    have c4 : (jsc G p).2.1 ≤ 4 := by
      rcases hw.2 with w | w | w
      · exact absurd w.1 k0
      · exact absurd w.1 k1
      · exact w.2.1
    have ec : jec (jsc G) (fr_to G) p = (jsc G p).2.1.toNat := by
      unfold jec
      rw [if_pos ⟨t0, k2⟩]
    have ecz : ((jec (jsc G) (fr_to G) p : Nat) : Int) = (jsc G p).2.1 := by omega
    obtain ⟨X', y1, y2, y3⟩ := jr_286 (w := w') (lv := lv') (p := p) (lo := lo) (hi := hi) rb c4 k2 hn hd (jsc G p).2.1.toNat 0 (jg_u X 118 p 1) hrX1 (by omega)
    refine ⟨(jsc G p).2.1.toNat + 2, X', w', lv', jec (jsc G) (fr_to G) p, by omega, fun m => ?_, fun a ha j => ?_, ⟨?_, fun z hz => ?_⟩, fun j hj => ?_, Or.inr (Or.inr ⟨t0, s0, k0, st2, st3, rfl, fun j j0 j1 => ?_⟩)⟩
    · rw [show m + ((jsc G p).2.1.toNat + 2) = m + ((jsc G p).2.1.toNat + 1) + 1 from rfl, st1]
      have := y1 m
      rw [show (n : Int) + ((0 : Nat) : Int) = n by omega] at this
      rw [ecz]
      exact this
    · rw [y2 a j (by omega)]
      exact hX1 a ha j
    · rw [y2 118 p (by omega)]; exact v118.1
    · rw [y2 118 z (by omega)]; exact v118.2 z hz
    · rw [y2 117 j (by omega)]; exact v117 j hj
    · have := y3 j (by omega) (by omega)
      exact this
end
