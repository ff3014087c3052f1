/-- a log to hold the start against -/
def js_G : jg_G := fun n i => if n = 113 ∧ i < 0 then -1 else js_e n i.toNat
theorem jSt_0g {σ : ib_H} (hF : jb_F σ) (hk : ∀ (n : Nat) (i : Int), 2 ≤ n → n < 92 → 0 ≤ i → i < js_l n → jc_i (jc_view σ) n i = js_e n i.toNat) (h64 : ∀ i : Int, 0 ≤ i → i < 1100 → jc_p (jc_view σ) 64 i = 0) (h1 : ib_nx σ = 98 ∧ ib_cc σ ≤ 98 ∧ ib_sc σ ≤ 324816) : jSt (jc_view σ) js_G 0 0 (0, 0, fun j => js_G 113 j) := by
  have pgo : ∀ p : Nat, jb_pg σ p → p + 1 < 92 → jc_pg (jc_view σ) p := fun p h hp => by
    obtain ⟨a, b, c, d, e⟩ := h
    exact ⟨⟨a, b⟩, ⟨c, d⟩, by
      show (if (0 : Int) ≤ 3 then jb_p σ p 3 else 0) = p + 1
      rw [if_pos (by decide)]
      exact e, Or.inl hp⟩
  refine jSt_s hk (fun n i n0 n1 i0 i1 => if_neg (by omega)) (fun j j0 j1 => ?_) (fun j hj => if_pos ⟨rfl, hj⟩) h64 (pgo 7 (jb_Fpg_of hF (by decide) (by decide) (by decide +kernel) (by decide +kernel) (by decide +kernel)) (by decide)) (fun p p0 p1 => pgo _ (jb_Fpgd hF p0 p1) (by omega)) (fun f f0 f1 => pgo _ (jb_Fpgf hF f0 f1) (by omega)) h1
  have e : js_G 113 j = js_e 113 j.toNat := if_neg (by omega)
  rw [e]
  exact js_e0 (by decide)
/-- the rows are laid -/
theorem jl154_48 {L : Nat} {xs : Nat → Int32} {K : jc_K} : ∀ (m : Nat) (l : Int) (X : jg_G), 0 ≤ l → l ≤ 64 → 64 < l + m → ∃ V', fl154_48 L xs m K X 1 l = fl154_s L xs jo_N 85 K V' 1 0 0 0 0 0 0 0 ∧ (∀ y, 0 ≤ y → y < 64 → V' 92 y = if l ≤ y then -1 else X 92 y) ∧ (∀ y, 0 ≤ y → y < 32 → V' 93 y = if l ≤ 32 + y then -1 else X 93 y) ∧ (∀ y, 0 ≤ y → y < 4 → V' 94 y = if l ≤ 60 + y then -1 else X 94 y) ∧ ∀ j, 4 ≤ j → V' 94 j = X 94 j := by
  intro m
  induction m with
  | zero => intro l X h0 h1 h2; omega
  | succ m ih =>
    intro l X h0 h1 h2
    unfold fl154_48
    by_cases e : 64 ≤ l
    · rw [if_pos e]
      exact ⟨X, rfl, fun y y0 y1 => by rw [if_neg (by omega)], fun y y0 y1 => by rw [if_neg (by omega)], fun y y0 y1 => by rw [if_neg (by omega)], fun _ _ => rfl⟩
    · rw [if_neg e, if_pos (by omega), if_pos (by omega), if_pos (by omega), if_pos (by omega), if_pos (by omega), if_pos (by omega)]
      obtain ⟨V', y1, y2, y3, y4, y5⟩ := ih (l + 1) (jg_u (jg_u (jg_u X 92 l (-1)) 93 (l % 32) (-1)) 94 (l % 4) (-1)) (by omega) (by omega) (by omega)
      refine ⟨V', y1, fun y a b => ?_, fun y a b => ?_, fun y a b => ?_, fun j hj => ?_⟩
      · rw [y2 y a b, jg_uN (by decide), jg_uN (by decide)]
        by_cases c : l + 1 ≤ y
        · rw [if_pos c, if_pos (by omega)]
        · rw [if_neg c]
          by_cases c2 : y = l
          · rw [c2, jg_uH, if_pos (Int.le_refl _)]
          · rw [jg_uI c2, if_neg (by omega)]
      · rw [y3 y a b, jg_uN (by decide)]
        by_cases c : l + 1 ≤ 32 + y
        · rw [if_pos c, if_pos (by omega)]
        · rw [if_neg c]
          by_cases c2 : y = l % 32
          · rw [c2, jg_uH, if_pos (by omega)]
          · rw [jg_uI c2, jg_uN (by decide), if_neg (by omega)]
      · rw [y4 y a b]
        by_cases c : l + 1 ≤ 60 + y
        · rw [if_pos c, if_pos (by omega)]
        · rw [if_neg c]
          by_cases c2 : y = l % 4
          · rw [c2, jg_uH, if_pos (by omega)]
          · rw [jg_uI c2, jg_uN (by decide), jg_uN (by decide), if_neg (by omega)]
      · rw [y5 j hj, jg_uI (by omega), jg_uN (by decide), jg_uN (by decide)]
/-- the rows agree with a log that has nothing -/
theorem js_R {V : jg_G} (h2 : ∀ y, 0 ≤ y → y < 64 → V 92 y = -1) (h3 : ∀ y, 0 ≤ y → y < 32 → V 93 y = -1) (h4 : ∀ y, 0 ≤ y → y < 4 → V 94 y = -1) (h5 : ∀ j, 4 ≤ j → j < 16 → V 94 j = 0) : jRl V js_G 0 ∧ jRz js_G 0 := by
  have e110 : ∀ t, js_G 110 t = -1 := fun t => (if_neg (show ¬ ((110 : Nat) = 113 ∧ t < 0) from fun z => absurd z.1 (by decide))).trans (js_e1 (by decide))
  have e111 : ∀ t, js_G 111 t = -1 := fun t => (if_neg (show ¬ ((111 : Nat) = 113 ∧ t < 0) from fun z => absurd z.1 (by decide))).trans (js_e1 (by decide))
  have e107 : ∀ t, js_G 107 t = 0 := fun t => (if_neg (show ¬ ((107 : Nat) = 113 ∧ t < 0) from fun z => absurd z.1 (by decide))).trans (js_e0 (by decide))
  have e113 : ∀ j, j < 0 → js_G 113 j = -1 := fun j hj => if_pos ⟨rfl, hj⟩
  refine ⟨⟨fun y y0 y1 => ⟨?_, ?_, ?_⟩, fun t t0 t1 => ⟨⟨?_, ?_, ?_, ?_⟩, trivial⟩⟩, fun t t0 t1 => ⟨fun u hu => absurd hu List.not_mem_nil, Nat.zero_le _⟩⟩
  · exact h2 y y0 (by omega)
  · rw [h2 _ (by omega) (by omega), e113 _ (by omega)]
  · rw [h3 y y0 y1, e111]
  · rw [h4 t t0 t1, e110]
  · rw [h5 _ (by omega) (by omega), e107]
  · rw [h5 _ (by omega) (by omega), e107, if_neg (by decide)]
  · rw [h5 _ (by omega) (by omega)]
    rfl
