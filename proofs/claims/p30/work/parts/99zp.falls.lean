/-! THE LAW: falls; the rows behind what a call has made of the log -/
theorem jRl.s {V G G' : jg_G} {N N' : Nat} (h : jRl V G N) (hz : jRz G N) (z : jzs G N G' N') (h9 : ∀ t, 0 ≤ t → t < 4 → G 107 t = 0 ∨ G 107 t = 1) : jRl V G' N' ∧ jRz G' N' := by
  obtain ⟨a1, a2, a3, a4, a5, a6, a7, a8⟩ := z
  refine ⟨⟨fun y y0 y1 => ?_, fun t t0 t1 => ?_⟩, fun t t0 t1 => ?_⟩
  · rw [a1, a7, (a3 y).2.2]
    exact h.1 y y0 y1
  · obtain ⟨⟨b1, b2, b3, b4⟩, b5⟩ := h.2 t t0 t1
    rw [a2 t t0 t1, (a3 t).1, (a3 t).2.1]
    refine ⟨⟨b1, b2, ?_, b4⟩, b5.c (fun _ _ _ _ _ => rfl) (fun u hu => ?_)⟩
    · rw [b3]
      by_cases o : G 107 t = 1
      · rw [if_pos o, if_pos o, a4 t t0 t1 o]
      · rw [if_neg o, if_neg o]
    · have := (hz t t0 t1).1 u hu
      exact ⟨a5.l (m := 101) (by decide) this.1 this.2, a5.l (m := 102) (by decide) this.1 this.2⟩
  · rw [a2 t t0 t1]
    exact ⟨fun u hu => ⟨((hz t t0 t1).1 u hu).1, by have := ((hz t t0 t1).1 u hu).2; omega⟩, (hz t t0 t1).2⟩
/-- what falls makes of the rows ahead of the recovery -/
def jfl (V : jg_G) (V' : jg_G) : Prop := (∀ y, 0 ≤ y → y < 32 → V' 92 y = V 92 (32 + y) ∧ V' 92 (32 + y) = V 92 (32 + y) ∧ V' 93 y = -1) ∧ ∀ t, 0 ≤ t → t < 4 → V' 94 t = -1 ∧ V' 94 (4 + t) = 0 ∧ V' 94 (8 + t) = 0 ∧ V' 94 (12 + t) = 0
theorem jfl_25 {K : jc_K} : ∀ (m : Nat) (l : Int) (X : jg_G), 0 ≤ l → l ≤ 32 → 32 < l + m → ∃ V', fl149_25 m K X l = fl149_56 jo_N K V' (-4) 0 ∧ (∀ y, l ≤ y → y < 32 → V' 92 y = X 92 (32 + y)) ∧ ∀ n j, ¬ (n = 92 ∧ l ≤ j ∧ j < 32) → V' n j = X n j := by
  intro m
  induction m with
  | zero => intro l X h0 h1 h2; omega
  | succ m ih =>
    intro l X h0 h1 h2
    unfold fl149_25
    by_cases e : 32 ≤ l
    · rw [if_pos e]
      exact ⟨X, rfl, fun y y0 y1 => by omega, fun _ _ _ => rfl⟩
    · rw [if_neg e, if_pos (by omega), if_pos (by omega), if_pos (by omega)]
      obtain ⟨V', y1, y2, y3⟩ := ih (l + 1) (jg_u X 92 l (X 92 (32 + l))) (by omega) (by omega) (by omega)
      refine ⟨V', y1, fun y y0 y1 => ?_, fun n j hn => ?_⟩
      · by_cases ey : y = l
        · rw [ey, y3 92 l (by omega), jg_uH]
        · rw [y2 y (by omega) y1, jg_uI (by omega)]
      · rw [y3 n j (by omega)]
        by_cases n92 : n = 92
        · subst n92
          exact jg_uI (by omega)
        · exact jg_uN n92
theorem jfl_3 {K : jc_K} : ∀ (m : Nat) (l : Int) (X : jg_G), 0 ≤ l → l ≤ 4 → 4 < l + m → (∀ k, 0 ≤ k → k < 32 → -1 ≤ X 93 k ∧ X 93 k < 4) → (∀ k, 0 ≤ k → k < 32 → X 93 k < 0 ∨ l ≤ X 93 k) → (∀ t, 0 ≤ t → t < l → X 94 t = -1 ∧ X 94 (4 + t) = 0 ∧ X 94 (8 + t) = 0 ∧ X 94 (12 + t) = 0) → ∃ V', fl149_3 m K X l = fl149_56 jo_N K V' (-4) 0 ∧ jfl X V' := by
  intro m
  induction m with
  | zero => intro l X h0 h1 h2; omega
  | succ m ih =>
    intro l X h0 h1 h2 hb hh hw
    unfold fl149_3
    by_cases e : 4 ≤ l
    · rw [if_pos e]
      obtain ⟨V', y1, y2, y3⟩ := jfl_25 (K := K) jo_N 0 X (by decide) (by decide) (by decide)
      refine ⟨V', y1, fun y y0 y1 => ⟨y2 y y0 y1, y3 92 _ (by omega), ?_⟩, fun t t0 t1 => ?_⟩
      · rw [y3 93 y (by omega)]
        have := hb y y0 y1
        have := hh y y0 y1
        omega
      · rw [y3 94 _ (by omega), y3 94 _ (by omega), y3 94 _ (by omega), y3 94 _ (by omega)]
        exact hw t t0 (by omega)
    · rw [if_neg e]
      obtain ⟨X', x1, x2⟩ := jl147 (K := K) (V := X) (t := l) ⟨h0, by omega⟩
      rw [x1, jo_bs]
      dsimp only
      rw [if_pos (by omega)]
      have e93 : ∀ k, 0 ≤ k → k < 32 → X' 93 k = if X 93 k = l then -1 else X 93 k := fun k k0 k1 => by
        rw [x2]
        unfold jle
        rw [if_neg (by omega), if_neg (by omega)]
        by_cases c : X 93 k = l
        · rw [if_pos ⟨rfl, k0, k1, c⟩, if_pos c]
        · rw [if_neg (fun z => c z.2.2.2), if_neg c]
      obtain ⟨V', y1, y2, y3⟩ := ih (l + 1) X' (by omega) (by omega) (by omega) (fun k k0 k1 => by
        rw [e93 k k0 k1]
        have := hb k k0 k1
        split <;> omega) (fun k k0 k1 => by
        rw [e93 k k0 k1]
        have := hh k k0 k1
        by_cases c : X 93 k = l
        · rw [if_pos c]; exact Or.inl (by decide)
        · rw [if_neg c]; omega) (fun t t0 t1 => by
        rw [x2, x2, x2, x2]
        unfold jle
        by_cases z : t = l
        · subst z
          refine ⟨?_, ?_, ?_, ?_⟩
          · rw [if_neg (by omega), if_pos ⟨rfl, t0, by omega, Or.inl rfl⟩]
          · rw [if_pos ⟨rfl, Or.inl rfl⟩]
          · rw [if_pos ⟨rfl, Or.inr (Or.inl rfl)⟩]
          · rw [if_pos ⟨rfl, Or.inr (Or.inr rfl)⟩]
        · obtain ⟨w1, w2, w3, w4⟩ := hw t t0 (by omega)
          refine ⟨?_, ?_, ?_, ?_⟩
          · rw [if_neg (by omega), if_neg (by omega), if_neg (by omega)]; exact w1
          · rw [if_neg (by omega), if_neg (by omega), if_neg (by omega)]; exact w2
          · rw [if_neg (by omega), if_neg (by omega), if_neg (by omega)]; exact w3
          · rw [if_neg (by omega), if_neg (by omega), if_neg (by omega)]; exact w4)
      refine ⟨V', y1, fun y y0 y1 => ?_, y3⟩
      obtain ⟨z1, z2, z3⟩ := y2 y y0 y1
      have e92 : X' 92 (32 + y) = X 92 (32 + y) := by
        rw [x2]
        unfold jle
        rw [if_neg (by omega), if_neg (by omega), if_neg (by omega)]
      rw [z1, z2, e92]
      exact ⟨rfl, rfl, z3⟩
theorem jy_inl {o : Option (jc_K × (Int ⊕ Nat))} {K : jc_K} {v : Int} (h : o = some (K, .inl v)) : jy_ok o = some (K, v) := by
  rw [h]; rfl
/-- alive and cleared: the rows that falls has left are right -/
theorem jCl.R {K : jc_K} {V V' G : jg_G} {N k : Nat} {W : jZW} (hs : jSt K G N k W) (hc : jCl G N) (hf : jfl V V') (hv : ∀ y, 0 ≤ y → y < 32 → V 92 (32 + y) = G 113 (-1 - y)) : jRl V' G N ∧ jRz G N ∧ jRb V' := by
  obtain ⟨⟨c1, c2⟩, c3⟩ := hc
  have L0 : ∀ t, 0 ≤ t → t < 4 → jzL G t N = [] := fun t t0 t1 => by
    rw [jzL_jt N, c3 t t0 t1]
    rfl
  refine ⟨⟨fun y y0 y1 => ?_, fun t t0 t1 => ?_⟩, fun t t0 t1 => ?_, fun t t0 t1 => ?_⟩
  · obtain ⟨f1, f2, f3⟩ := hf.1 y y0 y1
    rw [f1, f2, f3, hv y y0 y1, c2 y y0 y1, hs.free ⟨y0, y1⟩ (c2 y y0 y1)]
    exact ⟨rfl, rfl, rfl⟩
  · obtain ⟨f1, f2, f3, f4⟩ := hf.2 t t0 t1
    rw [f1, f2, f3, f4, L0 t t0 t1, (c1 t t0 t1).1, (c1 t t0 t1).2]
    exact ⟨⟨rfl, rfl, rfl, rfl⟩, trivial⟩
  · rw [L0 t t0 t1]
    exact ⟨fun u hu => absurd hu List.not_mem_nil, Nat.zero_le _⟩
  · rw [(hf.2 t t0 t1).2.2.1]
    decide
theorem jl149 {K : jc_K} {V G : jg_G} {k : Nat} {W : jZW} (hs : jSf K G k W) (hk : k + 2 ≤ 512) (hb : ∀ k, 0 ≤ k → k < 32 → -1 ≤ V 93 k ∧ V 93 k < 4) (hv : ∀ y, 0 ≤ y → y < 32 → V 92 (32 + y) = G 113 (-1 - y)) : ∃ K' V' G' N' k' W', fl149 K V = some ((K', V'), 1) ∧ k' ≤ k + 2 ∧ jSt K' G' N' k' W' ∧ jRl V' G' N' ∧ jRz G' N' ∧ jRb V' := by
  obtain ⟨V', v1, v2⟩ := jfl_3 (K := K) jo_N 0 V (by decide) (by decide) (by decide) hb (fun k k0 k1 => by omega) (fun t t0 t1 => by omega)
  have e149 : fl149 K V = fl149_56 jo_N K V' (-4) 0 := v1
  -- at its end
  have fin : ∀ (m : Nat) (K1 : jc_K) (G1 : jg_G) (N1 k1 : Nat) (W1 : jZW) (l : Int), l < 4 → jSt K1 G1 N1 k1 W1 → jCl G1 N1 → (∀ j, j < 0 → G1 113 j = G 113 j) → k1 ≤ k + 2 → ∃ K' G' N' k' W', fl149_56 (m + 1) K1 V' 0 l = some ((K', V'), 1) ∧ k' ≤ k + 2 ∧ jSt K' G' N' k' W' ∧ jRl V' G' N' ∧ jRz G' N' ∧ jRb V' := fun m K1 G1 N1 k1 W1 l hl h1 hc h113 hk1 => by
    obtain ⟨a1, a2, a3⟩ := jcrashAt h1 (a := 0) (by decide)
    obtain ⟨r1, r2, r3⟩ := hc.R h1 v2 (fun y y0 y1 => by rw [hv y y0 y1, h113 _ (by omega)])
    obtain ⟨s1, s2⟩ := r1.s r2 a3 (fun t t0 t1 => (h1.t ⟨t0, t1⟩).2)
    refine ⟨_, _, N1, k1, W1, ?_, hk1, a2, s1, s2, r3⟩
    unfold fl149_56
    rw [if_neg (by omega), if_neg (by decide), jy_inl a1, jo_bs, if_pos rfl]
  obtain ⟨K1, w1, G1, b1, b2, b3⟩ := jrecover hs (by omega)
  have step : ∀ (m : Nat) (K0 K1 : jc_K) (w l : Int), fc119 K0 = some (K1, .inl w) → 0 ≤ l → l < 4 → fl149_56 (m + 1) K0 V' (-4) l = fl149_56 m K1 V' w (l + 1) := fun m K0 K1 w l h h0 h1 => by
    conv => lhs; unfold fl149_56
    rw [if_neg (by omega), if_pos rfl, jy_inl h, jo_bs]
    dsimp only
    rw [if_pos (by omega)]
  rw [e149, show jo_N = 3997 + 1 + 1 + 1 from rfl, step _ K K1 w1 0 b1 (by decide) (by decide)]
  rcases b3 with ⟨c1, N1, W1, c2, c3⟩ | ⟨c1, c2, c3, W1, c4⟩
  · subst c1
    obtain ⟨K', G', N', k', W', d1, d2⟩ := fin _ K1 G1 N1 (k + 1) W1 (0 + 1) (by decide) c2 c3 b2 (by omega)
    exact ⟨K', V', G', N', k', W', d1, d2⟩
  · subst c1
    obtain ⟨K2, w2, G2, e1, e2, e3⟩ := jrecover c4 (by omega)
    rw [step _ K1 K2 w2 (0 + 1) e1 (by decide) (by decide)]
    rcases e3 with ⟨f1, N2, W2, f2, f3⟩ | ⟨f1, f2, _⟩
    · subst f1
      obtain ⟨K', G', N', k', W', d1, d2⟩ := fin _ K2 G2 N2 (k + 1 + 1) W2 (0 + 1 + 1) (by decide) f2 f3 (fun j hj => (e2 j hj).trans (b2 j hj)) (by omega)
      exact ⟨K', V', G', N', k', W', d1, d2⟩
    · exact absurd c3 f2
