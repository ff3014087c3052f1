/-! CHECK: both answers are one -/
section
variable {G : jg_G} {k : Nat}
/-- only the fault and the leaf's depth differ -/
theorem jBq.p {K K' : jc_K} {L : Int → jlb} {M : Nat} (b : jBq K L M) (h : ∀ n i, ¬ (n = 86 ∧ (i = 10 ∨ i = 9)) → jc_i K' n i = jc_i K n i) : jBq K' L M ∧ jc_i K' 91 = jc_i K 91 ∧ jc_i K' 87 = jc_i K 87 := by
  have e91 : jc_i K' 91 = jc_i K 91 := funext fun i => h 91 i (by omega)
  have e87 : jc_i K' 87 = jc_i K 87 := funext fun i => h 87 i (by omega)
  have e88 : jc_i K' 88 = jc_i K 88 := funext fun i => h 88 i (by omega)
  have e89 : jc_i K' 89 = jc_i K 89 := funext fun i => h 89 i (by omega)
  have e90 : jc_i K' 90 = jc_i K 90 := funext fun i => h 90 i (by omega)
  refine ⟨?_, e91, e87⟩
  unfold jBq
  rw [h 86 8 (by omega), e91, e87, e88, e89, e90]
  exact b
theorem jPp_next {f g : Int → Int} {a : Nat} (hg : ∀ j : Int, j ≤ a → g j = f j) (z : Int) : jPp g ((a + 1 : Nat) : Int) z ↔ jPp f a z ∨ z = f a := by
  unfold jPp
  constructor
  · rintro ⟨j, j0, j1, j2⟩
    by_cases e : j = a
    · rw [e, hg _ (by omega)] at j2; exact Or.inr j2.symm
    · exact Or.inl ⟨j, j0, by omega, by rw [← hg j (by omega)]; exact j2⟩
  · rintro (⟨j, j0, j1, j2⟩ | e)
    · exact ⟨j, j0, by omega, by rw [hg j (by omega)]; exact j2⟩
    · exact ⟨a, by omega, by omega, by rw [hg _ (by omega), e]⟩
theorem jPq_next {f : Int → Int} {a : Nat} {M : Int} (hn : ∀ i, ¬ jed (jsc G) (fr_to G) (f a) i) {q i : Int} (h : jPq G f a M q i) : jPq G f ((a + 1 : Nat) : Int) M q i := by
  obtain ⟨j, j0, j1, j2, j3⟩ := h
  by_cases e : j = a
  · rw [e] at j2; rw [← j2] at j3; exact absurd j3 (hn i)
  · exact ⟨j, by omega, j1, j2, j3⟩
theorem jk_look {K : jc_K} {L : Int → jlb} {ρ : Int → Nat} {pa : Int → Int × Int} {M n D a : Nat} (h : jIn K G k) (bq : jBq K L M) (aM : a < M) (hI : jWi (jsc G) (fr_to G) (jsn (jc_i K 91)) L ρ pa (jPq G (jc_i K 87) a M) n D) (hs : n + jSm G (jc_i K 87) a = jSm G (jc_i K 87) M) (hw : jwI (jc_i K 86 10) (jFd (jsc G) (fr_to G) (jPp (jc_i K 87) a) L D)) (h7 : jc_i K 86 10 = 7 ∨ jc_i K 86 10 ≤ 5) (hv : jlv (jsc G) (fr_to G) (jPp (jc_i K 87) a) L (jc_i K 86 9)) : ∃ K' L' ρ' pa' M' n' D', fc103 K a = some (K', 0) ∧ jk_s jSw K K' ∧ jBq K' L' M' ∧ a < M' ∧ jWi (jsc G) (fr_to G) (jsn (jc_i K' 91)) L' ρ' pa' (jPq G (jc_i K' 87) ((a + 1 : Nat) : Int) M') n' D' ∧ n' + jSm G (jc_i K' 87) (a + 1) = jSm G (jc_i K' 87) M' ∧ jwI (jc_i K' 86 10) (jFd (jsc G) (fr_to G) (jPp (jc_i K' 87) ((a + 1 : Nat) : Int)) L' D') ∧ (jc_i K' 86 10 = 7 ∨ jc_i K' 86 10 ≤ 5) ∧ jlv (jsc G) (fr_to G) (jPp (jc_i K' 87) ((a + 1 : Nat) : Int)) L' (jc_i K' 86 9) := by
  have M24 : M ≤ 24 := by rw [bq.1.2]; exact jcs_24 _
  obtain ⟨hA0, hL0⟩ := bq.2.1 a (by omega) (by omega)
  have hb := hI.2.1 _ hA0
  have hρ := hI.2.2.2.2.2 _ hA0
  have sm : jSm G (jc_i K 87) (a + 1) = jSm G (jc_i K 87) a + jec (jsc G) (fr_to G) (jc_i K 87 a) := rfl
  have hPA : ∀ z, jPp (jc_i K 87) a z → jsn (jc_i K 91) z ≠ 0 := fun z ⟨j, j0, j1, j2⟩ => by
    rw [← j2]; exact (bq.2.1 j j0 (by omega)).1
  have hP1 := jPp_next (f := jc_i K 87) (g := jc_i K 87) (a := a) (fun _ _ => rfl)
  have ec0 : ¬ (fr_to G (jc_i K 87 a) = 0 ∧ (jsc G (jc_i K 87 a)).1 = 2) → jec (jsc G) (fr_to G) (jc_i K 87 a) = 0 := fun z => by
    unfold jec
    rw [if_neg z]
  obtain ⟨rb, ht⟩ := h.see hb
  -- where nothing comes into the queue
  have quiet : ¬ (fr_to G (jc_i K 87 a) = 0 ∧ (jsc G (jc_i K 87 a)).1 = 2) → ∀ K', fc103 K a = some (K', 0) → jk_s jSw K K' → (∀ n i, ¬ (n = 86 ∧ (i = 10 ∨ i = 9)) → jc_i K' n i = jc_i K n i) → jwI (jc_i K' 86 10) (jFd (jsc G) (fr_to G) (jPp (jc_i K 87) ((a + 1 : Nat) : Int)) L D) → (jc_i K' 86 10 = 7 ∨ jc_i K' 86 10 ≤ 5) → jlv (jsc G) (fr_to G) (jPp (jc_i K 87) ((a + 1 : Nat) : Int)) L (jc_i K' 86 9) → ∃ K' L' ρ' pa' M' n' D', fc103 K a = some (K', 0) ∧ jk_s jSw K K' ∧ jBq K' L' M' ∧ a < M' ∧ jWi (jsc G) (fr_to G) (jsn (jc_i K' 91)) L' ρ' pa' (jPq G (jc_i K' 87) ((a + 1 : Nat) : Int) M') n' D' ∧ n' + jSm G (jc_i K' 87) (a + 1) = jSm G (jc_i K' 87) M' ∧ jwI (jc_i K' 86 10) (jFd (jsc G) (fr_to G) (jPp (jc_i K' 87) ((a + 1 : Nat) : Int)) L' D') ∧ (jc_i K' 86 10 = 7 ∨ jc_i K' 86 10 ≤ 5) ∧ jlv (jsc G) (fr_to G) (jPp (jc_i K' 87) ((a + 1 : Nat) : Int)) L' (jc_i K' 86 9) := fun nk K' y1 y2 y3 y4 y5 y6 => by
    obtain ⟨bq', f91, f87⟩ := bq.p y3
    refine ⟨K', L, ρ, pa, M, n, D, y1, y2, bq', aM, ?_, ?_, by rw [f87]; exact y4, y5, by rw [f87]; exact y6⟩
    · rw [f91, f87]
      exact hI.pe (fun q i z => jPq_next (fun i e => nk e.1) z)
    · rw [f87, sm, ec0 nk]
      omega
  by_cases t0 : fr_to G (jc_i K 87 a) = 0
  case neg =>
    have ht := ht.resolve_right (fun z => t0 z.1)
    obtain ⟨K', y1, y2⟩ := jk_101 (K := K) (f := 1)
    have e1 : jmn (jc_i K 86 10) 1 = 1 := by
      have := hw.1
      unfold jmn
      split <;> omega
    refine quiet (fun z => t0 z.1) K' ?_ y2.1 (fun n i z => y2.2.1 n i (by omega)) ?_ ?_ ?_
    · unfold fc103
      rw [if_pos (by omega), ht.1, jo_bs]
      dsimp only
      rw [if_pos rfl, y1, jo_bs]
    · rw [y2.2.2, e1]
      exact jwI.one (jFd.torn hP1 t0)
    · rw [y2.2.2, e1]; exact Or.inr (by decide)
    · rw [y2.2.1 86 9 (by omega)]
      exact hv.none hP1 (Or.inl t0) (fun _ _ => rfl)
  obtain ⟨_, ⟨hr, hw1, hst⟩, q, q1, q2, q3⟩ := ht.resolve_left (fun z => by rw [z.2] at t0; exact absurd t0 (by decide))
  have hq := h.q hb q1 (by omega)
  by_cases k0 : (jsc G (jc_i K 87 a)).1 = 0
  · obtain ⟨K', y1, y2⟩ := jk_101 (K := K) (f := 2)
    refine quiet (fun z => by omega) K' ?_ y2.1 (fun n i z => y2.2.1 n i (by omega)) ?_ ?_ ?_
    · unfold fc103
      rw [if_pos (by omega), q1, jo_bs]
      dsimp only
      rw [if_neg (show ¬ q = 0 by omega), if_pos q3.1, q3.2.1, if_pos k0, y1, jo_bs]
    · rw [y2.2.2]
      exact (hw.ad True (by decide) (fun _ => rfl) (fun z => absurd trivial z)).cg (fun j => jFd.free hP1 t0 k0)
    · rw [y2.2.2]; exact jmn_7 h7 (by decide)
    · rw [y2.2.1 86 9 (by omega)]
      exact hv.none hP1 (Or.inr (by omega)) (fun _ _ => rfl)
  by_cases k1 : (jsc G (jc_i K 87 a)).1 = 1
  · obtain ⟨K', v, w1, w2, y1, y2, y3, y4, y5, y6, y7, y8, y9, y10, y11⟩ := jk_104 (a := (a : Int)) hw1 k1 (by omega) hq q3 rfl rfl rfl rfl
    have rk : jrk (jsc G (jc_i K 87 a)) (jc_i K 89 a, jc_i K 90 a, jc_i K 88 a) ↔ jrk (jsc G (jc_i K 87 a)) (L (jc_i K 87 a)) := by rw [hL0]
    have ed : (L (jc_i K 87 a)).2.2 = jc_i K 88 a := by rw [hL0]
    have b1 := hw.ad (w' := w1) (f := 4) (jc_i K 86 9 ≠ -1 ∧ jc_i K 86 9 ≠ jc_i K 88 a) (by decide) y6 y7
    have b2 := b1.ad (w' := w2) (f := 5) ((jsc G (jc_i K 87 a)).2.1 = 0 ∧ jc_i K 87 a ≠ 0) (by decide) y8 y9
    have b3 := b2.ad (w' := v) (f := 3) (¬ jrk (jsc G (jc_i K 87 a)) (jc_i K 89 a, jc_i K 90 a, jc_i K 88 a)) (by decide) y10 y11
    refine quiet (fun z => by omega) K' ?_ y2 y3 ?_ ?_ ?_
    · unfold fc103
      rw [if_pos (by omega), q1, jo_bs]
      dsimp only
      rw [if_neg (show ¬ q = 0 by omega), if_pos q3.1, q3.2.1, if_neg k0, if_pos k1, y1, jo_bs]
    · rw [y4]
      refine b3.cg (fun j => Iff.trans ?_ (jFd.page hP1 t0 k0 hv))
      rw [ed, rk]
      constructor
      · rintro (((z | z) | z) | z)
        · exact Or.inl (Or.inl (Or.inl z))
        · exact Or.inr ⟨z.1, k1, z.2⟩
        · exact Or.inl (Or.inr ⟨z.1, z.2.1, Or.inl z.2.2⟩)
        · exact Or.inl (Or.inl (Or.inr z))
      · rintro (((z | z) | z) | z)
        · exact Or.inl (Or.inl (Or.inl z))
        · exact Or.inr z
        · exact Or.inl (Or.inr ⟨z.1, z.2.1, z.2.2.resolve_right (by omega)⟩)
        · exact Or.inl (Or.inl (Or.inr ⟨z.1, z.2.2⟩))
    · have c1 : w1 = 7 ∨ w1 ≤ 5 := by
        by_cases z : jc_i K 86 9 ≠ -1 ∧ jc_i K 86 9 ≠ jc_i K 88 a
        · rw [y6 z]; exact jmn_7 h7 (by decide)
        · rw [y7 z]; exact h7
      have c2 : w2 = 7 ∨ w2 ≤ 5 := by
        by_cases z : (jsc G (jc_i K 87 a)).2.1 = 0 ∧ jc_i K 87 a ≠ 0
        · rw [y8 z]; exact jmn_7 c1 (by decide)
        · rw [y9 z]; exact c1
      rw [y4]
      rcases Classical.em (¬ jrk (jsc G (jc_i K 87 a)) (jc_i K 89 a, jc_i K 90 a, jc_i K 88 a)) with z | z
      · rw [y10 z]; exact jmn_7 c2 (by decide)
      · rw [y11 z]; exact c2
    · rw [y5, ← ed]
      exact jlv.leaf hP1 t0 k1 (by rw [hρ.1]; omega)
  -- an inner page
  have k2 : (jsc G (jc_i K 87 a)).1 = 2 := by
    rcases hw1.2 with w | w | w
    · exact absurd w.1 k0
    · exact absurd w.1 k1
    · exact w.1
  have c32 := hw1.1
  have start : ∃ K1, fc103 K a = ((fc105_22 jo_N K1 a q (jc_i K 89 a) 0).bind fun x8 => some (x8.1, 0)) ∧ ∃ v1, jk_o K K1 v1 ∧ ((jsc G (jc_i K 87 a)).2.1 = 0 → v1 = jmn (jc_i K 86 10) 5) ∧ (¬ (jsc G (jc_i K 87 a)).2.1 = 0 → v1 = jc_i K 86 10) := by
    unfold fc103
    rw [if_pos (by omega), q1, jo_bs]
    dsimp only
    rw [if_neg (show ¬ q = 0 by omega), if_pos q3.1, q3.2.1, if_neg k0, if_neg k1]
    unfold fc105
    rw [if_pos q3.1, q3.2.2.1]
    by_cases c0 : (jsc G (jc_i K 87 a)).2.1 = 0
    · obtain ⟨K1, y1, y2⟩ := jk_101 (K := K) (f := 5)
      rw [if_pos c0, y1, jo_bs]
      dsimp only
      rw [if_pos (by omega), y2.2.1 89 a (by omega)]
      exact ⟨K1, rfl, _, y2, fun _ => rfl, fun z => absurd c0 z⟩
    · rw [if_neg c0, if_pos (by omega)]
      exact ⟨K, rfl, _, jk_o.refl K, fun z => absurd z c0, fun _ => rfl⟩
  obtain ⟨K1, s1, v1, s2, s3, s4⟩ := start
  obtain ⟨bq1, f91, f87, f88, f89, f90⟩ := s2.q bq
  have b1 := hw.ad (w' := v1) (f := 5) ((jsc G (jc_i K 87 a)).2.1 = 0) (by decide) s3 s4
  obtain ⟨K', L', ρ', pa', M', n', D', u1, u2, u3, u4, u5, u6, u7, u8, u9, u10, u11⟩ := jk_105l (p0 := jc_i K 87 a) (lo := jc_i K 89 a) (hi := jc_i K 90 a) (dep := jc_i K 88 a) (P := jPp (jc_i K 87) a) (B := (jsc G (jc_i K 87 a)).2.1 = 0) ⟨t0, k2⟩ hw1 hq (by omega) (jsc G (jc_i K 87 a)).2.1.toNat 0 jo_N K1 (jc_i K 89 a) L ρ pa M n D (by omega) (by unfold jo_N; omega) (h.w s2.1 (fun _ _ _ => rfl)) (s2.1.k hq.1 hq.2 q3) bq1 aM (by rw [f87]) ⟨by rw [f89], by rw [f90], by rw [f88]⟩ (fun _ => rfl) (by
    rw [f91, f87]
    refine hI.pe (fun q' i' ⟨j, j0, j1, j2, j3⟩ => ?_)
    by_cases e : j = a
    · rw [e] at j2
      exact Or.inl ⟨j2.symm, j3.2.1, j3⟩
    · exact Or.inr ⟨j, by omega, j1, j2, j3⟩) (by rw [f87]; omega) (fun z hz => by rw [f91]; exact hPA z hz) (by
    rw [s2.2.2]
    refine b1.cg (fun j => ?_)
    unfold jFi
    constructor
    · intro z; exact Or.inl z
    · rintro (z | ⟨_, i', z1, z2, _⟩)
      · exact z
      · have : ((0 : Nat) : Int) = 0 := rfl
        omega) (by
    rw [s2.2.2]
    by_cases z : (jsc G (jc_i K 87 a)).2.1 = 0
    · rw [s3 z]; exact jmn_7 h7 (by decide)
    · rw [s4 z]; exact h7) (by rw [s2.2.1 86 9 (by omega)]; exact hv)
  have g87 : ∀ j : Int, j < M → jc_i K' 87 j = jc_i K 87 j := fun j hj => by rw [u5 j hj, f87]
  have hL' : L' (jc_i K 87 a) = L (jc_i K 87 a) := u11 _ (by rw [f91]; exact hA0)
  have hP2 : ∀ z, jPp (jc_i K' 87) ((a + 1 : Nat) : Int) z ↔ jPp (jc_i K 87) a z ∨ z = jc_i K 87 a := jPp_next (fun j hj => g87 j (by omega))
  refine ⟨K', L', ρ', pa', M', n', D', ?_, s2.1.trans u2, u3, by omega, u6, ?_, ?_, u9, ?_⟩
  · rw [s1]
    have e0 : ((0 : Nat) : Int) = 0 := rfl
    rw [e0] at u1
    rw [u1, jo_bs]
  · have ea : jSm G (jc_i K' 87) (a + 1) = jSm G (jc_i K' 87) a + jec (jsc G) (fr_to G) (jc_i K' 87 a) := rfl
    have ej : jec (jsc G) (fr_to G) (jc_i K 87 a) = (jsc G (jc_i K 87 a)).2.1.toNat := by
      unfold jec
      rw [if_pos ⟨t0, k2⟩]
    rw [ea, g87 a (by omega), ej]
    omega
  · refine u8.cg (fun j => Iff.trans ?_ (jFd.page hP2 t0 k0 u10))
    have rk := jbd_rk (c := jsc G (jc_i K 87 a)) (lo := jc_i K 89 a) (hi := jc_i K 90 a) (d := jc_i K 88 a) k2 hst
    rw [hL', hL0, ← rk]
    unfold jFi
    constructor
    · rintro ((z | z) | z)
      · exact Or.inl (Or.inl (Or.inl z))
      · exact Or.inl (Or.inr ⟨z.1, z.2, Or.inr k2⟩)
      · exact Or.inl (Or.inl (Or.inr z))
    · rintro (((z | z) | z) | z)
      · exact Or.inl (Or.inl z)
      · exact Or.inr z
      · exact Or.inl (Or.inr ⟨z.1, z.2.1⟩)
      · exact absurd z.2.1 k1
  · exact u10.none hP2 (Or.inr k1) (fun _ _ => rfl)
/-- the pages that were not come to -/
theorem jk_75 : ∀ (m : Nat) (l : Int) (K : jc_K), jIn K G k → 0 ≤ l → l ≤ 24 → 24 < l + m → ∃ K' w', (((∃ p, l ≤ p ∧ p < 24 ∧ jsn (jc_i K 91) p = 0 ∧ fr_to G p = 0 ∧ (jsc G p).1 ≠ 0) ∧ w' = jmn (jc_i K 86 10) 6) ∨ ((¬ ∃ p, l ≤ p ∧ p < 24 ∧ jsn (jc_i K 91) p = 0 ∧ fr_to G p = 0 ∧ (jsc G p).1 ≠ 0) ∧ w' = jc_i K 86 10)) ∧ fc100_75 m K l = some (K', if w' = 7 then 0 else w') ∧ jk_s jSw K K' := by
  intro m
  induction m with
  | zero => intro l K h h0 h1 h2; omega
  | succ m ih =>
    intro l K h h0 h1 h2
    unfold fc100_75
    by_cases e : 24 ≤ l
    · refine ⟨K, jc_i K 86 10, Or.inr ⟨fun ⟨p, p0, p1, _⟩ => by omega, rfl⟩, ?_, jk_s.refl⟩
      rw [if_pos e]
      by_cases z : jc_i K 86 10 = 7
      · rw [if_pos z, if_pos z]
      · rw [if_neg z, if_neg z]
    · rw [if_neg e]
      have hl : 0 ≤ l ∧ l < 24 := ⟨h0, by omega⟩
      have good : ¬ (jsn (jc_i K 91) l = 0 ∧ fr_to G l = 0 ∧ (jsc G l).1 ≠ 0) → ∃ K' w', (((∃ p, l ≤ p ∧ p < 24 ∧ jsn (jc_i K 91) p = 0 ∧ fr_to G p = 0 ∧ (jsc G p).1 ≠ 0) ∧ w' = jmn (jc_i K 86 10) 6) ∨ ((¬ ∃ p, l ≤ p ∧ p < 24 ∧ jsn (jc_i K 91) p = 0 ∧ fr_to G p = 0 ∧ (jsc G p).1 ≠ 0) ∧ w' = jc_i K 86 10)) ∧ fc100_75 m K (l + 1) = some (K', if w' = 7 then 0 else w') ∧ jk_s jSw K K' := fun hg => by
        obtain ⟨K', w', y1, y2, y3⟩ := ih (l + 1) K h (by omega) (by omega) (by omega)
        refine ⟨K', w', ?_, y2, y3⟩
        rcases y1 with ⟨⟨p, p0, p1, p2⟩, y⟩ | ⟨y0, y⟩
        · exact Or.inl ⟨⟨p, by omega, p1, p2⟩, y⟩
        · refine Or.inr ⟨fun ⟨p, p0, p1, p2⟩ => ?_, y⟩
          by_cases z : p = l
          · rw [z] at p2; exact hg p2
          · exact y0 ⟨p, by omega, p1, p2⟩
      obtain ⟨rb, ht⟩ := h.see hl
      by_cases t0 : fr_to G l = 0
      · obtain ⟨_, ⟨hr, hw, hs⟩, q, q1, q2, q3⟩ := ht.resolve_left (fun z => by rw [z.2] at t0; exact absurd t0 (by decide))
        have e4 : fc4 K l = some (K, (jsc G l).1) := by
          unfold fc4
          rw [q1, jo_bs]
          dsimp only
          rw [if_neg (show ¬ q = 0 by omega), if_pos q3.1, q3.2.1]
        rw [e4, jo_bs]
        dsimp only
        rw [if_pos hl]
        by_cases s0 : jc_i K 91 l = 0
        · rw [if_pos s0, if_neg (show ¬ (jsc G l).1 = -1 by rcases hw.2 with w | w | w <;> (have := w.1; omega))]
          by_cases k0 : (jsc G l).1 = 0
          · rw [if_pos k0, if_pos (by omega)]
            exact good (fun z => z.2.2 k0)
          · obtain ⟨K1, y1, y2⟩ := jk_101 (K := K) (f := 6)
            rw [if_neg k0, y1, jo_bs]
            dsimp only
            rw [if_pos (by omega)]
            have f91 : jc_i K1 91 = jc_i K 91 := funext fun i => y2.2.1 91 i (by omega)
            obtain ⟨K', w', z1, z2, z3⟩ := ih (l + 1) K1 (h.w y2.1 (fun _ _ _ => rfl)) (by omega) (by omega) (by omega)
            rw [y2.2.2, f91] at z1
            refine ⟨K', w', Or.inl ⟨⟨l, Int.le_refl _, by omega, (jsn_0 hl).2 s0, t0, k0⟩, ?_⟩, z2, y2.1.trans z3⟩
            rcases z1 with ⟨_, y⟩ | ⟨_, y⟩
            · rw [y, jmn_6]
            · exact y
        · rw [if_neg s0, if_pos (by omega)]
          exact good (fun z => s0 ((jsn_0 hl).1 z.1))
      · have ht := ht.resolve_right (fun z => t0 z.1)
        have e4 : fc4 K l = some (K, -1) := by
          unfold fc4
          rw [ht.1, jo_bs]
          dsimp only
          rw [if_pos rfl]
        rw [e4, jo_bs]
        dsimp only
        rw [if_pos hl]
        by_cases s0 : jc_i K 91 l = 0
        · rw [if_pos s0, if_pos rfl, if_pos (by omega)]
          exact good (fun z => t0 z.2.1)
        · rw [if_neg s0, if_pos (by omega)]
          exact good (fun z => t0 z.2.1)
theorem jk_48 : ∀ (r a m : Nat) (K : jc_K) (L : Int → jlb) (ρ : Int → Nat) (pa : Int → Int × Int) (M n D : Nat), a + r = 24 → r < m → a ≤ M → jIn K G k → jBq K L M → jWi (jsc G) (fr_to G) (jsn (jc_i K 91)) L ρ pa (jPq G (jc_i K 87) a M) n D → n + jSm G (jc_i K 87) a = jSm G (jc_i K 87) M → jwI (jc_i K 86 10) (jFd (jsc G) (fr_to G) (jPp (jc_i K 87) a) L D) → (jc_i K 86 10 = 7 ∨ jc_i K 86 10 ≤ 5) → jlv (jsc G) (fr_to G) (jPp (jc_i K 87) a) L (jc_i K 86 9) → ∃ K' L' ρ' pa' D', fc100_48 m K a = fc100_75 jo_N K' 0 ∧ jk_s jSw K K' ∧ jWi (jsc G) (fr_to G) (jsn (jc_i K' 91)) L' ρ' pa' (fun _ _ => False) 0 D' ∧ jwI (jc_i K' 86 10) (jFd (jsc G) (fr_to G) (fun z => jsn (jc_i K' 91) z ≠ 0) L' D') ∧ (jc_i K' 86 10 = 7 ∨ jc_i K' 86 10 ≤ 5) := by
  intro r
  induction r with
  | zero =>
    intro a m K L ρ pa M n D e1 e2 aM h bq hI hs hw h7 hv
    cases m with
    | zero => omega
    | succ m =>
      have M24 : M ≤ 24 := by rw [bq.1.2]; exact jcs_24 _
      have eM : a = M := by omega
      subst eM
      have n0 : n = 0 := by omega
      subst n0
      refine ⟨K, L, ρ, pa, D, ?_, jk_s.refl, hI.pe (fun q i ⟨j, j0, j1, _⟩ => by omega), ?_, h7⟩
      · unfold fc100_48
        rw [bq.1.1, if_pos (by omega)]
      · have eP : jPp (jc_i K 87) a = fun z => jsn (jc_i K 91) z ≠ 0 := funext fun z => propext ⟨fun ⟨j, j0, j1, j2⟩ => by rw [← j2]; exact (bq.2.1 j j0 j1).1, fun y => bq.2.2 z y⟩
        rw [← eP]
        exact hw
  | succ r ih =>
    intro a m K L ρ pa M n D e1 e2 aM h bq hI hs hw h7 hv
    cases m with
    | zero => omega
    | succ m =>
      by_cases eM : a = M
      · subst eM
        have n0 : n = 0 := by omega
        subst n0
        refine ⟨K, L, ρ, pa, D, ?_, jk_s.refl, hI.pe (fun q i ⟨j, j0, j1, _⟩ => by omega), ?_, h7⟩
        · unfold fc100_48
          rw [bq.1.1, if_pos (by omega)]
        · have eP : jPp (jc_i K 87) a = fun z => jsn (jc_i K 91) z ≠ 0 := funext fun z => propext ⟨fun ⟨j, j0, j1, j2⟩ => by rw [← j2]; exact (bq.2.1 j j0 j1).1, fun y => bq.2.2 z y⟩
          rw [← eP]
          exact hw
      · obtain ⟨K1, L1, ρ1, pa1, M1, n1, D1, y1, y2, y3, y4, y5, y6, y7, y8, y9⟩ := jk_look h bq (by omega) hI hs hw h7 hv
        obtain ⟨K', L', ρ', pa', D', z1, z2, z3⟩ := ih (a + 1) m K1 L1 ρ1 pa1 M1 n1 D1 (by omega) (by omega) (by omega) (h.w y2 (fun _ _ _ => rfl)) y3 y5 y6 y7 y8 y9
        refine ⟨K', L', ρ', pa', D', ?_, y2.trans z2, z3⟩
        unfold fc100_48
        rw [bq.1.1, if_neg (by omega), if_neg (by omega), y1, jo_bs, if_pos (by omega)]
        rw [← z1, show ((a + 1 : Nat) : Int) = (a : Int) + 1 by omega]
/-- the class's answer -/
theorem jk_100 : ∀ (m : Nat) (l : Int) (K : jc_K), jIn K G k → 0 ≤ l → l ≤ 24 → 24 < l + m → (∀ p, 0 ≤ p → p < l → jc_i K 91 p = 0) → ∃ K' A w w' L ρ pa D, fc100_2 m K l = some (K', if w' = 7 then 0 else w') ∧ jk_s jSw K K' ∧ jWi (jsc G) (fr_to G) A L ρ pa (fun _ _ => False) 0 D ∧ jwI w (jFd (jsc G) (fr_to G) (fun z => A z ≠ 0) L D) ∧ (w = 7 ∨ w ≤ 5) ∧ (((∃ p, 0 ≤ p ∧ p < 24 ∧ A p = 0 ∧ fr_to G p = 0 ∧ (jsc G p).1 ≠ 0) ∧ w' = jmn w 6) ∨ ((¬ ∃ p, 0 ≤ p ∧ p < 24 ∧ A p = 0 ∧ fr_to G p = 0 ∧ (jsc G p).1 ≠ 0) ∧ w' = w)) := by
  intro m
  induction m with
  | zero => intro l K h h0 h1 h2; omega
  | succ m ih =>
    intro l K h h0 h1 h2 hz
    have u : ∀ (K : jc_K) (n : Nat) (i v : Int), 86 ≤ n → n < 92 → jk_s jSw K (jc_ui K n i v) := fun K n i v a b => jk_s.u (Or.inr ⟨a, b⟩)
    unfold fc100_2
    by_cases e : 24 ≤ l
    · rw [if_pos e]
      have s0 : jk_s jSw K (jc_ui (jc_ui (jc_ui K 86 8 0) 86 9 (-1)) 86 10 7) := ((u _ 86 _ _ (by decide) (by decide)).trans (u _ 86 _ _ (by decide) (by decide))).trans (u _ 86 _ _ (by decide) (by decide))
      have v8 : jc_i (jc_ui (jc_ui (jc_ui K 86 8 0) 86 9 (-1)) 86 10 7) 86 8 = ((0 : Nat) : Int) := by rw [jc_uI (by decide), jc_uI (by decide)]; exact jc_uH
      have v9 : jc_i (jc_ui (jc_ui (jc_ui K 86 8 0) 86 9 (-1)) 86 10 7) 86 9 = -1 := by rw [jc_uI (by decide)]; exact jc_uH
      have v10 : jc_i (jc_ui (jc_ui (jc_ui K 86 8 0) 86 9 (-1)) 86 10 7) 86 10 = 7 := jc_uH
      have v91 : ∀ p, 0 ≤ p → p < 24 → jc_i (jc_ui (jc_ui (jc_ui K 86 8 0) 86 9 (-1)) 86 10 7) 91 p = 0 := fun p p0 p1 => by
        rw [jc_uN (by decide), jc_uN (by decide), jc_uN (by decide)]
        exact hz p p0 (by omega)
      generalize jc_ui (jc_ui (jc_ui K 86 8 0) 86 9 (-1)) 86 10 7 = K0 at s0 v8 v9 v10 v91
      have A0 : ∀ z, jsn (jc_i K0 91) z = 0 := fun z => by
        by_cases y : 0 ≤ z ∧ z < 24
        · rw [jsn_0 y]; exact v91 z y.1 y.2
        · unfold jsn
          rw [if_neg y]
      have c0 : jcs' (jsn (jc_i K0 91)) = 0 := by
        have : jsn (jc_i K0 91) = fun _ => 0 := funext A0
        rw [this]
        unfold jcs'
        decide
      have bq0 : jBq K0 (fun _ => (0, 0, 0)) 0 := ⟨⟨v8, c0.symm⟩, fun j j0 j1 => by omega, fun p hp => absurd (A0 p) hp⟩
      obtain ⟨K1, z1, z2, ⟨z3, z3'⟩, ⟨z4, z4'⟩, z5, z6, z7⟩ := jk_meet1 (p := 0) (a := 0) (b := 32) (d := 0) bq0 (by decide) (A0 0)
      rw [z1, jo_bs]
      have A1 : ∀ z, z ≠ 0 → jsn (jc_i K1 91) z = 0 := fun z hz => by rw [z4' z hz]; exact A0 z
      have z6' : jc_i K1 87 0 = 0 := z6
      have rt : jWi (jsc G) (fr_to G) (jsn (jc_i K1 91)) (jup (fun _ => (0, 0, 0)) 0 (0, 32, 0)) (fun _ => 0) (fun _ => (0, 0)) (jPq G (jc_i K1 87) ((0 : Nat) : Int) ((1 : Nat) : Int)) (jec (jsc G) (fr_to G) 0) 0 := jWi.root z4 A1 jupH (fun i z => ⟨0, by omega, by omega, z6', z⟩)
      have w0 : jwI (jc_i K1 86 10) (jFd (jsc G) (fr_to G) (jPp (jc_i K1 87) ((0 : Nat) : Int)) (jup (fun _ => (0, 0, 0)) 0 (0, 32, 0)) 0) := by
        rw [z3, v10]
        have np : ∀ z, ¬ jPp (jc_i K1 87) ((0 : Nat) : Int) z := fun z ⟨j, j0, j1, _⟩ => by omega
        refine ⟨by decide, fun i i0 i1 => ⟨fun z => by omega, fun ⟨j, j0, j1, j2⟩ => ?_⟩⟩
        rcases j2 with ⟨_, p, z, _⟩ | ⟨_, z | ⟨p, z, _⟩⟩ | ⟨_, p, z, _⟩ | ⟨_, p, p', z, _⟩ | ⟨_, p, z, _⟩
        · exact absurd z (np _)
        · exact absurd rfl z
        · exact absurd z (np _)
        · exact absurd z (np _)
        · exact absurd z (np _)
        · exact absurd z (np _)
      have h0' : jIn K0 G k := h.w s0 (fun _ _ _ => rfl)
      have h1' : jIn K1 G k := h0'.w z2 (fun _ _ _ => rfl)
      obtain ⟨K2, L2, ρ2, pa2, D2, c1, c2, c3, c4, c5⟩ := jk_48 24 0 jo_N K1 _ _ _ 1 (jec (jsc G) (fr_to G) 0) 0 (by decide) (by decide) (by decide) h1' z7 rt (by
        show jec (jsc G) (fr_to G) 0 + 0 = 0 + jec (jsc G) (fr_to G) (jc_i K1 87 ((0 : Nat) : Int))
        rw [show ((0 : Nat) : Int) = 0 from rfl, z6']
        omega) w0 (by rw [z3, v10]; exact Or.inl rfl) (by
        rw [z3', v9]
        exact ⟨fun _ p ⟨j, j0, j1, _⟩ => by omega, fun z => absurd rfl z⟩)
      obtain ⟨K3, w', d1, d2, d3⟩ := jk_75 jo_N 0 K2 (h1'.w c2 (fun _ _ _ => rfl)) (by decide) (by decide) (by decide)
      refine ⟨K3, jsn (jc_i K2 91), jc_i K2 86 10, w', L2, ρ2, pa2, D2, ?_, ((s0.trans z2).trans c2).trans d3, c3, c4, c5, d1⟩
      have c1 : fc100_48 jo_N K1 0 = fc100_75 jo_N K2 0 := c1
      rw [← d2, ← c1]
    · rw [if_neg e, if_pos (by omega), if_pos (by omega)]
      obtain ⟨K', A, w, w', L, ρ, pa, D, y1, y2, y3⟩ := ih (l + 1) (jc_ui K 91 l 0) (h.w (u _ 91 _ _ (by decide) (by decide)) (fun _ _ _ => rfl)) (by omega) (by omega) (by omega) (fun p p0 p1 => by
        by_cases z : p = l
        · rw [z, jc_uH]
        · rw [jc_uI z]; exact hz p p0 (by omega))
      exact ⟨K', A, w, w', L, ρ, pa, D, y1, (u _ 91 _ _ (by decide) (by decide)).trans y2, y3⟩
end
