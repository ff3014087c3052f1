/-! THE START: its ints; what holds at it -/
def js_e (n : Nat) (i : Nat) : Int := if n = 61 ∨ n = 62 ∨ n = 68 ∨ n = 95 ∨ n = 110 ∨ n = 111 then -1 else if (n = 3 ∧ i = 4) then -1 else if (n = 9 ∧ i = 0) ∨ (n = 93 ∧ (i = 268 ∨ i = 335)) then 1 else 0
def js_c (n l : Nat) : Bool := (List.range l).all fun i => decide (jb_i jb_h4 n i = js_e n i)
theorem jb_s6 : ((List.range 1100).all fun i => decide (ib_P jb_h4 64 i = 0)) = true := by decide +kernel
theorem jb_s9 : ((List.range 16).all fun i => decide (jb_i jb_h4 94 i = 0)) = true := by decide +kernel
theorem js_c.is {n l : Nat} (h : js_c n l = true) {i : Nat} (hi : i < l) : jb_i jb_h4 n i = js_e n i := by
  unfold js_c at h
  rw [List.all_eq_true] at h
  exact of_decide_eq_true (h i (List.mem_range.mpr hi))
def js_l (n : Nat) : Nat := if n = 2 then 9 else if n = 58 ∨ n = 59 ∨ n = 60 ∨ n = 61 ∨ n = 68 ∨ n = 69 ∨ n = 70 ∨ n = 85 then 4 else if n = 62 then 32 else if n = 63 then 5 else if n = 66 then 6 else if n = 3 then 11 else if n = 5 ∨ n = 6 then 24 else if 9 ≤ n ∧ n < 57 ∧ n % 2 = 1 then 3 else if n = 92 then 30 else if n = 94 then 54 else if n = 95 ∨ n = 96 ∨ n = 97 ∨ n = 107 ∨ n = 108 ∨ n = 109 ∨ n = 110 then 4 else if n = 111 then 32 else if n = 93 then 3618 else 0
theorem jb_s7 : ((List.range 92).all fun n => js_c n (js_l n)) = true := by decide +kernel
theorem jb_s7c {n : Nat} (h : n < 92) : js_c n (js_l n) = true := by
  have := jb_s7
  rw [List.all_eq_true] at this
  exact this n (List.mem_range.mpr h)
theorem js_e0 {n i : Nat} (h : n ≠ 61 ∧ n ≠ 62 ∧ n ≠ 68 ∧ n ≠ 95 ∧ n ≠ 110 ∧ n ≠ 111 ∧ n ≠ 3 ∧ n ≠ 9 ∧ n ≠ 93) : js_e n i = 0 := by
  unfold js_e
  rw [if_neg (by omega), if_neg (by omega), if_neg (by omega)]
theorem js_e1 {n i : Nat} (h : n = 61 ∨ n = 62 ∨ n = 68 ∨ n = 95 ∨ n = 110 ∨ n = 111) : js_e n i = -1 := by
  unfold js_e
  rw [if_pos h]
theorem jh_0w (p : Int) : jp_w (jh_0 p) := by
  refine ⟨⟨Int.le_refl 0, show (0 : Int) ≤ 32 by decide⟩, ?_⟩
  by_cases e : p = 0
  · exact Or.inr (Or.inl ⟨if_pos e, fun i i0 i1 => absurd (Int.lt_of_le_of_lt i0 i1) (Int.lt_irrefl _), fun i i0 i1 => by have i1 : i + 1 < 0 := i1; omega⟩)
  · exact Or.inl ⟨if_neg e, rfl⟩
theorem jT_z0 (G : jg_G) : jT_z (fun z => jh G 0 z) := by
  refine ⟨fun p p0 p1 h => absurd (if_neg (by omega)) h, fun h => ?_⟩
  have h : (1 : Int) = 2 := h
  omega
theorem jTs_0 (G : jg_G) : jTs (fun z => jh G 0 z) (fun _ => 0) (fun _ => 0) (fun _ => 0) := by
  have nt : ∀ q i, ¬ jT_i (fun z => jh G 0 z) q i := fun q i h => by
    have a : i < 0 := h.2.2.2
    have := h.2.2.1
    omega
  refine ⟨⟨fun p _ _ => jh_0w p, by show ¬ (1 : Int) = 0; decide, fun q i h => absurd h (nt q i), fun q i q' i' h => absurd h (nt q i), fun p p0 p1 h => absurd (if_neg (by omega)) h, fun p i p0 p1 h i0 i1 => ?_⟩, fun p i p0 p1 h i0 i1 => ?_, fun p i p0 p1 h i0 i1 => ?_⟩
  · have i1 : i < 0 := i1
    omega
  · have i1 : i < 0 := i1
    omega
  · have i1 : i + 1 < 0 := i1
    omega
theorem jw_sum0 {K : jc_K} : ∀ n : Nat, (∀ i : Nat, i < n → jc_p K 64 i = 0) → jw_sum K n = 11 * n
  | 0, _ => rfl
  | n + 1, h => by
    unfold jw_sum
    rw [jw_sum0 n (fun i hi => h i (by omega))]
    unfold jw_p
    rw [if_pos (h n (by omega))]
    omega
theorem jSt_s {K : jc_K} {G : jg_G} (hK : ∀ (n : Nat) (i : Int), 2 ≤ n → n < 92 → 0 ≤ i → i < js_l n → jc_i K n i = js_e n i.toNat) (hG : ∀ (n : Nat) (i : Int), 92 ≤ n → n < 119 → 0 ≤ i → i < js_l n → G n i = js_e n i.toNat) (h113 : ∀ j, 0 ≤ j → j < 4 → G 113 j = 0) (h113n : ∀ j, j < 0 → G 113 j = -1) (h64 : ∀ i : Int, 0 ≤ i → i < 1100 → jc_p K 64 i = 0) (h7 : jc_pg K 7) (hd : ∀ p : Int, 0 ≤ p → p < 24 → jc_pg K (9 + 2 * p.toNat)) (hf : ∀ f : Int, 0 ≤ f → f < 4 → jc_pg K (71 + 2 * f.toNat)) (h1 : K.1.1 = 98 ∧ K.1.2.1 ≤ 98 ∧ K.1.2.2 ≤ 324816) : jSt K G 0 0 (0, 0, fun j => G 113 j) := by
  have kz : ∀ (n l : Nat) (i : Int), js_l n = l → 2 ≤ n → n < 92 → (n ≠ 61 ∧ n ≠ 62 ∧ n ≠ 68 ∧ n ≠ 95 ∧ n ≠ 110 ∧ n ≠ 111 ∧ n ≠ 3 ∧ n ≠ 9 ∧ n ≠ 93) → 0 ≤ i → i < l → jc_i K n i = 0 := fun n l i e n0 n1 c i0 i1 => (hK n i n0 n1 i0 (by rw [e]; exact i1)).trans (js_e0 c)
  have gz : ∀ (n l : Nat) (i : Int), js_l n = l → 92 ≤ n → n < 119 → (n ≠ 61 ∧ n ≠ 62 ∧ n ≠ 68 ∧ n ≠ 95 ∧ n ≠ 110 ∧ n ≠ 111 ∧ n ≠ 3 ∧ n ≠ 9 ∧ n ≠ 93) → 0 ≤ i → i < l → G n i = 0 := fun n l i e n0 n1 c i0 i1 => (hG n i n0 n1 i0 (by rw [e]; exact i1)).trans (js_e0 c)
  have km : ∀ (n l : Nat) (i : Int), js_l n = l → 2 ≤ n → n < 92 → (n = 61 ∨ n = 62 ∨ n = 68 ∨ n = 95 ∨ n = 110 ∨ n = 111) → 0 ≤ i → i < l → jc_i K n i = -1 := fun n l i e n0 n1 c i0 i1 => (hK n i n0 n1 i0 (by rw [e]; exact i1)).trans (js_e1 c)
  have gm : ∀ (n l : Nat) (i : Int), js_l n = l → 92 ≤ n → n < 119 → (n = 61 ∨ n = 62 ∨ n = 68 ∨ n = 95 ∨ n = 110 ∨ n = 111) → 0 ≤ i → i < l → G n i = -1 := fun n l i e n0 n1 c i0 i1 => (hG n i n0 n1 i0 (by rw [e]; exact i1)).trans (js_e1 c)
  have k3 : ∀ i : Int, 5 ≤ i → i < 11 → jc_i K 3 i = 0 := fun i i0 i1 => by
    rw [hK 3 i (by decide) (by decide) (by omega) (by have : js_l 3 = 11 := rfl; omega)]
    unfold js_e
    rw [if_neg (by decide), if_neg (by omega), if_neg (by omega)]
  have k34 : jc_i K 3 4 = -1 := (hK 3 4 (by decide) (by decide) (by decide) (by decide)).trans rfl
  have g93 : ∀ i : Int, 0 ≤ i → i < 3618 → G 93 i = if i = 268 ∨ i = 335 then 1 else 0 := fun i i0 i1 => by
    rw [hG 93 i (by decide) (by decide) i0 (by have : js_l 93 = 3618 := rfl; omega)]
    unfold js_e
    rw [if_neg (by decide), if_neg (by omega)]
    by_cases e : i = 268 ∨ i = 335
    · rw [if_pos e, if_pos (by omega)]
    · rw [if_neg e, if_neg (by omega)]
  have g92 : ∀ i : Int, 0 ≤ i → i < 30 → G 92 i = 0 := fun i i0 i1 => gz 92 30 i rfl (by decide) (by decide) (by decide) i0 i1
  have g94 : ∀ i : Int, 0 ≤ i → i < 54 → G 94 i = 0 := fun i i0 i1 => gz 94 54 i rfl (by decide) (by decide) (by decide) i0 i1
  have g95 : ∀ f : Int, 0 ≤ f → f < 4 → G 95 f = -1 := fun i i0 i1 => gm 95 4 i rfl (by decide) (by decide) (by decide) i0 i1
  have g96 : ∀ f : Int, 0 ≤ f → f < 4 → G 96 f = 0 := fun i i0 i1 => gz 96 4 i rfl (by decide) (by decide) (by decide) i0 i1
  have g97 : ∀ f : Int, 0 ≤ f → f < 4 → G 97 f = 0 := fun i i0 i1 => gz 97 4 i rfl (by decide) (by decide) (by decide) i0 i1
  have g107 : ∀ f : Int, 0 ≤ f → f < 4 → G 107 f = 0 := fun i i0 i1 => gz 107 4 i rfl (by decide) (by decide) (by decide) i0 i1
  have g108 : ∀ f : Int, 0 ≤ f → f < 4 → G 108 f = 0 := fun i i0 i1 => gz 108 4 i rfl (by decide) (by decide) (by decide) i0 i1
  have g109 : ∀ f : Int, 0 ≤ f → f < 4 → G 109 f = 0 := fun i i0 i1 => gz 109 4 i rfl (by decide) (by decide) (by decide) i0 i1
  have g110 : ∀ f : Int, 0 ≤ f → f < 4 → G 110 f = -1 := fun i i0 i1 => gm 110 4 i rfl (by decide) (by decide) (by decide) i0 i1
  have g111 : ∀ f : Int, 0 ≤ f → f < 32 → G 111 f = -1 := fun i i0 i1 => gm 111 32 i rfl (by decide) (by decide) (by decide) i0 i1
  have k58 : ∀ f : Int, 0 ≤ f → f < 4 → jc_i K 58 f = 0 := fun i i0 i1 => kz 58 4 i rfl (by decide) (by decide) (by decide) i0 i1
  have k59 : ∀ f : Int, 0 ≤ f → f < 4 → jc_i K 59 f = 0 := fun i i0 i1 => kz 59 4 i rfl (by decide) (by decide) (by decide) i0 i1
  have k60 : ∀ f : Int, 0 ≤ f → f < 4 → jc_i K 60 f = 0 := fun i i0 i1 => kz 60 4 i rfl (by decide) (by decide) (by decide) i0 i1
  have k61 : ∀ f : Int, 0 ≤ f → f < 4 → jc_i K 61 f = -1 := fun i i0 i1 => km 61 4 i rfl (by decide) (by decide) (by decide) i0 i1
  have k62 : ∀ f : Int, 0 ≤ f → f < 32 → jc_i K 62 f = -1 := fun i i0 i1 => km 62 32 i rfl (by decide) (by decide) (by decide) i0 i1
  have k68 : ∀ f : Int, 0 ≤ f → f < 4 → jc_i K 68 f = -1 := fun i i0 i1 => km 68 4 i rfl (by decide) (by decide) (by decide) i0 i1
  have k69 : ∀ f : Int, 0 ≤ f → f < 4 → jc_i K 69 f = 0 := fun i i0 i1 => kz 69 4 i rfl (by decide) (by decide) (by decide) i0 i1
  have k70 : ∀ f : Int, 0 ≤ f → f < 4 → jc_i K 70 f = 0 := fun i i0 i1 => kz 70 4 i rfl (by decide) (by decide) (by decide) i0 i1
  have k85 : ∀ f : Int, 0 ≤ f → f < 4 → jc_i K 85 f = 0 := fun i i0 i1 => kz 85 4 i rfl (by decide) (by decide) (by decide) i0 i1
  have k63 : jc_i K 63 4 = 0 := kz 63 5 4 rfl (by decide) (by decide) (by decide) (by decide) (by decide)
  have k66 : jc_i K 66 5 = 0 := kz 66 6 5 rfl (by decide) (by decide) (by decide) (by decide) (by decide)
  have k28 : jc_i K 2 8 = 0 := kz 2 9 8 rfl (by decide) (by decide) (by decide) (by decide) (by decide)
  have jr : ∀ r p : Int, 0 ≤ p → p < 24 → (r = 4 + 2 * p ∨ r = 5 + 2 * p) → jd_h G (G 92 13) r p := fun r p p0 p1 hr => by
    refine ⟨0, ?_, by rw [g92 13 (by decide) (by decide)]; decide, rfl, jh_0w p, ?_, ?_, fun i i0 i1 => ?_⟩
    · rw [g93 _ (by omega) (by omega), if_neg (by omega)]; rfl
    · rw [g93 _ (by omega) (by omega)]
      show _ = if p = 0 then (1 : Int) else 0
      by_cases e : p = 0
      · rw [if_pos e, if_pos (by omega)]
      · rw [if_neg e, if_neg (by omega)]
    · rw [g93 _ (by omega) (by omega), if_neg (by omega)]; rfl
    · have i1 : i < 0 := i1
      omega
  have jdk : ∀ p : Int, 0 ≤ p → p < 24 → jd_k K (9 + 2 * p.toNat) G (5 + 2 * p) p := fun p p0 p1 => by
    have e0 : G 93 (67 * (5 + 2 * p) + 1) = 0 := by rw [g93 _ (by omega) (by omega), if_neg (by omega)]
    have l3 : js_l (9 + 2 * p.toNat) = 3 := by
      unfold js_l
      rw [if_neg (by omega), if_neg (by omega), if_neg (by omega), if_neg (by omega), if_neg (by omega), if_neg (by omega), if_neg (by omega), if_pos (by omega)]
    have q : ∀ i : Int, 0 ≤ i → i < 3 → jc_i K (9 + 2 * p.toNat) i = if p = 0 ∧ i = 0 then 1 else 0 := fun i i0 i1 => by
      rw [hK _ i (by omega) (by omega) i0 (by rw [l3]; exact i1)]
      unfold js_e
      rw [if_neg (by omega), if_neg (by omega)]
      by_cases e : p = 0 ∧ i = 0
      · rw [if_pos e, if_pos (Or.inl (by omega))]
      · rw [if_neg e, if_neg (by omega)]
    unfold jd_k
    rw [e0]
    refine ⟨by rw [q 1 (by decide) (by decide), if_neg (by omega)], hd p p0 p1, ?_, ?_, fun i i0 i1 => ?_⟩
    · rw [q 0 (by decide) (by decide)]
      show _ = if p = 0 then (1 : Int) else 0
      by_cases e : p = 0
      · rw [if_pos e, if_pos ⟨e, rfl⟩]
      · rw [if_neg e, if_neg (fun z => e z.1)]
    · rw [q 2 (by decide) (by decide), if_neg (by omega)]; rfl
    · have i1 : i < 0 := i1
      omega
  have hjN : jN K G (fun p => jv G p 0) 0 := by
    refine ⟨⟨⟨⟨?_, ?_, ?_, ?_, ?_, h7⟩, fun i i0 i1 => ?_, fun p p0 p1 => ⟨⟨?_, ?_⟩, ⟨jr _ p p0 p1 (Or.inl rfl), jr _ p p0 p1 (Or.inr rfl)⟩, jdk p p0 p1, fun _ => ?_, fun h => ?_⟩⟩, ⟨⟨?_, ?_, ?_⟩, ?_, ?_, ?_⟩, fun p p0 p1 => ?_⟩, ⟨g92 7 (by decide) (by decide), ?_, g92 12 (by decide) (by decide), by decide, ?_⟩, ⟨⟨?_, ?_⟩, fun f f0 f1 => ⟨⟨?_, ?_, ?_⟩, Or.inl (g96 f f0 f1), ?_, hf f f0 f1⟩, fun f f' f0 f1 f2 f3 h _ => ?_⟩, fun f f0 f1 h => ?_, fun f f0 f1 _ => g97 f f0 f1, fun p p0 p1 _ => ?_⟩
    · rw [k3 7 (by decide) (by decide), g92 3 (by decide) (by decide)]
    · rw [k3 5 (by decide) (by decide), g94 52 (by decide) (by decide)]
    · rw [k3 6 (by decide) (by decide), g94 53 (by decide) (by decide)]
    · rw [k34]; decide
    · rw [g92 4 (by decide) (by decide)]; decide
    · rw [g94 i i0 i1, g92 3 (by decide) (by decide)]; decide
    · rw [kz 5 24 p rfl (by decide) (by decide) (by decide) p0 p1, g94 _ (by omega) (by omega)]
    · rw [kz 6 24 p rfl (by decide) (by decide) (by decide) p0 p1, g94 _ (by omega) (by omega)]
    · rw [g93 _ (by omega) (by omega), g93 _ (by omega) (by omega), if_neg (by omega), if_neg (by omega)]
    · rw [g94 _ (by omega) (by omega), g94 _ (by omega) (by omega)] at h
      exact absurd rfl h
    · rw [k3 8 (by decide) (by decide), g92 13 (by decide) (by decide)]
    · rw [k3 9 (by decide) (by decide), g92 5 (by decide) (by decide)]
    · rw [k3 10 (by decide) (by decide), g92 6 (by decide) (by decide)]
    · rw [g92 6 (by decide) (by decide)]; decide
    · rw [g92 13 (by decide) (by decide)]; decide
    · rw [g92 3 (by decide) (by decide)]; decide
    · rw [g94 _ (by omega) (by omega), g94 _ (by omega) (by omega)]
    · rw [g92 5 (by decide) (by decide)]; exact ⟨by decide, by decide⟩
    · rw [g92 13 (by decide) (by decide)]; decide
    · rw [k66, g92 8 (by decide) (by decide)]
    · rw [g92 8 (by decide) (by decide)]; decide
    · rw [k68 f f0 f1, g95 f f0 f1]
    · rw [k69 f f0 f1, g96 f f0 f1]
    · rw [k70 f f0 f1, g97 f f0 f1]
    · rw [g95 f f0 f1]; decide
    · rw [g95 f f0 f1] at h
      exact absurd h (by decide)
    · rw [g95 f f0 f1] at h
      exact absurd h (by decide)
    · rw [g93 _ (by omega) (by omega), if_neg (by omega)]; rfl
  have hw : jw_sum K 1100 = 12100 := jw_sum0 1100 (fun i hi => h64 i (by omega) (by omega))
  have hY : jY K G 0 0 := by
    refine ⟨hjN, ⟨k63, fun r r0 r1 => by omega⟩, fun t t0 t1 => ⟨?_, fun _ => ?_⟩, ⟨by omega, ⟨fun _ => 0, fun i i0 i1 => Or.inl (h64 i i0 i1)⟩, by rw [hw]; omega⟩, by omega, by omega⟩
    · rw [k59 t t0 t1, g108 t t0 t1]
    · rw [k60 t t0 t1, g109 t t0 t1]
  have hL : jLg G 0 := by
    refine ⟨fun r r0 r1 => by omega, fun n hn => ?_, fun n hn => ?_⟩
    · have e : n = 0 := by omega
      subst e
      exact ⟨_, _, _, jTs_0 G⟩
    · have e : n = 0 := by omega
      subst e
      refine ⟨(jT_z0 G).q, Nat.le_refl _, ?_, ⟨fun p i p0 p1 _ i0 i1 => ?_, fun x _ _ h => absurd rfl h⟩, ⟨fun _ => 0, fun _ _ _ _ => rfl, fun q i h => ?_⟩, fun m h => absurd h (Nat.succ_ne_zero m).symm⟩
      · show jnf jh_0 + 0 + 0 ≤ 1 + 2 * 0
        decide
      · have i1 : i < 0 := i1
        omega
      · have a : i < 0 := h.2.2.2
        have := h.2.2.1
        omega
  have hP : jP G = 0 := by
    unfold jP
    rw [g92 3 (by decide) (by decide), g97 0 (by decide) (by decide), g97 1 (by decide) (by decide), g97 2 (by decide) (by decide), g97 3 (by decide) (by decide)]
    rfl
  have hph : jph G 0 = 0 := by
    unfold jph jsum jsum jsum jsum jsum
    show 2 * (0 + 0) + (0 + _ + _ + _ + _) = 0
    rw [show G 107 ((0 : Nat) : Int) = 0 from g107 0 (by decide) (by decide), show G 107 ((1 : Nat) : Int) = 0 from g107 1 (by decide) (by decide), show G 107 ((2 : Nat) : Int) = 0 from g107 2 (by decide) (by decide), show G 107 ((3 : Nat) : Int) = 0 from g107 3 (by decide) (by decide)]
    rfl
  have hM : jM G 0 0 (0, 0, fun j => G 113 j) 223 := by
    refine ⟨⟨hL, fun r r0 r1 => by omega⟩, fun t t0 t1 => g108 t t0 t1, fun k k0 k1 => by rw [g111 k k0 k1]; decide, by rw [hph]; exact Nat.le_refl _, by show 0 + 0 + 0 ≤ 223; decide, by rw [hP]; show (0 : Int) ≤ ((0 : Nat) : Int) + 3 * ((0 : Nat) : Int); decide, ⟨g92 0 (by decide) (by decide), fun _ => rfl⟩, fun m hm _ x x0 x1 => ?_, fun x t x0 x1 t0 t1 h => ?_, fun t t0 t1 h => ?_⟩
    · have e : m = 0 := by omega
      subst e
      exact (h113n _ (by omega)).symm
    · rw [g107 t t0 t1] at h; exact absurd h (by decide)
    · rw [g107 t t0 t1] at h; exact absurd h (by decide)
  refine ⟨fun j j0 j1 => by rw [k85 j j0 j1, h113 j j0 j1], k28, Nat.le_refl _, ⟨hY, hM, jT_z0 G, ⟨fun t t0 t1 => ?_, fun k k0 k1 => ?_⟩, ⟨⟨fun k k0 k1 h => ?_, fun s s0 s1 h => ?_⟩, fun _ => 0, fun s s0 s1 h => ?_⟩, fun s s0 s1 _ => rfl⟩⟩
  · rw [k58 t t0 t1, g107 t t0 t1, k61 t t0 t1, g110 t t0 t1]
    exact ⟨rfl, Or.inl rfl, rfl, by decide, by decide⟩
  · rw [k62 k k0 k1, g111 k k0 k1]
    exact ⟨rfl, by decide, by decide⟩
  · rw [g111 k k0 k1] at h; exact absurd h (by decide)
  · rw [g110 s s0 s1] at h; exact absurd h (by decide)
  · rw [g110 s s0 s1] at h; exact absurd h (by decide)
