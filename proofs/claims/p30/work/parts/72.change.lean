/-! RECORDS, class and reference alike; a page changed in its frame -/
def jg_rec (K : jc_K) (G : jg_G) (r : Int) (q : Nat) : Prop := jc_rc K q ∧ (jc_i K q 0 = r ∧ jc_i K q 1 = G 98 r ∧ jc_i K q 2 = G 99 r ∧ jc_i K q 3 = G 101 r ∧ jc_i K q 6 = G 100 r ∧ jc_i K q 7 = G 104 r ∧ jc_i K q 8 = G 105 r) ∧ (G 98 r ≤ 1 → jc_i K q 5 = G 103 r) ∧ (G 98 r = 0 → jc_i K q 4 = G 102 r) ∧ (∀ k, 0 ≤ k → k < G 105 r → jc_i K (q + 1) k = G 106 (3 * r + k)) ∧ (5 ≤ G 98 r → ∀ k, 0 ≤ k → k < G 105 r → 98 ≤ jc_p K (q + 2) k ∧ jp_k K (jc_p K (q + 2) k) (jh_row G (54 + 3 * (r - 1) + k))) ∧ (G 98 r = 4 → (jc_ta K (jc_p K q 11) 4 ∧ ∀ t, 0 ≤ t → t < 4 → jc_i K (jc_p K q 11) t = G 93 (67 * (54 + 3 * (r - 1)) + t)) ∧ (jc_ta K (jc_p K q 12) 24 ∧ ∀ p, 0 ≤ p → p < 24 → jc_i K (jc_p K q 12) p = G 93 (67 * (54 + 3 * (r - 1)) + 4 + p)))
/-- a record stays while only things of fixed names change, and its own part of the log stays -/
theorem jg_rec.s {K K' : jc_K} {G G' : jg_G} {r : Int} {q : Nat} {S : Nat → Prop} (h : jg_rec K G r q) (s : jk_s S K K') (hS : ∀ n, 98 ≤ n → ¬ S n) (hl : jl_a G G' r) (h1 : 1 ≤ r) (hm : G 105 r ≤ 3) : jg_rec K' G' r q := by
  obtain ⟨a, ⟨b0, b1, b2, b3, b6, b7, b8⟩, c, d, e, f, g⟩ := h
  have hq := a.1.1
  have l : ∀ m, 98 ≤ m → m ≤ 105 → G' m r = G m r := fun m x y => hl.l ⟨x, y⟩ h1 (Int.le_refl _)
  have i0 : ∀ n j, 98 ≤ n → jc_i K' n j = jc_i K n j := fun n j hn => s.2 n (hS n hn) j
  have pp : ∀ n j, jc_p K' n j = jc_p K n j := fun n j => by unfold jc_p; rw [s.1.2.2]
  refine ⟨s.rc a, ?_, ?_, ?_, fun k k0 k1 => ?_, fun h5 k k0 k1 => ?_, fun h4 => ?_⟩
  · rw [i0 _ _ hq, i0 _ _ hq, i0 _ _ hq, i0 _ _ hq, i0 _ _ hq, i0 _ _ hq, i0 _ _ hq, l 98 (by decide) (by decide), l 99 (by decide) (by decide), l 101 (by decide) (by decide), l 100 (by decide) (by decide), l 104 (by decide) (by decide), l 105 (by decide) (by decide)]
    exact ⟨b0, b1, b2, b3, b6, b7, b8⟩
  · rw [l 98 (by decide) (by decide), l 103 (by decide) (by decide), i0 _ _ hq]; exact c
  · rw [l 98 (by decide) (by decide), l 102 (by decide) (by decide), i0 _ _ hq]; exact d
  · rw [l 105 (by decide) (by decide)] at k1
    rw [i0 _ _ (by omega), hl.c h1 (Int.le_refl _) k0 (by omega)]
    exact e k k0 k1
  · rw [l 98 (by decide) (by decide)] at h5
    rw [l 105 (by decide) (by decide)] at k1
    have := f h5 k k0 k1
    rw [pp, jh_row_e (fun j x y => hl 93 j (by omega))]
    exact ⟨this.1, s.k (hS _ this.1) (hS _ (by omega)) this.2⟩
  · rw [l 98 (by decide) (by decide)] at h4
    obtain ⟨⟨t1, t2⟩, t3, t4⟩ := g h4
    have ta : ∀ q n, jc_ta K q n → jc_ta K' q n := fun q n z => by unfold jc_ta at *; rw [s.1.1, s.1.2.1]; exact z
    refine ⟨⟨by rw [pp]; exact ta _ _ t1, fun t x y => ?_⟩, by rw [pp]; exact ta _ _ t3, fun p x y => ?_⟩
    · rw [pp, i0 _ _ t1.1, hl 93 _ (by omega)]; exact t2 t x y
    · rw [pp, i0 _ _ t3.1, hl 93 _ (by omega)]; exact t4 p x y
/-- the version that stands, once p is r's -/
def jcv (cv : Int → Nat) (p : Int) (r : Nat) : Int → Nat := fun x => if x = p then r else cv x
theorem jN_rep {K K' : jc_K} {G G' : jg_G} {cv : Int → Nat} {N r : Nat} {f p : Int} (h : jN K G cv N) (hf : 0 ≤ f ∧ f < 4) (hp : G 95 f = p) (hp0 : 0 ≤ p) (hr : 1 ≤ r ∧ r ≤ N) (hv : cv p < r) (hk : jh_k G r p ≠ -1) (hno : ∀ r' : Nat, cv p < r' → r' < r → jh_k G r' p = -1) (hw : jp_w (jh G r p)) (hs : jk_s (fun n => n = 70 ∨ n = 71 + 2 * f.toNat ∨ n = 71 + 2 * f.toNat + 1) K K') (h70 : jc_i K' 70 f = G' 97 f ∧ ∀ i, i ≠ f → jc_i K' 70 i = jc_i K 70 i) (hkp : jp_k K' (71 + 2 * f.toNat) (jh G r p)) (hkn : jc_i K' (71 + 2 * f.toNat) 1 = r) (hg : ∀ n j, (n ≠ 93 ∨ j < 67 * f ∨ 67 * f + 67 ≤ j) → (n ≠ 97 ∨ j ≠ f) → G' n j = G n j) (hgr : jp_r G' f (jh G r p)) (hgn : G' 93 (67 * f + 1) = r) (hg97 : G' 97 f = if G 97 f = 0 then (r : Int) else G 97 f) : jN K' G' (jcv cv p r) N ∧ jw_s G G' ∧ jP G' ≤ jP G + 1 := by
  obtain ⟨⟨a1, a2, a3⟩, ⟨b1, b2, b3, b4, b5⟩, ⟨⟨ca1, ca2, ca3⟩, c2, c3, c4⟩⟩ := h
  have g92 : ∀ i, G' 92 i = G 92 i := fun i => hg 92 i (Or.inl (by decide)) (Or.inl (by decide))
  have g94 : ∀ i, G' 94 i = G 94 i := fun i => hg 94 i (Or.inl (by decide)) (Or.inl (by decide))
  have g95 : ∀ i, G' 95 i = G 95 i := fun i => hg 95 i (Or.inl (by decide)) (Or.inl (by decide))
  have g96 : ∀ i, G' 96 i = G 96 i := fun i => hg 96 i (Or.inl (by decide)) (Or.inl (by decide))
  have g97 : ∀ i, i ≠ f → G' 97 i = G 97 i := fun i hi => hg 97 i (Or.inl (by decide)) (Or.inr hi)
  have g93 : ∀ j, (j < 67 * f ∨ 67 * f + 67 ≤ j) → G' 93 j = G 93 j := fun j hj => hg 93 j (Or.inr hj) (Or.inl (by decide))
  have hws : jw_s G G' := ⟨fun n x j => hg n j (Or.inl (by omega)) (Or.inl (by omega)), fun j hj => g93 j (by omega), fun i _ _ _ _ _ _ => g92 i, by rw [g92]; exact Int.le_refl _, jd_m.same (fun j a b => g93 j (by omega))⟩
  have hl := hws.l
  obtain ⟨e1, e2, e3, e4⟩ := c2 f hf.1 hf.2 (by omega)
  have hb := (ca2 f hf.1 hf.2).2.2.1
  have jvr : jv G p r = r := jv_is (by omega) hk
  refine ⟨⟨⟨?_, ?_, fun q x y => by rw [g94, g94]; exact a3 q x y⟩, ⟨by rw [g92]; exact b1, by rw [g92]; exact b2, by rw [g92]; exact b3, b4, by rw [g92]; exact b5⟩, ⟨⟨?_, fun i i0 i1 => ?_, fun i j i0 i1 j0 j1 x y => ?_⟩, fun i i0 i1 hi => ?_, fun i i0 i1 hi => ?_, fun q q0 q1 hq => ?_⟩⟩, hws, ?_⟩
  · rw [g92]
    exact a1.keep (Int.le_refl _) ⟨hs.1, fun i _ => hs.2 3 (by omega) i, fun n x y i => hs.2 n (by omega) i⟩ (by rw [hs.2 3 (by omega), g92]; exact a1.1.1) (by rw [g92]; exact Int.le_refl _) (g92 4) hl (fun j x y => g93 j (by omega)) g94
  · obtain ⟨⟨n1, n2, n3⟩, n4, n5, n6⟩ := a2
    refine ⟨⟨?_, ?_, ?_⟩, ?_, ?_, ?_⟩
    · rw [hs.2 3 (by omega), g92]; exact n1
    · rw [hs.2 3 (by omega), g92]; exact n2
    · rw [hs.2 3 (by omega), g92]; exact n3
    · rw [g92]; exact n4
    · rw [g92]; exact n5
    · rw [g92]; exact n6
  · rw [hs.2 66 (by omega), g92]; exact ca1
  · obtain ⟨⟨x1, x2, x3⟩, x4, x5, x6⟩ := ca2 i i0 i1
    rw [hs.2 68 (by omega), hs.2 69 (by omega), g95, g96]
    refine ⟨⟨x1, x2, ?_⟩, x4, x5, hs.pg x6⟩
    by_cases e : i = f
    · rw [e]; exact h70.1
    · rw [h70.2 i e, g97 i e]; exact x3
  · rw [g95] at x y
    rw [g95] at y
    exact ca3 i j i0 i1 j0 j1 x y
  · rw [g95] at hi ⊢
    by_cases e : i = f
    · rw [e, hp]
      have ej : jcv cv p r p = r := if_pos rfl
      rw [ej]
      refine ⟨hgn, ⟨r, hgn, by omega, by rw [hl.v]; exact jvr, by rw [hl.h]; exact hw, by rw [hl.h]; exact hgr⟩, ⟨by rw [hkn, hgn], by rw [hgn, Int.toNat_natCast, hl.h]; exact hkp⟩, ?_⟩
      have h5 : G' 93 (67 * (5 + 2 * p) + 1) = G 93 (67 * (5 + 2 * p) + 1) := g93 _ (by omega)
      right
      rw [h5, hg97]
      rw [hp] at e4
      have kn : ∀ r' : Nat, jh_k G' r' p = jh_k G r' p := fun r' => by
        unfold jh_k
        rw [hl.1 105 (by decide) (by decide), hl.1 106 (by decide) (by decide), hl.1 106 (by decide) (by decide), hl.1 106 (by decide) (by decide)]
      rcases e4 with ⟨d1, d2⟩ | ⟨d, d1, d2, d3, d4, d5, d6⟩
      · rw [if_pos d1]
        refine ⟨r, rfl, by omega, by omega, Nat.le_refl _, by rw [kn]; exact hk, fun r' x y => by rw [kn]; exact hno r' (by omega) y⟩
      · rw [if_neg (by omega)]
        exact ⟨d, d1, d2, d3, by omega, by rw [kn]; exact d5, fun r' x y => by rw [kn]; exact d6 r' x y⟩
    · obtain ⟨d1, d2, d3, d4⟩ := c2 i i0 i1 hi
      have hbi := (ca2 i i0 i1).2.2.1
      have hne : G 95 i ≠ p := fun z => e (ca3 i f i0 i1 hf.1 hf.2 hi (by rw [z, hp]))
      have ej : jcv cv p r (G 95 i) = cv (G 95 i) := if_neg hne
      rw [ej]
      exact ⟨by rw [g93 _ (by omega)]; exact d1, d2.s hl (fun j x y => g93 j (by omega)), d3.s hl (fun j x y => g93 j (by omega)) hs (by omega) (by omega), d4.s hl (g97 i e) (g93 _ (by omega))⟩
  · rw [g95] at hi
    have e : i ≠ f := fun z => by rw [z, hp] at hi; omega
    rw [g97 i e]
    exact c3 i i0 i1 hi
  · have hq' : ∀ i, 0 ≤ i → i < 4 → G 95 i ≠ q := fun i i0 i1 => by rw [← g95]; exact hq i i0 i1
    have hne : q ≠ p := fun z => hq' f hf.1 hf.2 (by rw [hp, z])
    have ej : jcv cv p r q = cv q := if_neg hne
    rw [ej, g93 _ (by omega)]
    exact c4 q q0 q1 hq'
  · unfold jP
    rw [g92]
    have : f = 0 ∨ f = 1 ∨ f = 2 ∨ f = 3 := by omega
    rcases this with rfl | rfl | rfl | rfl
    · rw [g97 1 (by decide), g97 2 (by decide), g97 3 (by decide)]
      repeat' split
      all_goals omega
    · rw [g97 0 (by decide), g97 2 (by decide), g97 3 (by decide)]
      repeat' split
      all_goals omega
    · rw [g97 0 (by decide), g97 1 (by decide), g97 3 (by decide)]
      repeat' split
      all_goals omega
    · rw [g97 0 (by decide), g97 1 (by decide), g97 2 (by decide)]
      repeat' split
      all_goals omega
