/-! RECOVER: how often one goes back, and who is looked at -/
/-- how many CHANGEs of t there are up to n -/
def jct (G : jg_G) (t : Int) : Nat → Nat
  | 0 => 0
  | n + 1 => jct G t n + (if G 99 ((n : Int) + 1) = t ∧ G 98 ((n : Int) + 1) = 0 then 1 else 0)
theorem jct_up (G : jg_G) (t : Int) : ∀ (d n : Nat), jct G t n ≤ jct G t (n + d)
  | 0, n => Nat.le_refl _
  | d + 1, n => Nat.le_trans (jct_up G t d n) (Nat.le_add_right _ _)
theorem jct_mono {G : jg_G} {t : Int} {n m : Nat} (h : n ≤ m) : jct G t n ≤ jct G t m := by
  have := jct_up G t (m - n) n
  rw [show n + (m - n) = m by omega] at this
  exact this
theorem jct_lt {G : jg_G} {t : Int} {n c : Nat} (hc : 1 ≤ c) (h : n < c) (h99 : G 99 c = t) (h98 : G 98 c = 0) : jct G t n + 1 ≤ jct G t c := by
  obtain ⟨c, rfl⟩ : ∃ d, c = d + 1 := ⟨c - 1, by omega⟩
  have ec : ((c + 1 : Nat) : Int) = (c : Int) + 1 := by omega
  rw [ec] at h99 h98
  have := jct_mono (G := G) (t := t) (n := n) (m := c) (by omega)
  have e : jct G t (c + 1) = jct G t c + (if G 99 ((c : Int) + 1) = t ∧ G 98 ((c : Int) + 1) = 0 then 1 else 0) := rfl
  rw [e, if_pos ⟨h99, h98⟩]
  omega
theorem jl_a.ct {G G' : jg_G} {n : Int} (h : jl_a G G' n) (t : Int) : ∀ m : Nat, (m : Int) ≤ n → jct G' t m = jct G t m
  | 0, _ => rfl
  | m + 1, hm => by
    unfold jct
    rw [h.ct t m (by omega), h.l (m := 98) (by decide) (by omega) (by omega), h.l (m := 99) (by decide) (by omega) (by omega)]
theorem jct_sum (G : jg_G) : ∀ n : Nat, jct G 0 n + jct G 1 n + jct G 2 n + jct G 3 n ≤ jcw G 0 n
  | 0 => Nat.le_refl _
  | n + 1 => by
    have ih := jct_sum G n
    have e : ∀ t, jct G t (n + 1) = jct G t n + (if G 99 ((n : Int) + 1) = t ∧ G 98 ((n : Int) + 1) = 0 then 1 else 0) := fun t => rfl
    have w : jcw G 0 (n + 1) = jcw G 0 n + (if G 98 ((n : Int) + 1) = 0 then 1 else 0) := rfl
    rw [e, e, e, e, w]
    by_cases k : G 98 ((n : Int) + 1) = 0
    · rw [if_pos k]
      by_cases a0 : G 99 ((n : Int) + 1) = 0
      · rw [if_pos ⟨a0, k⟩, if_neg (fun z => by omega), if_neg (fun z => by omega), if_neg (fun z => by omega)]; omega
      · rw [if_neg (fun z => a0 z.1)]
        by_cases a1 : G 99 ((n : Int) + 1) = 1
        · rw [if_pos ⟨a1, k⟩, if_neg (fun z => by omega), if_neg (fun z => by omega)]; omega
        · rw [if_neg (fun z => a1 z.1)]
          by_cases a2 : G 99 ((n : Int) + 1) = 2
          · rw [if_pos ⟨a2, k⟩, if_neg (fun z => by omega)]; omega
          · rw [if_neg (fun z => a2 z.1)]
            split <;> omega
    · rw [if_neg (fun z => k z.2), if_neg (fun z => k z.2), if_neg (fun z => k z.2), if_neg (fun z => k z.2), if_neg k]
      omega
section
variable {K : jc_K} {G : jg_G}
/-- who is looked at: class and reference take the same one -/
theorem jpick {r : Int → Nat} (hr : ∀ s, 0 ≤ s → s < 4 → G 115 s = r s ∧ jc_i K 82 s = if r s = 0 then -1 else (r s : Int)) : ∀ (d m : Nat) (l acc : Int), 0 ≤ l → l + d = 4 → d < m → ((acc = -1) ∨ ((0 ≤ acc ∧ acc < 4) ∧ 0 < r acc)) → ∃ v, fc93_4 m K 0 acc l = some (K, v) ∧ (∀ m', fo211_s (m' + d) 43 G acc l = fo211_s m' 43 G v 4) ∧ ((v = -1 ∧ acc = -1 ∧ ∀ s, l ≤ s → s < 4 → r s = 0) ∨ ((0 ≤ v ∧ v < 4) ∧ 0 < r v)) := by
  intro d
  induction d with
  | zero =>
    intro m l acc h0 h1 hm ha
    obtain ⟨m, rfl⟩ : ∃ j, m = j + 1 := ⟨m - 1, by omega⟩
    refine ⟨acc, ?_, fun m' => by rw [show l = 4 by omega]; rfl, ?_⟩
    · unfold fc93_4
      rw [if_pos (by omega)]
    · rcases ha with a | a
      · exact Or.inl ⟨a, a, fun s s0 s1 => by omega⟩
      · exact Or.inr a
  | succ d ih =>
    intro m l acc h0 h1 hm ha
    obtain ⟨m, rfl⟩ : ∃ j, m = j + 1 := ⟨m - 1, by omega⟩
    obtain ⟨r1, r2⟩ := hr l h0 (by omega)
    have go : ∀ acc', ((acc' = -1) ∨ ((0 ≤ acc' ∧ acc' < 4) ∧ 0 < r acc')) → (acc' = -1 → acc = -1 ∧ r l = 0) → fc93_4 (m + 1) K 0 acc l = fc93_4 m K 0 acc' (l + 1) → (∀ m', fo211_s (m' + d + 1) 43 G acc l = fo211_s (m' + d) 43 G acc' (l + 1)) → ∃ v, fc93_4 (m + 1) K 0 acc l = some (K, v) ∧ (∀ m', fo211_s (m' + (d + 1)) 43 G acc l = fo211_s m' 43 G v 4) ∧ ((v = -1 ∧ acc = -1 ∧ ∀ s, l ≤ s → s < 4 → r s = 0) ∨ ((0 ≤ v ∧ v < 4) ∧ 0 < r v)) := fun acc' a1 a2 a3 a4 => by
      obtain ⟨v, y1, y2, y3⟩ := ih m (l + 1) acc' (by omega) (by omega) (by omega) a1
      refine ⟨v, by rw [a3, y1], fun m' => (a4 m').trans (y2 m'), ?_⟩
      rcases y3 with ⟨z1, z2, z3⟩ | z
      · obtain ⟨b1, b2⟩ := a2 z2
        exact Or.inl ⟨z1, b1, fun s s0 s1 => by
          by_cases e : s = l
          · rw [e]; exact b2
          · exact z3 s (by omega) s1⟩
      · exact Or.inr z
    by_cases z : r l = 0
    · rw [if_pos z] at r2
      refine go acc ha (fun y => ⟨y, z⟩) ?_ (fun m' => ?_)
      · conv => lhs; unfold fc93_4
        rw [if_neg (by omega), if_pos (by omega), r2, if_pos rfl, if_pos (by omega)]
      · conv => lhs; unfold fo211_s
        rw [if_neg (by decide), if_pos rfl, if_neg (by omega), if_pos (by omega), r1, if_pos (by omega), if_pos (by omega)]
    · rw [if_neg z] at r2
      by_cases a : acc = -1
      · refine go l (Or.inr ⟨⟨h0, by omega⟩, by omega⟩) (fun y => by omega) ?_ (fun m' => ?_)
        · conv => lhs; unfold fc93_4
          rw [if_neg (by omega), if_pos (by omega), r2, if_neg (by omega), if_pos (by omega), if_pos a, if_pos (by omega)]
        · conv => lhs; unfold fo211_s
          rw [if_neg (by decide), if_pos rfl, if_neg (by omega), if_pos (by omega), r1, if_neg (by omega), if_pos a, if_pos (by omega)]
      · obtain ⟨b1, b2⟩ := ha.resolve_left a
        obtain ⟨q1, q2⟩ := hr acc b1.1 b1.2
        rw [if_neg (by omega)] at q2
        by_cases c : r l ≤ r acc
        · refine go acc (Or.inr ⟨b1, b2⟩) (fun y => absurd y a) ?_ (fun m' => ?_)
          · conv => lhs; unfold fc93_4
            rw [if_neg (by omega), if_pos (by omega), r2, if_neg (by omega), if_pos (by omega), if_neg a, if_pos b1, q2, if_pos (by omega), if_pos (by omega)]
          · conv => lhs; unfold fo211_s
            rw [if_neg (by decide), if_pos rfl, if_neg (by omega), if_pos (by omega), r1, if_neg (by omega), if_neg a, if_pos b1, q1, if_pos (by omega), if_pos (by omega)]
        · refine go l (Or.inr ⟨⟨h0, by omega⟩, by omega⟩) (fun y => by omega) ?_ (fun m' => ?_)
          · conv => lhs; unfold fc93_4
            rw [if_neg (by omega), if_pos (by omega), r2, if_neg (by omega), if_pos (by omega), if_neg a, if_pos b1, q2, if_neg (by omega), if_pos (by omega)]
          · conv => lhs; unfold fo211_s
            rw [if_neg (by decide), if_pos rfl, if_neg (by omega), if_pos (by omega), r1, if_neg (by omega), if_neg a, if_pos b1, q1, if_neg (by omega), if_pos (by omega)]
/-- who has nothing left comes first -/
theorem jk_93e {r : Int → Nat} {t : Int} (ht : 0 ≤ t ∧ t < 4) (h0t : jc_i K 82 t = 0) (hr : ∀ s, 0 ≤ s → s < 4 → s ≠ t → jc_i K 82 s = if r s = 0 then -1 else (r s : Int)) : ∀ (d m : Nat) (l acc : Int), 0 ≤ l → l + d = t → d < m → (acc = -1 ∨ (0 ≤ acc ∧ acc < 4)) → fc93_4 m K 0 acc l = some (K, t) := by
  intro d
  induction d with
  | zero =>
    intro m l acc h0 h1 hm ha
    obtain ⟨m, rfl⟩ : ∃ j, m = j + 1 := ⟨m - 1, by omega⟩
    unfold fc93_4
    rw [if_neg (by omega), if_pos (by omega), show l = t by omega, h0t, if_neg (by decide), if_neg (by decide)]
  | succ d ih =>
    intro m l acc h0 h1 hm ha
    obtain ⟨m, rfl⟩ : ∃ j, m = j + 1 := ⟨m - 1, by omega⟩
    have r2 := hr l h0 (by omega) (by omega)
    unfold fc93_4
    rw [if_neg (by omega), if_pos (by omega), r2]
    by_cases z : r l = 0
    · rw [if_pos z, if_pos rfl, if_pos (by omega)]
      exact ih m (l + 1) acc (by omega) (by omega) (by omega) ha
    · rw [if_neg z, if_neg (by omega), if_pos (by omega)]
      by_cases a : acc = -1
      · rw [if_pos a, if_pos (by omega)]
        exact ih m (l + 1) l (by omega) (by omega) (by omega) (Or.inr ⟨h0, by omega⟩)
      · have b := ha.resolve_left a
        rw [if_neg a, if_pos b, if_pos (show -2147483648 ≤ l + 1 ∧ l + 1 < 2147483648 by omega)]
        by_cases c : (r l : Int) ≤ jc_i K 82 acc
        · rw [if_pos c]
          exact ih m (l + 1) acc (by omega) (by omega) (by omega) ha
        · rw [if_neg c, if_pos (by omega)]
          exact ih m (l + 1) l (by omega) (by omega) (by omega) (Or.inr ⟨h0, by omega⟩)
end
/-- only names from 112 on differ -/
theorem jM.hi {G G' : jg_G} {N κ B : Nat} {W : jZW} (h : jM G N κ W B) (hg : ∀ n, n < 112 → ∀ j, G' n j = G n j) (h5 : ∀ j, j < 0 → G' 113 j = G 113 j) : jM G' N κ (W.1, W.2.1, fun j => G' 113 j) B := by
  have hg2 : ∀ n j, ¬ (n = 110 ∨ n = 111 ∨ (n = 92 ∧ j = 0) ∨ 112 ≤ n) → G' n j = G n j := fun n j h => hg n (by omega) j
  have hl : jl_a G G' N := fun m j e => hg m (by omega) j
  refine h.g hg2 (fun k k0 k1 => by rw [hg 111 (by decide)]; exact h.2.2.1 k k0 k1) ?_ ⟨(hg 92 (by decide) 0).trans h.2.2.2.2.2.2.1.1, fun j => rfl⟩ (Nat.le_refl _) (fun x _ _ => h5 _ (by omega)) (fun k s _ _ _ _ _ _ z => by rw [hg 111 (by decide)]; exact z)
  have ph : jph G' N = jph G N := by
    rw [jph_tm, jph_tm, hl.cw 2 N (Int.le_refl _), hl.cw 3 N (Int.le_refl _)]
    congr 1
    refine jsum_e 4 (fun i hi => ?_)
    unfold jtm
    rw [hl.t _ N (Int.le_refl _), hg 107 (by decide), hg 110 (by decide)]
  rw [ph]
  exact h.2.2.2.1
theorem jY.hi {K : jc_K} {G G' : jg_G} {N x : Nat} (h : jY K G N x) (hg : ∀ n, n < 112 → ∀ j, G' n j = G n j) : jY K G' N x := h.g (fun n j e => hg n (by omega) j)
theorem jTr.hi {K : jc_K} {G G' : jg_G} (h : jTr K G) (hg : ∀ n, n < 112 → ∀ j, G' n j = G n j) : jTr K G' := by
  refine ⟨fun t t0 t1 => ?_, fun k k0 k1 => ?_⟩
  · rw [hg 107 (by decide), hg 110 (by decide)]; exact h.1 t t0 t1
  · rw [hg 111 (by decide)]; exact h.2 k k0 k1
