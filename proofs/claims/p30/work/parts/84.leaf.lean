/-! A RECORD OF A LEAF: CHANGE and UNDO -/
theorem jB.h {G : jg_G} {N : Nat} (p : Int) : jh (jg_u G 92 12 N) N p = jh G N p := by
  have : jl_s G (jg_u G 92 12 N) := ⟨fun m a b j => jg_uN (by omega), fun j _ => jg_uN (by decide)⟩
  exact this.h N p
theorem jB.seen {K : jc_K} {G : jg_G} {N x q : Nat} (h : jB K G N x q) {p : Int} (hp : 0 ≤ p ∧ p < 24) : fc3 K p = some (K, jq G p) ∧ 0 < jq G p ∧ jp_k K (jq G p) (jh G N p) ∧ (0 ≤ fr_ro G p ∧ fr_ro G p < 54) ∧ jp_r G (fr_ro G p) (jh G N p) ∧ jp_w (jh G N p) := by
  obtain ⟨a, b, c, d, e, f, g, i, j⟩ := jN_seen h.1.1 hp
  have fo : fr_fo (jg_u G 92 12 N) p = fr_fo G p := by unfold fr_fo; simp only [jg_uN (show (95 : Nat) ≠ 92 by decide)]
  have ro : fr_ro (jg_u G 92 12 N) p = fr_ro G p := by unfold fr_ro; rw [fo]
  have qq : jq (jg_u G 92 12 N) p = jq G p := by unfold jq; rw [fo]
  have ev : jh (jg_u G 92 12 N) (jv G p N) p = jh G N p := by
    have : jl_s G (jg_u G 92 12 N) := ⟨fun m a b j => jg_uN (by omega), fun j _ => jg_uN (by decide)⟩
    rw [this.h, jh_v]
  rw [qq] at a b c d
  rw [ev] at c f j
  rw [ro] at e f
  refine ⟨a, b, c, e, ?_, j⟩
  obtain ⟨f1, f2, f3⟩ := f
  exact ⟨by rw [← f1, jg_uN (by decide)], by rw [← f2, jg_uN (by decide)], fun i i0 i1 => by rw [← (f3 i i0 i1).1, ← (f3 i i0 i1).2, jg_uN (by decide), jg_uN (by decide)]; exact ⟨rfl, rfl⟩⟩
theorem jL_rec {K : jc_K} {G : jg_G} {N x q : Nat} {p : Int} (h : jB K G N x q) (hp : 0 ≤ p ∧ p < 24) (hl : (jh G N p).1 = 1) (hw : 0 ≤ G 98 ((N : Int) + 1) ∧ G 98 ((N : Int) + 1) ≤ 1) (hm : G 105 ((N : Int) + 1) = 1) (hc : G 106 (3 * ((N : Int) + 1)) = p) (hx : 0 ≤ G 101 ((N : Int) + 1) ∧ G 101 ((N : Int) + 1) < 32) (hv : -1 ≤ G 103 ((N : Int) + 1) ∧ G 103 ((N : Int) + 1) < 1000) (hi : jc_i K q 0 = (N : Int) + 1 ∧ jc_i K q 1 = G 98 ((N : Int) + 1) ∧ jc_i K q 2 = G 99 ((N : Int) + 1) ∧ jc_i K q 3 = G 101 ((N : Int) + 1) ∧ jc_i K q 6 = G 100 ((N : Int) + 1) ∧ jc_i K q 7 = G 104 ((N : Int) + 1) ∧ jc_i K q 8 = 1 ∧ jc_i K q 5 = G 103 ((N : Int) + 1) ∧ (G 98 ((N : Int) + 1) = 0 → jc_i K q 4 = G 102 ((N : Int) + 1)) ∧ jc_i K (q + 1) 0 = p) : jg_rec K G ((N : Int) + 1) q ∧ jl_v G (N + 1) := by
  have ec : (((N + 1 : Nat) : Nat) : Int) = (N : Int) + 1 := by omega
  obtain ⟨i0, i1, i2, i3, i6, i7, i8, i5, i4, ip⟩ := hi
  have hk : ∀ p', jh_k G ((N : Int) + 1) p' = if p' = p then 0 else -1 := fun p' => by
    unfold jh_k
    rw [hm, hc]
    by_cases e : p' = p
    · rw [if_pos ⟨by decide, e.symm⟩, if_pos e]
    · rw [if_neg (fun z => e z.2.symm), if_neg (fun z => by have := z.1; omega), if_neg (fun z => by have := z.1; omega), if_neg e]
  refine ⟨⟨h.2.2.2.2.1.2, ⟨i0, i1, i2, i3, i6, i7, by rw [i8, hm]⟩, fun _ => i5, i4, fun k k0 k1 => ?_, fun z => by omega, fun z => by omega⟩, ?_⟩
  · have : k = 0 := by omega
    rw [this, ip, show 3 * ((N : Int) + 1) + 0 = 3 * ((N : Int) + 1) by omega, hc]
  · unfold jl_v
    rw [ec]
    refine ⟨by omega, by omega, fun k k0 k1 => ?_, fun _ => ⟨hx, hv, fun p' hp' => ?_⟩, fun _ z => by omega, fun p' p0 p1 => ?_⟩
    · have : k = 0 := by omega
      rw [this, show 3 * ((N : Int) + 1) + 0 = 3 * ((N : Int) + 1) by omega, hc, hk, if_pos rfl]
      exact ⟨hp, rfl⟩
    · rw [hk] at hp'
      by_cases e : p' = p
      · rw [e]; exact hl
      · rw [if_neg e] at hp'; exact absurd rfl hp'
    · have w := (h.seen ⟨p0, p1⟩).2.2.2.2.2
      show jp_w (if jh_k G ((N : Int) + 1) p' = -1 then jh G N p' else if G 98 ((N : Int) + 1) ≤ 1 then _ else _)
      rw [hk]
      by_cases e : p' = p
      · rw [if_pos e, if_neg (by decide), if_pos (by omega)]
        rw [e] at w ⊢
        exact jp_chg_w w hl (jh_pl_sp _ w.1) hx hv
      · rw [if_neg e, if_pos rfl]; exact w
