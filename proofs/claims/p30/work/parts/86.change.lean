/-! A KEY CHANGED IN ITS LEAF: changeLeaf() and changesKey() -/
/-- what an action leaves: the log grows, of the others only disk and cache may change (and last and since) -/
def jV (G G' : jg_G) (N M : Nat) : Prop := (jl_a G G' N ∧ N ≤ M ∧ G' 92 12 = M) ∧ (∀ i, i ≠ 3 → i ≠ 4 → i ≠ 5 → i ≠ 6 → i ≠ 8 → i ≠ 12 → i ≠ 13 → i ≠ 29 → G' 92 i = G 92 i) ∧ (∀ n, n = 107 ∨ n = 110 ∨ n = 111 ∨ (113 ≤ n ∧ n ≤ 118) → ∀ j, G' n j = G n j) ∧ G 92 13 ≤ G' 92 13 ∧ jd_m G G'
theorem jV.trans {G G' G'' : jg_G} {N M O : Nat} (h : jV G G' N M) (h2 : jV G' G'' M O) : jV G G'' N O := by
  obtain ⟨⟨a1, a2, a3⟩, b, c, d⟩ := h
  obtain ⟨⟨x1, x2, x3⟩, y, z, w⟩ := h2
  exact ⟨⟨a1.trans (x1.le (by omega)), by omega, x3⟩, fun i i1 i2 i3 i4 i5 i6 i7 i8 => (y i i1 i2 i3 i4 i5 i6 i7 i8).trans (b i i1 i2 i3 i4 i5 i6 i7 i8), fun n hn j => (z n hn j).trans (c n hn j), Int.le_trans d.1 w.1, d.2.trans w.2⟩
/-- names that an action may touch in the class -/
def jQ (n : Nat) : Prop := jS_n n ∨ n = 59 ∨ n = 60 ∨ n = 63 ∨ n = 64 ∨ 98 ≤ n
theorem jo_at {c : jp_C} {x k k' v : Int} (h : jp_at c x k v) (h' : jp_pl c x k') : v = if k' < c.2.1 ∧ c.2.2.1 k' = x then c.2.2.2 k' else -1 := by
  have := jp_pl_u h.1 h'
  rw [← this]; exact h.2
def jc_g (G : jg_G) (r t key v was p : Int) : jg_G := jg_u (jg_u (jg_u (jg_u (jg_u (fr_no G 0 t) 101 r key) 102 r was) 103 r v) 106 (3 * r) p) 105 r 1
theorem jo_192 {G : jg_G} {N L : Nat} {t key v p : Int} {c : jp_C} (h12 : G 92 12 = N) (hN : N < 1100) (ht : -1 ≤ t ∧ t < 4) (h29 : G 92 29 = (L : Int) + 1) (hL : L < 24) (hp : G 112 L = p) (hp0 : 0 ≤ p ∧ p < 24) (hro : 0 ≤ fr_ro G p ∧ fr_ro G p < 54) (hc : jp_r G (fr_ro G p) c) (hw : jp_w c) : ∃ k, jp_pl c key k ∧ fo192 G t key v = (fo174 (jc_g G ((N : Int) + 1) t key v (if k < c.2.1 ∧ c.2.2.1 k = key then c.2.2.2 k else -1) p) ((N : Int) + 1)).bind fun x => some (x.1, 0) := by
  obtain ⟨k, k1, k2⟩ := jr_pl (x := key) hc hw.1.1 hw.1.2
  refine ⟨k, k1, ?_⟩
  unfold fo192
  rw [h29, show (L : Int) + 1 - 1 = L by omega, hp, if_pos ⟨by omega, by omega⟩, if_pos hp0, jo_le, if_pos ⟨by omega, by omega⟩, hc.2.1, if_pos hw.1, jo_le, h12, if_pos ⟨by omega, by omega⟩, if_pos ht, jo_le, if_pos ⟨by omega, by omega⟩, k2]
  by_cases e : k < c.2.1 ∧ c.2.2.1 k = key
  · rw [if_pos e, if_pos e, if_neg (by have := k1.1.1; omega)]
    have ro : fr_ro (jg_u (fr_no G (0 : Int) t) 101 ((N : Int) + 1) key) p = fr_ro G p := by
      have : ∀ f, (jg_u (fr_no G (0 : Int) t) 101 ((N : Int) + 1) key) 95 f = G 95 f := fun f => by
        rw [jg_uN (by decide), fr_no_o (by omega) (by omega) (by omega)]
      unfold fr_ro fr_fo
      simp only [this]
    have e93 : ∀ j, (fr_no G (0 : Int) t) 93 j = G 93 j := fun j => fr_no_o (by omega) (by omega) (by omega)
    have k0 := k1.1.1
    have e1 := e.1
    have w2 := hw.1.2
    rw [jo_le, ro, if_pos ⟨by omega, by omega⟩, if_pos ⟨by omega, by omega⟩, e93, (hc.2.2 k k1.1.1 e.1).2]
    rfl
  · rw [if_neg e, if_neg e, if_pos (by have := k1.1.1; omega), if_pos ⟨by omega, by omega⟩]
    rfl
