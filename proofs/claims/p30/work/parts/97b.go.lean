/-! A PAGE GOES: tellGo() and goes() -/
theorem ja_pages {G : jg_G} {N : Nat} {m w : Int} {c : Int → jp_C} {P : Int → Prop} (hr : jr_I G ((N : Int) + 1) m c P) (hm : m ≤ 3) (hw : 5 ≤ w) (hg : G 98 ((N : Int) + 1) = w) (hc : ∀ y, P y → jp_w (c y)) : (∀ z, P z → jp_e (jh G (N + 1) z) (c z)) ∧ ∀ z, ¬ P z → jh G (N + 1) z = jh G N z := by
  have kk : ∀ z, jh_k G ((N : Int) + 1) z ≠ -1 → P z ∧ 0 ≤ jh_k G ((N : Int) + 1) z ∧ jh_k G ((N : Int) + 1) z < m ∧ G 106 (3 * ((N : Int) + 1) + jh_k G ((N : Int) + 1) z) = z := fun z hz => by
    have b := jh_k_b G ((N : Int) + 1) z
    have b2 := b.2.2 (by omega)
    rw [hr.1] at b2
    have := (hr.2.1 _ (by omega) b2.1).2.2
    rw [b2.2] at this
    exact ⟨this, by omega, b2.1, b2.2⟩
  refine ⟨fun z hz => ?_, fun z hz => ?_⟩
  · show jp_e (if jh_k G ((N : Int) + 1) z = -1 then jh G N z else if G 98 ((N : Int) + 1) ≤ 1 then _ else jh_row G (54 + 3 * (N : Int) + jh_k G ((N : Int) + 1) z)) (c z)
    have hk : jh_k G ((N : Int) + 1) z ≠ -1 := fun e => by
      obtain ⟨k, k0, k1, k2⟩ := hr.2.2.2 z hz
      exact jh_k_n e k0 (by omega) (by rw [hr.1]; exact k1) k2
    obtain ⟨_, x1, x2, x3⟩ := kk z hk
    rw [if_neg hk, if_neg (by omega)]
    obtain ⟨w1, w2, w3⟩ := hr.2.1 _ x1 x2
    rw [x3] at w2
    rw [show (54 : Int) + 3 * (N : Int) + jh_k G ((N : Int) + 1) z = 54 + 3 * ((N : Int) + 1 - 1) + jh_k G ((N : Int) + 1) z by omega]
    exact (jh_row_r (by rw [w2.2.1]; exact (hc z hz).1.2)).e2 w2
  · show (if jh_k G ((N : Int) + 1) z = -1 then jh G N z else _) = _
    rw [if_pos]
    by_cases e : jh_k G ((N : Int) + 1) z = -1
    · exact e
    · exact absurd (kk z e).1 hz
theorem jgo_w {c : jp_C} {k : Int} (hw : jp_w c) (hk : c.1 = 2) (h0 : 0 ≤ k) (h1 : k < c.2.1) : jp_w (jp_fg (jp_del c k)) := by
  obtain ⟨⟨b0, b1⟩, w⟩ := id hw
  obtain ⟨_, b4, b5, b6, b7⟩ := (w.resolve_left (fun z => by omega)).resolve_left (fun z => by omega)
  have mono := fun i j => jp_mono2 hw hk (i := i) (j := j)
  unfold jp_fg jp_del
  refine ⟨⟨by show 0 ≤ c.2.1 - 1; omega, by show c.2.1 - 1 ≤ 32; omega⟩, Or.inr (Or.inr ⟨hk, by show c.2.1 - 1 ≤ 4; omega, fun _ => if_pos ⟨hk, rfl⟩, fun i i0 i1 => ?_, fun i i0 i1 => ?_⟩)⟩
  · replace i1 : i < c.2.1 - 1 := i1
    show (0 ≤ (if c.1 = 2 ∧ i = 0 then 0 else if i < k then c.2.2.1 i else c.2.2.1 (i + 1)) ∧ (if c.1 = 2 ∧ i = 0 then 0 else if i < k then c.2.2.1 i else c.2.2.1 (i + 1)) < 32) ∧ 1 ≤ (if i < k then c.2.2.2 i else c.2.2.2 (i + 1)) ∧ (if i < k then c.2.2.2 i else c.2.2.2 (i + 1)) < 24
    have x1 := b6 i i0 (by omega)
    have x2 := b6 (i + 1) (by omega) (by omega)
    by_cases e : i < k
    · rw [if_pos e, if_pos e]
      refine ⟨?_, x1.2⟩
      split
      · decide
      · exact x1.1
    · rw [if_neg e, if_neg e]
      refine ⟨?_, x2.2⟩
      split
      · decide
      · exact x2.1
  · replace i1 : i + 1 < c.2.1 - 1 := i1
    show (if c.1 = 2 ∧ i = 0 then 0 else if i < k then c.2.2.1 i else c.2.2.1 (i + 1)) ≤ (if c.1 = 2 ∧ i + 1 = 0 then 0 else if i + 1 < k then c.2.2.1 (i + 1) else c.2.2.1 (i + 1 + 1))
    rw [if_neg (show ¬ (c.1 = 2 ∧ i + 1 = 0) by omega)]
    have x1 := (b6 (i + 1) (by omega) (by omega)).1.1
    have x2 := (b6 (i + 1 + 1) (by omega) (by omega)).1.1
    by_cases e : i = 0
    · rw [if_pos ⟨hk, e⟩]
      split
      · exact x1
      · exact x2
    · rw [if_neg (fun z => e z.2)]
      by_cases e1 : i + 1 < k
      · rw [if_pos (by omega), if_pos e1]; exact b7 i i0 (by omega)
      · rw [if_neg e1]
        by_cases e2 : i < k
        · rw [if_pos e2]; exact mono i (i + 1 + 1) i0 (by omega) (by omega)
        · rw [if_neg e2]; exact b7 (i + 1) (by omega) (by omega)
theorem jp_0_w : jp_w jp_0 := ⟨⟨Int.le_refl _, by decide⟩, Or.inl ⟨rfl, rfl⟩⟩
/-- the reference's page behind a child that went -/
theorem jgo_r {G : jg_G} {r k : Int} {c : jp_C} (hw : jp_w c) (hk : c.1 = 2) (h : jp_r G r c) (h0 : 0 ≤ k) (h1 : k < c.2.1) : ∃ G', jr_o G G' r ∧ (if k = 0 then (if fr_drops G r k 93 (67 * r + 2) ≤ 0 then G' = fr_drops G r k else G' = jg_u (jg_u (fr_drops G r k) 93 (67 * r + 3 + 2 * 0) 0) 93 (67 * r + 4 + 2 * 0) (fr_drops G r k 93 (67 * r + 4 + 2 * 0))) else G' = fr_drops G r k) ∧ jp_r G' r (jp_fg (jp_del c k)) := by
  obtain ⟨⟨b0, b1⟩, w⟩ := id hw
  obtain ⟨_, b4, b5, b6, b7⟩ := (w.resolve_left (fun z => by omega)).resolve_left (fun z => by omega)
  obtain ⟨d1, d2, _⟩ := jr_drops h h0 h1 b1
  by_cases e : k = 0
  · simp only [if_pos e]
    by_cases e2 : fr_drops G r k 93 (67 * r + 2) ≤ 0
    · simp only [if_pos e2]
      refine ⟨_, d1, rfl, d2.e ⟨rfl, rfl, fun i i0 i1 => ?_⟩⟩
      rw [d2.2.1] at e2
      omega
    · simp only [if_neg e2]
      rw [d2.2.1] at e2
      obtain ⟨l1, l2, _⟩ := jr_lays (x := 0) (y := fr_drops G r k 93 (67 * r + 4 + 2 * 0)) d2 (Int.le_refl 0) (by omega) (by show c.2.1 - 1 ≤ 32; omega)
      refine ⟨_, d1.trans l1, rfl, l2.e ⟨rfl, rfl, fun i i0 i1 => ⟨?_, ?_⟩⟩⟩
      · show (if i = 0 then 0 else (jp_del c k).2.2.1 i) = (if c.1 = 2 ∧ i = 0 then 0 else (jp_del c k).2.2.1 i)
        by_cases z : i = 0
        · rw [if_pos z, if_pos ⟨hk, z⟩]
        · rw [if_neg z, if_neg (fun y => z y.2)]
      · show (if i = 0 then _ else (jp_del c k).2.2.2 i) = (jp_del c k).2.2.2 i
        by_cases z : i = 0
        · rw [if_pos z, z]; exact (d2.2.2 0 (Int.le_refl 0) (by omega)).2
        · rw [if_neg z]
  · simp only [if_neg e]
    refine ⟨_, d1, rfl, d2.e ⟨rfl, rfl, fun i i0 i1 => ⟨?_, rfl⟩⟩⟩
    show (jp_del c k).2.2.1 i = (if c.1 = 2 ∧ i = 0 then 0 else (jp_del c k).2.2.1 i)
    by_cases z : i = 0
    · rw [if_pos ⟨hk, z⟩, z]
      show (if (0 : Int) < k then c.2.2.1 0 else c.2.2.1 (0 + 1)) = 0
      rw [if_pos (by omega)]
      exact b5 (by omega)
    · rw [if_neg (fun y => z y.2)]
