/-! WHOSE A NAME IS -/
def jo_w (K : jc_K) (i : Int) (n : Nat) : Prop := jc_p K 64 i ≠ 0 ∧ ((n = jc_p K 64 i ∨ n = jc_p K 64 i + 1 ∨ n = jc_p K 64 i + 2) ∨ (∃ k, 0 ≤ k ∧ k < 3 ∧ jc_p K (jc_p K 64 i + 2) k ≠ 0 ∧ (n = jc_p K (jc_p K 64 i + 2) k ∨ n = jc_p K (jc_p K 64 i + 2) k + 1)) ∨ (jc_p K (jc_p K 64 i) 11 ≠ 0 ∧ n = jc_p K (jc_p K 64 i) 11) ∨ (jc_p K (jc_p K 64 i) 12 ≠ 0 ∧ n = jc_p K (jc_p K 64 i) 12))
/-- what each name of a record is -/
theorem jo_w.sh {K : jc_K} {τ : Nat → Int} {i : Int} {n : Nat} (h : jo_w K i n) (hd : jD_i K τ i (jc_p K 64 i)) : (98 ≤ n ∧ n < K.1.1) ∧ ((K.2.1 n = (3, 0) ∧ n = jc_p K 64 i ∧ τ n = i) ∨ (K.2.1 n = (100, 3) ∧ n = jc_p K 64 i + 1) ∨ (K.2.1 n = (103, 3) ∧ n = jc_p K 64 i + 2) ∨ (K.2.1 n = (4, 0) ∧ τ n = i) ∨ (K.2.1 n = (100, 32) ∧ 1 ≤ n ∧ τ (n - 1) = i) ∨ (K.2.1 n = (100, 4) ∧ τ n = i) ∨ (K.2.1 n = (100, 24) ∧ τ n = i)) := by
  obtain ⟨⟨⟨⟨a1, a2⟩, ⟨a3, a4, a5⟩, a6⟩, at'⟩, b, _, c, d⟩ := hd
  obtain ⟨h0, h⟩ := h
  rcases h with (e | e | e) | ⟨k, k0, k1, k2, e⟩ | ⟨k2, e⟩ | ⟨k2, e⟩
  · rw [e]; exact ⟨⟨a1, by omega⟩, Or.inl ⟨a3, rfl, at'⟩⟩
  · rw [e]; exact ⟨⟨by omega, by omega⟩, Or.inr (Or.inl ⟨a4, rfl⟩)⟩
  · rw [e]; exact ⟨⟨by omega, by omega⟩, Or.inr (Or.inr (Or.inl ⟨a5, rfl⟩))⟩
  · obtain ⟨b1, ⟨⟨_, b2⟩, ⟨b3, b4⟩, _⟩, b5⟩ := (b k k0 k1).resolve_left k2
    rcases e with e | e
    · rw [e]; exact ⟨⟨b1, by omega⟩, Or.inr (Or.inr (Or.inr (Or.inl ⟨b3, b5⟩)))⟩
    · rw [e]; exact ⟨⟨by omega, by omega⟩, Or.inr (Or.inr (Or.inr (Or.inr (Or.inl ⟨b4, by omega, by rw [show jc_p K (jc_p K 64 i + 2) k + 1 - 1 = jc_p K (jc_p K 64 i + 2) k by omega]; exact b5⟩))))⟩
  · obtain ⟨⟨b1, b2, b3⟩, b4⟩ := c.resolve_left k2
    rw [e]; exact ⟨⟨b1, b2⟩, Or.inr (Or.inr (Or.inr (Or.inr (Or.inr (Or.inl ⟨b3, b4⟩)))))⟩
  · obtain ⟨⟨b1, b2, b3⟩, b4⟩ := d.resolve_left k2
    rw [e]; exact ⟨⟨b1, b2⟩, Or.inr (Or.inr (Or.inr (Or.inr (Or.inr (Or.inr ⟨b3, b4⟩)))))⟩
theorem jD.own {K : jc_K} (hD : jD K) {i i' : Int} (hi : 0 ≤ i ∧ i < 1100) (hi' : 0 ≤ i' ∧ i' < 1100) (hne : i ≠ i') {n : Nat} (h : jo_w K i n) (h' : jo_w K i' n) : False := by
  obtain ⟨_, ⟨τ, d⟩, _⟩ := hD
  have di := (d i hi.1 hi.2).resolve_left h.1
  have di' := (d i' hi'.1 hi'.2).resolve_left h'.1
  obtain ⟨_, s⟩ := h.sh di
  obtain ⟨_, s'⟩ := h'.sh di'
  have ti := di.1.2
  have ti' := di'.1.2
  rcases s with ⟨s, e, t⟩ | ⟨s, e⟩ | ⟨s, e⟩ | ⟨s, t⟩ | ⟨s, _, t⟩ | ⟨s, t⟩ | ⟨s, t⟩ <;> rcases s' with ⟨s', e', t'⟩ | ⟨s', e'⟩ | ⟨s', e'⟩ | ⟨s', t'⟩ | ⟨s', _, t'⟩ | ⟨s', t'⟩ | ⟨s', t'⟩ <;> (first | (rw [s] at s'; exact absurd s' (by decide)) | exact hne (t.symm.trans t') | (rw [show jc_p K 64 i = jc_p K 64 i' by omega] at ti; exact hne (ti.symm.trans ti')))
theorem jD.own_b {K : jc_K} (hD : jD K) {i : Int} (hi : 0 ≤ i ∧ i < 1100) {n : Nat} (h : jo_w K i n) : 98 ≤ n ∧ n < K.1.1 := by
  obtain ⟨_, ⟨τ, d⟩, _⟩ := hD
  exact (h.sh ((d i hi.1 hi.2).resolve_left h.1)).1
/-- a record stays while its own things stay -/
theorem jg_rec.g {K K' : jc_K} {G G' : jg_G} {r i : Int} {S : Nat → Prop} (h : jg_rec K G r (jc_p K 64 i)) (s : jk_g S K K') (hb : ∀ n, jo_w K i n → n < K.1.1 ∧ ¬ S n) (hl : jl_a G G' r) (h1 : 1 ≤ r) (hm : G 105 r ≤ 3) : jg_rec K' G' r (jc_p K 64 i) := by
  obtain ⟨a, ⟨b0, b1, b2, b3, b6, b7, b8⟩, c, d, e, f, g⟩ := h
  have hq := a.1.1
  have hq0 : jc_p K 64 i ≠ 0 := by omega
  have o0 := hb _ ⟨hq0, Or.inl (Or.inl rfl)⟩
  have o1 := hb _ ⟨hq0, Or.inl (Or.inr (Or.inl rfl))⟩
  have o2 := hb _ ⟨hq0, Or.inl (Or.inr (Or.inr rfl))⟩
  generalize hQ : jc_p K 64 i = q at *
  have oi : ∀ k, 0 ≤ k → k < 3 → jc_p K (q + 2) k ≠ 0 → (jc_p K (q + 2) k < K.1.1 ∧ ¬ S (jc_p K (q + 2) k)) ∧ (jc_p K (q + 2) k + 1 < K.1.1 ∧ ¬ S (jc_p K (q + 2) k + 1)) := fun k k0 k1 k2 => ⟨hb _ ⟨by rw [hQ]; exact hq0, Or.inr (Or.inl ⟨k, k0, k1, by rw [hQ]; exact k2, Or.inl (by rw [hQ])⟩)⟩, hb _ ⟨by rw [hQ]; exact hq0, Or.inr (Or.inl ⟨k, k0, k1, by rw [hQ]; exact k2, Or.inr (by rw [hQ])⟩)⟩⟩
  have l : ∀ m, 98 ≤ m → m ≤ 105 → G' m r = G m r := fun m x y => hl.l ⟨x, y⟩ h1 (Int.le_refl _)
  have i0 : ∀ j, jc_i K' q j = jc_i K q j := fun j => s.2.2.2 q j o0.1 o0.2
  refine ⟨s.rc a o0.2, ?_, ?_, ?_, fun k k0 k1 => ?_, fun h5 k k0 k1 => ?_, fun h4 => ?_⟩
  · rw [i0, i0, i0, i0, i0, i0, i0, l 98 (by decide) (by decide), l 99 (by decide) (by decide), l 101 (by decide) (by decide), l 100 (by decide) (by decide), l 104 (by decide) (by decide), l 105 (by decide) (by decide)]
    exact ⟨b0, b1, b2, b3, b6, b7, b8⟩
  · rw [l 98 (by decide) (by decide), l 103 (by decide) (by decide), i0]; exact c
  · rw [l 98 (by decide) (by decide), l 102 (by decide) (by decide), i0]; exact d
  · rw [l 105 (by decide) (by decide)] at k1
    rw [s.2.2.2 _ _ o1.1 o1.2, hl.c h1 (Int.le_refl _) k0 (by omega)]
    exact e k k0 k1
  · rw [l 98 (by decide) (by decide)] at h5
    rw [l 105 (by decide) (by decide)] at k1
    have := f h5 k k0 k1
    rw [s.2.2.1 _ _ o2.1 o2.2, jh_row_e (fun j x y => hl 93 j (by omega))]
    obtain ⟨w0, w1⟩ := oi k k0 (by omega) (by have := this.1; omega)
    exact ⟨this.1, s.k this.2 w0.2 w1.2⟩
  · rw [l 98 (by decide) (by decide)] at h4
    obtain ⟨⟨t1, t2⟩, t3, t4⟩ := g h4
    have o3 := hb (jc_p K q 11) ⟨by rw [hQ]; exact hq0, Or.inr (Or.inr (Or.inl ⟨by rw [hQ]; have := t1.1; omega, by rw [hQ]⟩))⟩
    have o4 := hb (jc_p K q 12) ⟨by rw [hQ]; exact hq0, Or.inr (Or.inr (Or.inr ⟨by rw [hQ]; have := t3.1; omega, by rw [hQ]⟩))⟩
    refine ⟨⟨by rw [s.2.2.1 _ _ o0.1 o0.2]; exact s.ta t1, fun t x y => ?_⟩, by rw [s.2.2.1 _ _ o0.1 o0.2]; exact s.ta t3, fun p x y => ?_⟩
    · rw [s.2.2.1 _ _ o0.1 o0.2, s.2.2.2 _ _ o3.1 o3.2, hl 93 _ (by omega)]; exact t2 t x y
    · rw [s.2.2.1 _ _ o0.1 o0.2, s.2.2.2 _ _ o4.1 o4.2, hl 93 _ (by omega)]; exact t4 p x y
