/-! THE LAW: the class is as the rows say -/
section Sm
variable {K : jc_K} {V G : jg_G} {N k : Nat} {W : jZW} {x z : Int}
theorem jpage0 (hs : jSt K G N k W) {p : Int} (hp : 0 ≤ p ∧ p < 24) : jy_ok (fc121 K p 0) = some (K, (jh G N p).1) := jy_inl (jpage hs hp).1
theorem jpage2 (hs : jSt K G N k W) {p : Int} (hp : 0 ≤ p ∧ p < 24) : jy_ok (fc121 K p 2) = some (K, (jh G N p).2.1) := jy_inl (jpage hs hp).2
/-- the leaf's entries looked through -/
theorem js151_239 (hs : jSt K G N k W) (hx : 0 ≤ x ∧ x < 32) {p : Int} (hp : 0 ≤ p ∧ p < 24) (hk : (jh G N p).1 = 1) (hv : jp_v (jh G N p) x = V 92 x) : ∀ (r : Nat) (i found : Int) (m : Nat), 0 ≤ i → i + r = (jh G N p).2.1 → r < m → ((found = -1 ∧ ∀ j, 0 ≤ j → j < i → (jh G N p).2.2.1 j ≠ x) ∨ ∃ j, 0 ≤ j ∧ j < i ∧ (jh G N p).2.2.1 j = x ∧ found = (jh G N p).2.2.2 j) → fl151_239 m K V z 1 x p found i = some ((K, V), 1) := by
  obtain ⟨s1, s2, s3, s4⟩ := hs.see hp
  obtain ⟨lo, hi, rk, hT⟩ := hs.T
  have un := jp_leaf hk
  intro r
  induction r with
  | zero =>
    intro i found m i0 ir hm hf
    obtain ⟨m, rfl⟩ : ∃ j, m = j + 1 := ⟨m - 1, by omega⟩
    have e : found = V 92 x := by
      rw [← hv]
      have sp := jh_pl_sp (c := jh G N p) x s4.1
      unfold jp_v
      rcases hf with ⟨f1, f2⟩ | ⟨j, j0, j1, j2, j3⟩
      · rw [if_neg (fun c => f2 _ sp.1.1 (by omega) c.2)]
        exact f1
      · obtain ⟨q1, q2, q3⟩ := jz_ne (g := fun z => jh G N z) hT hp hk sp j j0 (by show j < (jh G N p).2.1; omega) j2
        rw [if_pos ⟨q2, q3⟩, ← q1]
        exact j3
    unfold fl151_239
    rw [jpage2 hs hp, jo_bs]
    dsimp only
    rw [if_pos (by omega), if_neg (by decide), if_pos (by omega), if_pos e]
  | succ r ih =>
    intro i found m i0 ir hm hf
    obtain ⟨m, rfl⟩ : ∃ j, m = j + 1 := ⟨m - 1, by omega⟩
    have ic : i < (jh G N p).2.1 := by omega
    obtain ⟨c1, c2, c3, c4⟩ := jp_cellv s4 i0 ic
    rw [un] at c1 c2 c3 c4
    have e := jy_inl (jentry hs hp i0 ic)
    rw [un] at e
    unfold fl151_239
    rw [jpage2 hs hp, jo_bs]
    dsimp only
    rw [if_neg (by omega), if_neg (by decide), e, jo_bs]
    dsimp only
    rw [if_pos c1, c3]
    by_cases q : (jh G N p).2.2.1 i = x
    · rw [if_pos q, e, jo_bs]
      dsimp only
      rw [if_pos c1, if_pos (by have := s4.1.2; omega), c4]
      exact ih (i + 1) _ m (by omega) (by omega) (by omega) (Or.inr ⟨i, i0, by omega, q, rfl⟩)
    · rw [if_neg q, if_pos (by have := s4.1.2; omega)]
      refine ih (i + 1) found m (by omega) (by omega) (by omega) ?_
      rcases hf with ⟨f1, f2⟩ | ⟨j, j0, j1, j2⟩
      · refine Or.inl ⟨f1, fun j j0 j1 => ?_⟩
        by_cases ej : j = i
        · rw [ej]; exact q
        · exact f2 j j0 (by omega)
      · exact Or.inr ⟨j, j0, by omega, j2⟩
/-- the child that is gone to -/
theorem js151_171 (hs : jSt K G N k W) {p l8 : Int} (hp : 0 ≤ p ∧ p < 24) (hk : (jh G N p).1 = 2) (h8 : 0 ≤ l8 ∧ l8 < 100) : ∀ (r : Nat) (i kk : Int) (m : Nat), 0 < i → i + r = (jh G N p).2.1 → r < m → (0 ≤ kk ∧ kk < i) → (0 < kk → (jh G N p).2.2.1 kk ≤ x) → (∀ j, kk < j → j < i → x < (jh G N p).2.2.1 j) → ∃ k' m', jp_ci (jh G N p) x k' ∧ m ≤ m' + r + 1 ∧ fl151_s m 171 K V z 1 x p l8 ((jh G N p).2.2.2 kk) i = fl151_s m' 133 K V z 1 x ((jh G N p).2.2.2 k') (l8 + 1) 0 0 := by
  obtain ⟨s1, s2, s3, s4⟩ := hs.see hp
  have un := jp_inner hk
  intro r
  induction r with
  | zero =>
    intro i kk m i0 ir hm hkk h1 h2
    obtain ⟨m, rfl⟩ : ∃ j, m = j + 1 := ⟨m - 1, by omega⟩
    refine ⟨kk, m, ⟨by omega, h1, fun c => h2 (kk + 1) (by omega) (by omega)⟩, by omega, ?_⟩
    conv => lhs; unfold fl151_s
    rw [if_neg (by decide), if_pos rfl, jpage2 hs hp, jo_bs]
    dsimp only
    rw [if_pos (by omega), if_pos (by omega)]
  | succ r ih =>
    intro i kk m i0 ir hm hkk h1 h2
    obtain ⟨m, rfl⟩ : ∃ j, m = j + 1 := ⟨m - 1, by omega⟩
    have ic : i < (jh G N p).2.1 := by omega
    obtain ⟨c1, c2, c3, c4⟩ := jp_cellv s4 (by omega) ic
    rw [un] at c1 c2 c3 c4
    have e := jy_inl (jentry hs hp (by omega) ic)
    rw [un] at e
    have b32 := s4.1.2
    have st : fl151_s (m + 1) 171 K V z 1 x p l8 ((jh G N p).2.2.2 kk) i = if x < (jh G N p).2.2.1 i then fl151_s m 171 K V z 1 x p l8 ((jh G N p).2.2.2 kk) (i + 1) else fl151_s m 171 K V z 1 x p l8 ((jh G N p).2.2.2 i) (i + 1) := by
      conv => lhs; unfold fl151_s
      rw [if_neg (by decide), if_pos rfl, jpage2 hs hp, jo_bs]
      dsimp only
      rw [if_neg (by omega), e, jo_bs]
      dsimp only
      rw [if_pos c1, c3]
      by_cases q : x < (jh G N p).2.2.1 i
      · rw [if_pos q, if_pos q, if_pos (by omega)]
      · rw [if_neg q, if_neg q, e, jo_bs]
        dsimp only
        rw [if_pos c1, if_pos (by omega), c4]
    rw [st]
    by_cases q : x < (jh G N p).2.2.1 i
    · rw [if_pos q]
      obtain ⟨k', m', y1, y2, y3⟩ := ih (i + 1) kk m (by omega) (by omega) (by omega) (by omega) h1 (fun j j0 j1 => by
        by_cases ej : j = i
        · rw [ej]; exact q
        · exact h2 j j0 (by omega))
      exact ⟨k', m', y1, by omega, y3⟩
    · rw [if_neg q]
      obtain ⟨k', m', y1, y2, y3⟩ := ih (i + 1) i m (by omega) (by omega) (by omega) (by omega) (fun _ => by omega) (fun j j0 j1 => by omega)
      exact ⟨k', m', y1, by omega, y3⟩
/-- the way down -/
theorem js151_133 (hs : jSt K G N k W) (hx : 0 ≤ x ∧ x < 32) (hv : V 92 x = jzA G x N) : ∀ (e d : Nat) (P : Int → Int) (m : Nat), jWy (fun z => jh G N z) x P d → d + e = 24 → 8 * e + 8 < m → fl151_s m 133 K V z 1 x (P d) d 0 0 = some ((K, V), 1) := by
  obtain ⟨lo, hi, rk, hT⟩ := hs.T
  intro e
  induction e with
  | zero =>
    intro d P m h hd
    have := h.lt hT.1
    omega
  | succ e ih =>
    intro d P m h hd hm
    have d24 := h.lt hT.1
    have b := h.2.2.1 d (by omega) (Int.le_refl _)
    obtain ⟨s1, s2, s3, s4⟩ := hs.see b
    obtain ⟨m, rfl⟩ : ∃ j, m = j + 1 := ⟨m - 1, by omega⟩
    have k0 : (jh G N (P d)).1 ≠ 0 := h.2.2.2
    conv => lhs; unfold fl151_s
    rw [if_pos rfl, if_neg (by omega), if_neg (by decide), jpage0 hs b, jo_bs]
    dsimp only
    by_cases k1 : (jh G N (P d)).1 = 1
    · rw [if_neg (by omega)]
      have va := jWy.val hT hs.E hx h k1
      exact js151_239 hs hx b k1 (va.trans hv.symm) (jh G N (P d)).2.1.toNat 0 (-1) jo_N (by decide) (by have := s4.1.1; omega) (by have := s4.1.2; unfold jo_N; omega) (Or.inl ⟨rfl, fun j j0 j1 => by omega⟩)
    · have k2 : (jh G N (P d)).1 = 2 := by
        rcases s4.2 with w | w | w
        · exact absurd w.1 k0
        · exact absurd w.1 k1
        · exact w.1
      have c0 := hs.z.pos (P d) b.1 b.2 k2
      have c4' : (jh G N (P d)).2.1 ≤ 4 := by
        rcases s4.2 with w | w | w
        · exact absurd w.1 k0
        · exact absurd w.1 k1
        · exact w.2.1
      obtain ⟨c1, c2, c3, c4⟩ := jp_cellv s4 (Int.le_refl _) c0
      have un := jp_inner k2
      rw [un] at c1 c2 c3 c4
      have en := jy_inl (jentry hs b (Int.le_refl _) c0)
      rw [un] at en
      rw [if_pos k2, en, jo_bs]
      dsimp only
      rw [if_pos c1, c4]
      obtain ⟨k', m', y1, y2, y3⟩ := js151_171 (V := V) (x := x) (z := z) hs b k2 (l8 := d) ⟨by omega, by omega⟩ ((jh G N (P d)).2.1 - 1).toNat 1 0 m (by decide) (by omega) (by omega) (by decide) (fun c => by omega) (fun j j0 j1 => by omega)
      rw [y3]
      have := ih (d + 1) _ m' (h.next hT.1 k2 y1) (by omega) (by omega)
      rw [show ((d + 1 : Nat) : Int) = (d : Int) + 1 by omega, if_pos rfl] at this
      exact this
theorem js151_81 (hs : jSt K G N k W) (hR : jRl V G N) : ∀ (m : Nat) (l : Int), 0 ≤ l → l ≤ 4 → 4 < l + m → fl151_81 m K V z 1 l = some ((K, V), 1) := by
  obtain ⟨lo, hi, rk, hT⟩ := hs.T
  intro m
  induction m with
  | zero => intro l h0 h1 h2; omega
  | succ m ih =>
    intro l h0 h1 h2
    unfold fl151_81
    by_cases e : 4 ≤ l
    · have b := jl_low_b (v := z) (n := 32) (by decide)
      rw [if_pos e]
      unfold jo_l
      have q : ∀ m : Nat, 200 < m → fl151_s m 133 K V z 1 (jl_low z 32) 0 0 0 0 = some ((K, V), 1) := fun m hm => js151_133 hs b (hR.1 _ b.1 b.2).1 24 0 (fun _ => 0) m (jWy.root hT.1) (by decide) (by omega)
      exact q jo_N (by unfold jo_N; omega)
    · rw [if_neg e, if_neg (by decide), jy_inl (jwaits hs ⟨h0, by omega⟩), jo_bs]
      dsimp only
      rw [if_pos (by omega), if_pos (hR.2 l h0 (by omega)).1.1.symm, if_pos (by omega)]
      exact ih (l + 1) (by omega) (by omega) (by omega)
end Sm
theorem js151_24 {V G : jg_G} {N k : Nat} {W : jZW} {z : Int} (hR : jRl V G N) : ∀ (m : Nat) (l : Int) (K : jc_K), jSt K G N k W → 0 ≤ l → l ≤ 32 → 32 < l + m → ∃ K', fl151_24 m K V z 1 l = some ((K', V), 1) ∧ jSt K' G N k W := by
  intro m
  induction m with
  | zero => intro l K hs h0 h1 h2; omega
  | succ m ih =>
    intro l K hs h0 h1 h2
    unfold fl151_24
    by_cases e : 32 ≤ l
    · rw [if_pos e]
      exact ⟨K, js151_81 hs hR jo_N 0 (by decide) (by decide) (by decide), hs⟩
    · have hl : 0 ≤ l ∧ l < 32 := ⟨h0, by omega⟩
      obtain ⟨K1, a1, a2⟩ := jplain hs hl
      rw [if_neg e, if_neg (by decide), jy_inl (jholder hs hl), jo_bs]
      dsimp only
      rw [if_pos hl, if_pos (hR.1 l h0 hl.2).2.2.symm, jy_inl a1, jo_bs]
      dsimp only
      rw [if_pos (by omega), if_pos (hR.1 l h0 hl.2).2.1.symm, if_pos (by omega)]
      exact ih (l + 1) K1 a2 (by omega) (by omega) (by omega)
theorem jl151 {K : jc_K} {V G : jg_G} {N k : Nat} {W : jZW} (hs : jSt K G N k W) (hR : jRl V G N) (z : Int) : ∃ K', fl151 K V z = some ((K', V), 1) ∧ jSt K' G N k W := by
  obtain ⟨K1, a1, a2⟩ := jcheck hs
  obtain ⟨K2, b1, b2⟩ := jagrees a2
  obtain ⟨K3, c1, c2⟩ := js151_24 (z := z) hR jo_N 0 K2 b2 (by decide) (by decide) (by decide)
  refine ⟨K3, ?_, c2⟩
  unfold fl151
  rw [a1, jo_bs]
  dsimp only
  rw [if_pos rfl, b1, jo_bs]
  dsimp only
  rw [if_neg (by decide)]
  exact c1
