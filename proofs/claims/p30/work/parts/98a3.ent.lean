/-! WHAT THE LEAVES HOLD, through each change of the tree; that they lie alike deep -/
theorem jsum_lt {f g : Int → Nat} {j : Nat} : ∀ n : Nat, (∀ i : Nat, i < n → f i ≤ g i) → j < n → f j < g j → jsum f n < jsum g n
  | 0, _, h, _ => absurd h (Nat.not_lt_zero _)
  | n + 1, h, h1, h2 => by
    unfold jsum
    have hn := h n (by omega)
    by_cases e : j = n
    · subst e
      have := jsum_le (f := f) (g := g) j (fun i hi => h i (by omega))
      omega
    · have := jsum_lt (f := f) (g := g) n (fun i hi => h i (by omega)) (by omega) h2
      omega
/-- what goes up from child to parent comes to the root -/
theorem jT_up {g : Int → jp_C} {lo hi rk : Int → Int} (hT : jT g lo hi rk) {Q : Int → Prop} (step : ∀ q i, jT_i g q i → Q (jT_c g q i) → Q q) : ∀ (m : Nat) (p : Int), 0 ≤ p → p < 24 → (g p).1 ≠ 0 → jsum (fun z => if rk p < rk z then 1 else 0) 24 ≤ m → Q p → Q 0
  | m, p, p0, p1, pk, hm, hQ => by
    by_cases e : p = 0
    · rw [← e]; exact hQ
    · obtain ⟨q, i, hi, hc⟩ := hT.2.2.2.2.1 p (by omega) p1 pk
      have hr := (hT.2.2.1 q i hi).2.1
      rw [hc] at hr
      have hq := step q i hi (by rw [hc]; exact hQ)
      obtain ⟨⟨q0, q1⟩, q2, q3, q4⟩ := id hi
      have eq : ((q.toNat : Nat) : Int) = q := by omega
      have lt := jsum_lt (f := fun z => if rk q < rk z then 1 else 0) (g := fun z => if rk p < rk z then 1 else 0) (j := q.toNat) 24 (fun i _ => by
        show (if rk q < rk i then 1 else 0) ≤ if rk p < rk i then 1 else 0
        split
        · rw [if_pos (by omega)]; exact Nat.le_refl _
        · exact Nat.zero_le _) (by omega) (by
        show (if rk q < rk ((q.toNat : Nat) : Int) then 1 else 0) < if rk p < rk ((q.toNat : Nat) : Int) then 1 else 0
        rw [eq, if_neg (by omega), if_pos hr]
        exact Nat.one_pos)
      cases m with
      | zero => omega
      | succ m => exact jT_up hT step m q q0 q1 (by omega) (by omega) hq
/-- a key stands in no other leaf than the one that is found for it -/
theorem jz_at {g : Int → jp_C} {lo hi rk : Int → Int} {x : Int} {P : Int → Int} {L : Nat} (hT : jTs g lo hi rk) (hP0 : P 0 = 0) (hP : ∀ j : Int, 0 ≤ j → j < L → (g (P j)).1 = 2 ∧ ∃ k, jp_ci (g (P j)) x k ∧ (g (P j)).2.2.2 k = P (j + 1)) (hl : (g (P L)).1 = 1) {p i : Int} (p0 : 0 ≤ p) (p1 : p < 24) (pk : (g p).1 = 1) (i0 : 0 ≤ i) (i1 : i < (g p).2.1) (hx : (g p).2.2.1 i = x) : p = P L := by
  obtain ⟨h, hs, hs2⟩ := id hT
  have key := jT_up h (Q := fun q => (lo q ≤ x ∧ x < hi q) ∧ ∀ (m : Nat) (R : Int → Int), R 0 = q → (∀ j : Int, 0 ≤ j → j < m → (g (R j)).1 = 2 ∧ ∃ k, jp_ci (g (R j)) x k ∧ (g (R j)).2.2.2 k = R (j + 1)) → (g (R m)).1 = 1 → R m = p) (fun q i' hi' hQ => by
    obtain ⟨⟨b1, b2⟩, hR⟩ := hQ
    obtain ⟨c1, c2, c3, c4⟩ := h.2.2.1 q i' hi'
    obtain ⟨⟨q0, q1⟩, q2, q3, q4⟩ := id hi'
    have hlo : 0 < i' → (g q).2.2.1 i' ≤ x ∧ lo q ≤ x := fun z => by
      rw [if_neg (by omega)] at c3
      have := (h.2.2.2.2.2 q i' q0 q1 (by omega) q3 q4 (Or.inr z)).1
      omega
    have hhi : i' + 1 < (g q).2.1 → x < (g q).2.2.1 (i' + 1) ∧ x < hi q := fun z => by
      rw [if_neg (by omega)] at c4
      have := hs q (i' + 1) q0 q1 (by omega) (by omega) z (Or.inr (by omega))
      omega
    have ci : jp_ci (g q) x i' := ⟨⟨q3, q4⟩, fun z => (hlo z).1, fun z => (hhi z).1⟩
    refine ⟨⟨?_, ?_⟩, fun m R R0 R1 R2 => ?_⟩
    · by_cases z : i' = 0
      · rw [if_pos z] at c3; omega
      · exact (hlo (by omega)).2
    · by_cases z : i' + 1 = (g q).2.1
      · rw [if_pos z] at c4; omega
      · exact (hhi (by omega)).2
    · cases m with
      | zero =>
        rw [show ((0 : Nat) : Int) = 0 from rfl, R0] at R2
        omega
      | succ m =>
        obtain ⟨d1, k, d2, d3⟩ := R1 0 (by omega) (by omega)
        rw [R0] at d2 d3
        have ek := jp_ci_u (h.1 q q0 q1) q2 d2 ci
        have := hR m (fun j => R (j + 1)) (by
          show R (0 + 1) = jT_c g q i'
          rw [← d3, ek]) (fun j j0 j1 => R1 (j + 1) (by omega) (by omega)) (by
          show (g (R ((m : Int) + 1))).1 = 1
          rw [show (m : Int) + 1 = ((m + 1 : Nat) : Int) by omega]
          exact R2)
        rw [show (((m + 1 : Nat) : Nat) : Int) = (m : Int) + 1 by omega]
        exact this) 24 p p0 p1 (by omega) (by
      have e := jsum_le (f := fun z => if rk p < rk z then 1 else 0) (g := fun _ => 1) 24 (fun i _ => by
        show (if rk p < rk i then 1 else 0) ≤ 1
        split <;> omega)
      have e2 : jsum (fun _ => 1) 24 = 24 := by decide
      omega) ⟨⟨by
      rw [← hx]
      exact (h.2.2.2.2.2 p i p0 p1 (by omega) i0 i1 (Or.inl pk)).1, by
      rw [← hx]
      exact hs p i p0 p1 (by omega) i0 i1 (Or.inl pk)⟩, fun m R R0 R1 R2 => by
      cases m with
      | zero => exact R0
      | succ m =>
        obtain ⟨d1, -⟩ := R1 0 (by omega) (by omega)
        rw [R0] at d1
        omega⟩
  exact (key.2 L P hP0 hP hl).symm
section Lf
variable {g g' : Int → jp_C} {lo hi rk : Int → Int} {A : Int → Int} {x : Int} {P : Int → Int} {L : Nat}
theorem jz_ne (hT : jTs g lo hi rk) {p : Int} (hp : 0 ≤ p ∧ p < 24) (hk : (g p).1 = 1) {k : Int} (h : jp_pl (g p) x k) : ∀ i, 0 ≤ i → i < (g p).2.1 → (g p).2.2.1 i = x → i = k ∧ k < (g p).2.1 ∧ (g p).2.2.1 k = x := fun i i0 i1 e => by
  obtain ⟨⟨k0, k1⟩, h1, h2⟩ := h
  by_cases a : i < k
  · have := h1 i i0 a
    omega
  · have kc : k < (g p).2.1 := by omega
    have h2 := h2 kc
    by_cases b : i = k
    · exact ⟨b, kc, by rw [← b]; exact e⟩
    · have := hT.rise (p := p) (i := k) (j := i) hp (by omega) (Or.inl hk) k0 (by omega) i1
      omega
theorem jz_val (hT : jTs g lo hi rk) (hE : jzE g A) (hx : 0 ≤ x ∧ x < 32) (hP0 : P 0 = 0) (hP : ∀ j : Int, 0 ≤ j → j < L → (g (P j)).1 = 2 ∧ ∃ k, jp_ci (g (P j)) x k ∧ (g (P j)).2.2.2 k = P (j + 1)) (hPb : 0 ≤ P L ∧ P L < 24) (hl : (g (P L)).1 = 1) : jp_v (g (P L)) x = A x := by
  have hw := hT.1.1 (P L) hPb.1 hPb.2
  have pl := jh_pl_sp (c := g (P L)) x hw.1
  unfold jp_v
  by_cases c : jh_pl (g (P L)) x < (g (P L)).2.1 ∧ (g (P L)).2.2.1 (jh_pl (g (P L)) x) = x
  · rw [if_pos c]
    have := hE.1 (P L) _ hPb.1 hPb.2 hl pl.1.1 c.1
    rw [c.2] at this
    exact this.symm
  · rw [if_neg c]
    refine Decidable.byContradiction fun z => ?_
    obtain ⟨p, i, p0, p1, pk, i0, i1, e⟩ := hE.2 x hx.1 hx.2 (fun y => z y.symm)
    have ep := jz_at hT hP0 hP hl p0 p1 pk i0 i1 e
    rw [ep] at i1 e
    exact c (jz_ne hT hPb hl pl i i0 i1 e).2
theorem jzE.chg (hT : jTs g lo hi rk) (hE : jzE g A) (hx : 0 ≤ x ∧ x < 32) (hP0 : P 0 = 0) (hP : ∀ j : Int, 0 ≤ j → j < L → (g (P j)).1 = 2 ∧ ∃ k, jp_ci (g (P j)) x k ∧ (g (P j)).2.2.2 k = P (j + 1)) (hPb : 0 ≤ P L ∧ P L < 24) (hl : (g (P L)).1 = 1) {v : Int} (ho : ∀ z, z ≠ P L → g' z = g z) (hc : g' (P L) = jp_chg (g (P L)) x v (jh_pl (g (P L)) x)) : jzE g' (fun y => if y = x then v else A y) := by
  have hw := hT.1.1 (P L) hPb.1 hPb.2
  have pl := jh_pl_sp (c := g (P L)) x hw.1
  have ne := fun i i0 i1 e => jz_ne hT hPb hl pl i i0 i1 e
  have hE1 := hE.1 (P L)
  generalize jh_pl (g (P L)) x = k at hc pl ne
  have k1 : (g' (P L)).1 = 1 := by rw [hc, jp_chg_k]; exact hl
  obtain ⟨⟨k0, kc⟩, pl1, pl2⟩ := pl
  refine ⟨fun p i p0 p1 pk i0 i1 => ?_, fun y y0 y1 hy => ?_⟩
  · by_cases ep : p = P L
    · rw [ep] at i1 ⊢
      rw [hc] at i1 ⊢
      have old : ∀ j, 0 ≤ j → j < (g (P L)).2.1 → (g (P L)).2.2.1 j ≠ x → (if (g (P L)).2.2.1 j = x then v else A ((g (P L)).2.2.1 j)) = (g (P L)).2.2.2 j := fun j j0 j1 hj => by
        rw [if_neg hj]
        exact hE1 j hPb.1 hPb.2 hl j0 j1
      unfold jp_chg at i1 ⊢
      by_cases f : k < (g (P L)).2.1 ∧ (g (P L)).2.2.1 k = x
      · rw [if_pos f] at i1 ⊢
        have ne2 : ∀ j, 0 ≤ j → j < (g (P L)).2.1 → j ≠ k → (g (P L)).2.2.1 j ≠ x := fun j j0 j1 hj z => hj (ne j j0 j1 z).1
        by_cases hv : v = -1
        · rw [if_pos hv] at i1 ⊢
          unfold jp_del at i1 ⊢
          dsimp only at i1 ⊢
          by_cases c : i < k
          · rw [if_pos c, if_pos c]
            exact old i i0 (by omega) (ne2 i i0 (by omega) (by omega))
          · rw [if_neg c, if_neg c]
            exact old (i + 1) (by omega) (by omega) (ne2 (i + 1) (by omega) (by omega) (by omega))
        · rw [if_neg hv] at i1 ⊢
          unfold jp_set at i1 ⊢
          dsimp only at i1 ⊢
          by_cases c : i = k
          · rw [if_pos c, c, if_pos f.2]
          · rw [if_neg c]
            exact old i i0 i1 (ne2 i i0 i1 c)
      · rw [if_neg f] at i1 ⊢
        have ne2 : ∀ j, 0 ≤ j → j < (g (P L)).2.1 → (g (P L)).2.2.1 j ≠ x := fun j j0 j1 z => f (ne j j0 j1 z).2
        by_cases hv : v = -1
        · rw [if_pos hv] at i1 ⊢
          exact old i i0 i1 (ne2 i i0 i1)
        · rw [if_neg hv] at i1 ⊢
          unfold jp_ins at i1 ⊢
          dsimp only at i1 ⊢
          by_cases c : i < k
          · rw [if_pos c, if_pos c]
            exact old i i0 (by omega) (ne2 i i0 (by omega))
          · rw [if_neg c, if_neg c]
            by_cases c2 : i = k
            · rw [if_pos c2, if_pos c2, if_pos rfl]
            · rw [if_neg c2, if_neg c2]
              exact old (i - 1) (by omega) (by omega) (ne2 (i - 1) (by omega) (by omega))
    · rw [ho p ep] at pk i1 ⊢
      dsimp only
      rw [if_neg (fun z => ep (jz_at hT hP0 hP hl p0 p1 pk i0 i1 z))]
      exact hE.1 p i p0 p1 pk i0 i1
  · have hy : (if y = x then v else A y) ≠ -1 := hy
    by_cases e : y = x
    · rw [if_pos e] at hy
      have : ∃ i, 0 ≤ i ∧ i < (g' (P L)).2.1 ∧ (g' (P L)).2.2.1 i = y := by
        rw [hc]
        unfold jp_chg
        by_cases f : k < (g (P L)).2.1 ∧ (g (P L)).2.2.1 k = x
        · rw [if_pos f, if_neg hy]
          exact ⟨k, k0, f.1, by rw [e]; exact f.2⟩
        · rw [if_neg f, if_neg hy]
          refine ⟨k, k0, by show k < (g (P L)).2.1 + 1; omega, ?_⟩
          show (if k < k then _ else if k = k then x else _) = y
          rw [if_neg (by omega), if_pos rfl, e]
      obtain ⟨i, i0, i1, i2⟩ := this
      exact ⟨P L, i, hPb.1, hPb.2, k1, i0, i1, i2⟩
    · rw [if_neg e] at hy
      obtain ⟨p, i, p0, p1, pk, i0, i1, h⟩ := hE.2 y y0 y1 hy
      by_cases ep : p = P L
      · rw [ep] at i1 h
        have : ∃ i, 0 ≤ i ∧ i < (g' (P L)).2.1 ∧ (g' (P L)).2.2.1 i = y := by
          rw [hc]
          unfold jp_chg
          by_cases f : k < (g (P L)).2.1 ∧ (g (P L)).2.2.1 k = x
          · rw [if_pos f]
            have ik : i ≠ k := fun z => e (by rw [← h, z]; exact f.2)
            by_cases hv : v = -1
            · rw [if_pos hv]
              by_cases c : i < k
              · refine ⟨i, i0, by show i < (g (P L)).2.1 - 1; omega, ?_⟩
                show (if i < k then _ else _) = y
                rw [if_pos c]; exact h
              · refine ⟨i - 1, by omega, by show i - 1 < (g (P L)).2.1 - 1; omega, ?_⟩
                show (if i - 1 < k then _ else _) = y
                rw [if_neg (by omega), show i - 1 + 1 = i by omega]; exact h
            · rw [if_neg hv]
              exact ⟨i, i0, i1, h⟩
          · rw [if_neg f]
            by_cases hv : v = -1
            · rw [if_pos hv]
              exact ⟨i, i0, i1, h⟩
            · rw [if_neg hv]
              by_cases c : i < k
              · refine ⟨i, i0, by show i < (g (P L)).2.1 + 1; omega, ?_⟩
                show (if i < k then _ else _) = y
                rw [if_pos c]; exact h
              · refine ⟨i + 1, by omega, by show i + 1 < (g (P L)).2.1 + 1; omega, ?_⟩
                show (if i + 1 < k then _ else if i + 1 = k then _ else _) = y
                rw [if_neg (by omega), if_neg (by omega), show i + 1 - 1 = i by omega]; exact h
        obtain ⟨i, i0, i1, i2⟩ := this
        exact ⟨P L, i, hPb.1, hPb.2, k1, i0, i1, i2⟩
      · refine ⟨p, i, p0, p1, ?_, i0, ?_, ?_⟩ <;> rw [ho p ep]
        · exact pk
        · exact i1
        · exact h
/-- leaves with the same entries, elsewhere -/
theorem jzE.of (h : jzE g A) (a : ∀ p i, 0 ≤ p → p < 24 → (g' p).1 = 1 → 0 ≤ i → i < (g' p).2.1 → ∃ q j, (0 ≤ q ∧ q < 24 ∧ (g q).1 = 1 ∧ 0 ≤ j ∧ j < (g q).2.1) ∧ (g' p).2.2.1 i = (g q).2.2.1 j ∧ (g' p).2.2.2 i = (g q).2.2.2 j) (b : ∀ p i, 0 ≤ p → p < 24 → (g p).1 = 1 → 0 ≤ i → i < (g p).2.1 → ∃ q j, (0 ≤ q ∧ q < 24 ∧ (g' q).1 = 1 ∧ 0 ≤ j ∧ j < (g' q).2.1) ∧ (g' q).2.2.1 j = (g p).2.2.1 i) : jzE g' A := by
  refine ⟨fun p i p0 p1 pk i0 i1 => ?_, fun x x0 x1 hx => ?_⟩
  · obtain ⟨q, j, ⟨a1, a2, a3, a4, a5⟩, a6, a7⟩ := a p i p0 p1 pk i0 i1
    rw [a6, a7]
    exact h.1 q j a1 a2 a3 a4 a5
  · obtain ⟨p, i, p0, p1, pk, i0, i1, e⟩ := h.2 x x0 x1 hx
    obtain ⟨q, j, ⟨a1, a2, a3, a4, a5⟩, a6⟩ := b p i p0 p1 pk i0 i1
    exact ⟨q, j, a1, a2, a3, a4, a5, a6.trans e⟩
theorem jzE.go (h : jzE g A) {p up k : Int} (hb : (g p).2.1 = 0) (hu : (g up).1 = 2) (hg : ∀ z, g' z = if z = p then jp_0 else if z = up then jp_fg (jp_del (g up) k) else g z) : jzE g' A := by
  refine h.of (fun q i q0 q1 qk i0 i1 => ?_) (fun q i q0 q1 qk i0 i1 => ?_)
  · rw [hg q] at qk i1 ⊢
    by_cases e : q = p
    · rw [if_pos e] at qk; exact absurd qk (by show ¬ (0 : Int) = 1; decide)
    · rw [if_neg e] at qk i1 ⊢
      by_cases e2 : q = up
      · rw [if_pos e2] at qk
        exact absurd (show (g up).1 = 1 from qk) (by omega)
      · rw [if_neg e2] at qk i1 ⊢
        exact ⟨q, i, ⟨q0, q1, qk, i0, i1⟩, rfl, rfl⟩
  · have e : q ≠ p := fun z => by rw [z] at i1; omega
    have e2 : q ≠ up := fun z => by rw [z] at qk; omega
    refine ⟨q, i, ⟨q0, q1, ?_, i0, ?_⟩, ?_⟩ <;> rw [hg q, if_neg e, if_neg e2]
    · exact qk
    · exact i1
theorem jzE.to (h : jzE g A) {c : Int} (hc : 1 ≤ c ∧ c < 24) (h2 : (g 0).1 = 2) (hg : ∀ z, g' z = if z = c then jp_0 else if z = 0 then g c else g z) : jzE g' A := by
  refine h.of (fun q i q0 q1 qk i0 i1 => ?_) (fun q i q0 q1 qk i0 i1 => ?_)
  · rw [hg q] at qk i1 ⊢
    by_cases e : q = c
    · rw [if_pos e] at qk; exact absurd qk (by show ¬ (0 : Int) = 1; decide)
    · rw [if_neg e] at qk i1 ⊢
      by_cases e2 : q = 0
      · rw [if_pos e2] at qk i1 ⊢
        exact ⟨c, i, ⟨by omega, hc.2, qk, i0, i1⟩, rfl, rfl⟩
      · rw [if_neg e2] at qk i1 ⊢
        exact ⟨q, i, ⟨q0, q1, qk, i0, i1⟩, rfl, rfl⟩
  · by_cases e : q = c
    · rw [e] at qk i1
      refine ⟨0, i, ⟨by decide, by decide, ?_, i0, ?_⟩, ?_⟩ <;> rw [hg 0, if_neg (show ¬ (0 : Int) = c by omega), if_pos rfl]
      · exact qk
      · exact i1
      · rw [e]
    · have e2 : q ≠ 0 := fun z => by rw [z] at qk; omega
      refine ⟨q, i, ⟨q0, q1, ?_, i0, ?_⟩, ?_⟩ <;> rw [hg q, if_neg e, if_neg e2]
      · exact qk
      · exact i1
/-- a page's leaf entries in two parts -/
theorem jzE.two (h : jzE g A) {p a b H : Int} {r : jp_C} (hp : 0 ≤ p ∧ p < 24) (ha : 0 ≤ a ∧ a < 24) (hb : 0 ≤ b ∧ b < 24) (hab : a ≠ b) (fa : a = p ∨ (g a).1 ≠ 1) (fb : (g b).1 ≠ 1) (hH : 0 ≤ H ∧ H ≤ (g p).2.1) {u : Int} (hu : u ≠ a ∧ u ≠ b) (up : u = p ∨ (g u).1 = 2) (pu : p = a ∨ p = u) (hr : r.1 = 2) (hga : g' a = jp_part (g p) 0 H) (hgb : g' b = jp_part (g p) H (g p).2.1) (hgu : g' u = r) (ho : ∀ z, z ≠ a → z ≠ b → z ≠ u → g' z = g z) : jzE g' A := by
  refine h.of (fun q i q0 q1 qk i0 i1 => ?_) (fun q i q0 q1 qk i0 i1 => ?_)
  · by_cases ea : q = a
    · rw [ea, hga] at qk i1 ⊢
      have qk : (g p).1 = 1 := qk
      have i1 : i < H - 0 := i1
      refine ⟨p, i + 0, ⟨hp.1, hp.2, qk, by omega, by omega⟩, ?_, rfl⟩
      show (if (g p).1 = 2 ∧ i = 0 then _ else _) = _
      rw [if_neg (by omega)]
    · by_cases eb : q = b
      · rw [eb, hgb] at qk i1 ⊢
        have qk : (g p).1 = 1 := qk
        have i1 : i < (g p).2.1 - H := i1
        refine ⟨p, i + H, ⟨hp.1, hp.2, qk, by omega, by omega⟩, ?_, rfl⟩
        show (if (g p).1 = 2 ∧ i = 0 then _ else _) = _
        rw [if_neg (by omega)]
      · by_cases eu : q = u
        · rw [eu, hgu] at qk; omega
        · rw [ho q ea eb eu] at qk i1 ⊢
          exact ⟨q, i, ⟨q0, q1, qk, i0, i1⟩, rfl, rfl⟩
  · by_cases ep : q = p
    · rw [ep] at qk i1 ⊢
      by_cases c : i < H
      · refine ⟨a, i, ⟨ha.1, ha.2, ?_, i0, ?_⟩, ?_⟩ <;> rw [hga]
        · exact qk
        · show i < H - 0; omega
        · show (if (g p).1 = 2 ∧ i = 0 then _ else (g p).2.2.1 (i + 0)) = _
          rw [if_neg (by omega), Int.add_zero]
      · refine ⟨b, i - H, ⟨hb.1, hb.2, ?_, by omega, ?_⟩, ?_⟩ <;> rw [hgb]
        · exact qk
        · show i - H < (g p).2.1 - H; omega
        · show (if (g p).1 = 2 ∧ i - H = 0 then _ else (g p).2.2.1 (i - H + H)) = _
          rw [if_neg (by omega), show i - H + H = i by omega]
    · have ea : q ≠ a := fun z => by
        rcases fa with f | f
        · exact ep (z.trans f)
        · rw [z] at qk; exact f qk
      have eb : q ≠ b := fun z => by rw [z] at qk; exact fb qk
      have eu : q ≠ u := fun z => by
        rcases up with f | f
        · exact ep (z.trans f)
        · rw [z] at qk; omega
      refine ⟨q, i, ⟨q0, q1, ?_, i0, ?_⟩, ?_⟩ <;> rw [ho q ea eb eu]
      · exact qk
      · exact i1
/-! alike deep -/
theorem jzD.go (h : jzD g) {p up k : Int} (hu : 0 ≤ up ∧ up < 24) (h2 : (g up).1 = 2) (hk : 0 ≤ k ∧ k < (g up).2.1) (hg : ∀ z, g' z = if z = p then jp_0 else if z = up then jp_fg (jp_del (g up) k) else g z) : jzD g' := by
  obtain ⟨ht, a, b⟩ := h
  refine ⟨ht, fun q q0 q1 qk => ?_, fun q i hi => ?_⟩
  · rw [hg q] at qk
    by_cases e : q = p
    · rw [if_pos e] at qk; exact absurd qk (by show ¬ (0 : Int) = 1; decide)
    · rw [if_neg e] at qk
      by_cases e2 : q = up
      · rw [if_pos e2] at qk
        exact absurd (show (g up).1 = 1 from qk) (by omega)
      · rw [if_neg e2] at qk
        exact a q q0 q1 qk
  · unfold jT_i at hi
    unfold jT_c
    rw [hg q] at hi ⊢
    obtain ⟨⟨q0, q1⟩, q2, i0, i1⟩ := hi
    by_cases e : q = p
    · rw [if_pos e] at q2; exact absurd q2 (by show ¬ (0 : Int) = 2; decide)
    · rw [if_neg e] at q2 i1 ⊢
      by_cases e2 : q = up
      · rw [if_pos e2] at i1 ⊢
        have i1 : i < (g up).2.1 - 1 := i1
        show ht (if i < k then (g up).2.2.2 i else (g up).2.2.2 (i + 1)) + 1 = ht q
        rw [e2]
        by_cases c : i < k
        · rw [if_pos c]
          exact b up i ⟨hu, h2, i0, by omega⟩
        · rw [if_neg c]
          exact b up (i + 1) ⟨hu, h2, by omega, by omega⟩
      · rw [if_neg e2] at q2 i1 ⊢
        exact b q i ⟨⟨q0, q1⟩, q2, i0, i1⟩
theorem jzD.to (h : jzD g) (hw : ∀ p, 0 ≤ p → p < 24 → jp_w (g p)) {c : Int} (hc : 1 ≤ c ∧ c < 24) (hg : ∀ z, g' z = if z = c then jp_0 else if z = 0 then g c else g z) : jzD g' := by
  obtain ⟨ht, a, b⟩ := h
  refine ⟨fun z => if z = 0 then ht c else ht z, fun q q0 q1 qk => ?_, fun q i hi => ?_⟩
  · rw [hg q] at qk
    by_cases e : q = c
    · rw [if_pos e] at qk; exact absurd qk (by show ¬ (0 : Int) = 1; decide)
    · rw [if_neg e] at qk
      dsimp only
      by_cases e2 : q = 0
      · rw [if_pos e2] at qk ⊢
        exact a c (by omega) hc.2 qk
      · rw [if_neg e2] at qk ⊢
        exact a q q0 q1 qk
  · unfold jT_i at hi
    unfold jT_c
    rw [hg q] at hi ⊢
    obtain ⟨⟨q0, q1⟩, q2, i0, i1⟩ := hi
    by_cases e : q = c
    · rw [if_pos e] at q2; exact absurd q2 (by show ¬ (0 : Int) = 2; decide)
    · rw [if_neg e] at q2 i1 ⊢
      dsimp only
      by_cases e2 : q = 0
      · rw [if_pos e2] at q2 i1
        rw [if_pos e2, if_pos e2]
        have hi : jT_i g c i := ⟨⟨by omega, hc.2⟩, q2, i0, i1⟩
        have ch := jT_child hw hi
        unfold jT_c at ch
        rw [if_neg (by omega)]
        exact b c i hi
      · rw [if_neg e2] at q2 i1
        rw [if_neg e2, if_neg e2]
        have hi : jT_i g q i := ⟨⟨q0, q1⟩, q2, i0, i1⟩
        have ch := jT_child hw hi
        unfold jT_c at ch
        rw [if_neg (by omega)]
        exact b q i hi
theorem jzD.sp0 (h : jzD g) (hT : jT g lo hi rk) {a b key H : Int} (ha : 1 ≤ a ∧ a < 24) (hb : 1 ≤ b ∧ b < 24) (fa : (g a).1 = 0) (fb : (g b).1 = 0) (hH : 0 ≤ H ∧ H ≤ (g 0).2.1) (e0 : g' 0 = jp_rt a b key) (ea : g' a = jp_part (g 0) 0 H) (eb : g' b = jp_part (g 0) H (g 0).2.1) (ho : ∀ z, z ≠ 0 → z ≠ a → z ≠ b → g' z = g z) : jzD g' := by
  obtain ⟨ht, h1, h2⟩ := h
  have old : ∀ q i, jT_i g q i → (if jT_c g q i = 0 then ht 0 + 1 else if jT_c g q i = a ∨ jT_c g q i = b then ht 0 else ht (jT_c g q i)) = ht (jT_c g q i) := fun q i hi => by
    have ch := jT_child hT.1 hi
    have nf := (hT.2.2.1 q i hi).1
    rw [if_neg (by omega), if_neg (fun z => by
      rcases z with z | z
      · rw [z] at nf; exact nf fa
      · rw [z] at nf; exact nf fb)]
  have o0 : (0 : Int) ≠ a := by omega
  have o1 : (0 : Int) ≠ b := by omega
  refine ⟨fun z => if z = 0 then ht 0 + 1 else if z = a ∨ z = b then ht 0 else ht z, fun q q0 q1 qk => ?_, fun q i hi => ?_⟩
  · dsimp only
    by_cases z : q = 0
    · rw [z, e0] at qk; exact absurd qk (by show ¬ (2 : Int) = 1; decide)
    · rw [if_neg z]
      by_cases za : q = a
      · rw [if_pos (Or.inl za)]
        rw [za, ea] at qk
        exact h1 0 (by decide) (by decide) qk
      · by_cases zb : q = b
        · rw [if_pos (Or.inr zb)]
          rw [zb, eb] at qk
          exact h1 0 (by decide) (by decide) qk
        · rw [if_neg (fun y => y.elim za zb)]
          rw [ho q z za zb] at qk
          exact h1 q q0 q1 qk
  · unfold jT_i at hi
    obtain ⟨⟨q0, q1⟩, q2, i0, i1⟩ := hi
    dsimp only
    by_cases z : q = 0
    · rw [z] at i1 ⊢
      unfold jT_c
      rw [e0] at i1 ⊢
      have i1 : i < 2 := i1
      rcases (show i = 0 ∨ i = 1 by omega) with j | j
      · rw [j]
        show (if a = 0 then _ else if a = a ∨ a = b then _ else _) + 1 = if (0 : Int) = 0 then _ else _
        rw [if_neg (by omega), if_pos (Or.inl rfl), if_pos rfl]
      · rw [j]
        show (if b = 0 then _ else if b = a ∨ b = b then _ else _) + 1 = if (0 : Int) = 0 then _ else _
        rw [if_neg (by omega), if_pos (Or.inr rfl), if_pos rfl]
    · by_cases za : q = a
      · rw [za] at q2 i1 ⊢
        have ec : jT_c g' a i = jT_c g 0 (i + 0) := by unfold jT_c; rw [ea]; rfl
        rw [ea] at q2 i1
        have i1 : i < H - 0 := i1
        have hi : jT_i g 0 (i + 0) := ⟨by decide, q2, by omega, by omega⟩
        rw [ec, old _ _ hi, if_neg (show ¬ a = 0 by omega), if_pos (Or.inl rfl)]
        exact h2 _ _ hi
      · by_cases zb : q = b
        · rw [zb] at q2 i1 ⊢
          have ec : jT_c g' b i = jT_c g 0 (i + H) := by unfold jT_c; rw [eb]; rfl
          rw [eb] at q2 i1
          have i1 : i < (g 0).2.1 - H := i1
          have hi : jT_i g 0 (i + H) := ⟨by decide, q2, by omega, by omega⟩
          rw [ec, old _ _ hi, if_neg (show ¬ b = 0 by omega), if_pos (Or.inr rfl)]
          exact h2 _ _ hi
        · have eg := ho q z za zb
          have ec : jT_c g' q i = jT_c g q i := by unfold jT_c; rw [eg]
          rw [eg] at q2 i1
          have hi : jT_i g q i := ⟨⟨q0, q1⟩, q2, i0, i1⟩
          rw [ec, old _ _ hi, if_neg z, if_neg (fun y => y.elim za zb)]
          exact h2 _ _ hi
theorem jzD.sp (h : jzD g) (hT : jT g lo hi rk) {p up k a key H : Int} (hu : 0 ≤ up ∧ up < 24) (hp : 0 ≤ p ∧ p < 24) (h2 : (g up).1 = 2) (hk : 0 ≤ k ∧ k < (g up).2.1) (hkp : (g up).2.2.2 k = p) (hpu : p ≠ up) (ha : 1 ≤ a ∧ a < 24) (fa : (g a).1 = 0) (pk : (g p).1 ≠ 0) (hH : 0 ≤ H ∧ H ≤ (g p).2.1) (eu : g' up = jp_ins (g up) (k + 1) key a) (ep : g' p = jp_part (g p) 0 H) (ea : g' a = jp_part (g p) H (g p).2.1) (ho : ∀ z, z ≠ up → z ≠ p → z ≠ a → g' z = g z) : jzD g' := by
  obtain ⟨ht, h1, h3⟩ := h
  have old : ∀ q i, jT_i g q i → (if jT_c g q i = a then ht p else ht (jT_c g q i)) = ht (jT_c g q i) := fun q i hi => by
    have nf := (hT.2.2.1 q i hi).1
    rw [if_neg (fun z => by rw [z] at nf; exact nf fa)]
  have ua : up ≠ a := fun z => by rw [z] at h2; omega
  have pa : p ≠ a := fun z => by rw [z] at pk; exact pk fa
  have hup : ht p + 1 = ht up := by
    have := h3 up k ⟨hu, h2, hk.1, hk.2⟩
    unfold jT_c at this
    rw [hkp] at this
    exact this
  refine ⟨fun z => if z = a then ht p else ht z, fun q q0 q1 qk => ?_, fun q i hi => ?_⟩
  · dsimp only
    by_cases za : q = a
    · rw [if_pos za]
      rw [za, ea] at qk
      exact h1 p hp.1 hp.2 qk
    · rw [if_neg za]
      by_cases zu : q = up
      · rw [zu, eu] at qk
        exact absurd (show (g up).1 = 1 from qk) (by omega)
      · by_cases zp : q = p
        · rw [zp] at qk ⊢
          rw [ep] at qk
          exact h1 p hp.1 hp.2 qk
        · rw [ho q zu zp za] at qk
          exact h1 q q0 q1 qk
  · unfold jT_i at hi
    obtain ⟨⟨q0, q1⟩, q2, i0, i1⟩ := hi
    dsimp only
    by_cases za : q = a
    · rw [za] at q2 i1 ⊢
      have ec : jT_c g' a i = jT_c g p (i + H) := by unfold jT_c; rw [ea]; rfl
      rw [ea] at q2 i1
      have i1 : i < (g p).2.1 - H := i1
      have hi : jT_i g p (i + H) := ⟨hp, q2, by omega, by omega⟩
      rw [ec, old _ _ hi, if_pos rfl]
      exact h3 _ _ hi
    · rw [if_neg za]
      by_cases zu : q = up
      · rw [zu] at i1 ⊢
        unfold jT_c
        rw [eu] at i1 ⊢
        have i1 : i < (g up).2.1 + 1 := i1
        show (if (if i < k + 1 then (g up).2.2.2 i else if i = k + 1 then a else (g up).2.2.2 (i - 1)) = a then _ else ht (if i < k + 1 then (g up).2.2.2 i else if i = k + 1 then a else (g up).2.2.2 (i - 1))) + 1 = _
        by_cases c : i < k + 1
        · have hi : jT_i g up i := ⟨hu, h2, i0, by omega⟩
          have o := old _ _ hi
          unfold jT_c at o
          rw [if_pos c, o]
          exact h3 _ _ hi
        · rw [if_neg c]
          by_cases c2 : i = k + 1
          · rw [if_pos c2, if_pos rfl]
            exact hup
          · rw [if_neg c2]
            have hi : jT_i g up (i - 1) := ⟨hu, h2, by omega, by omega⟩
            have o := old _ _ hi
            unfold jT_c at o
            rw [o]
            exact h3 _ _ hi
      · by_cases zp : q = p
        · rw [zp] at q2 i1 ⊢
          have ec : jT_c g' p i = jT_c g p (i + 0) := by unfold jT_c; rw [ep]; rfl
          rw [ep] at q2 i1
          have i1 : i < H - 0 := i1
          have hi : jT_i g p (i + 0) := ⟨hp, q2, by omega, by omega⟩
          rw [ec, old _ _ hi]
          exact h3 _ _ hi
        · have eg := ho q zu zp za
          have ec : jT_c g' q i = jT_c g q i := by unfold jT_c; rw [eg]
          rw [eg] at q2 i1
          have hi : jT_i g q i := ⟨⟨q0, q1⟩, q2, i0, i1⟩
          rw [ec, old _ _ hi]
          exact h3 _ _ hi
/-- a leaf's entries changed: as deep as ahead -/
theorem jzD.same (h : jzD g) (hg : ∀ z, 0 ≤ z → z < 24 → (g' z).1 = (g z).1 ∧ ((g z).1 = 2 → g' z = g z)) : jzD g' := by
  obtain ⟨ht, a, b⟩ := h
  refine ⟨ht, fun p p0 p1 k => a p p0 p1 (by rw [← (hg p p0 p1).1]; exact k), fun q i hi => ?_⟩
  unfold jT_i at hi
  obtain ⟨q0, q2, i0, i1⟩ := hi
  obtain ⟨e1, e2⟩ := hg q q0.1 q0.2
  have e3 := e2 (by rw [← e1]; exact q2)
  rw [e3] at q2 i1
  have := b q i ⟨q0, q2, i0, i1⟩
  unfold jT_c at this ⊢
  rw [e3]
  exact this
end Lf
