/-! PAGES AS THEY ARE SEEN, told by the reference alone; AGREES -/
def jsc (G : jg_G) (p : Int) : jp_C := jh_row G (fr_ro G p)
/-- the keys between children rise strictly -/
def jst (c : jp_C) : Prop := c.1 = 2 → ∀ i, 1 ≤ i → i + 1 < c.2.1 → c.2.2.1 i < c.2.2.1 (i + 1)
section
variable {K : jc_K} {G : jg_G} {k : Nat}
theorem jIn.str (h : jIn K G k) {p : Int} (hp : 0 ≤ p ∧ p < 24) : ∃ v M : Nat, v ≤ M ∧ jLg G M ∧ jp_r G (fr_ro G p) (jh G v p) := by
  rcases h.2 with ⟨h8, N, W, hW, hL⟩ | ⟨W, hW, hF, hM⟩
  · obtain ⟨s1, s2, s3, s4, s5, s6, s7, s8, s9⟩ := jN_seen hL.1.1 hp
    exact ⟨jv G p N, N, jv_le G p N, hL.2.1.1.1, s6⟩
  · obtain ⟨n, a, ⟨b1, _⟩, _⟩ := hM
    obtain ⟨⟨⟨dc, _⟩, ⟨_, e12, e8, ef, _, _⟩, _, _, _, d3⟩, _, _, f1, f2, _, _⟩ := hF
    have c : fr_fo G p = -1 := by
      unfold fr_fo
      rw [(ef 3 (by decide) (by decide)).1, (ef 2 (by decide) (by decide)).1, (ef 1 (by decide) (by decide)).1, (ef 0 (by decide) (by decide)).1, if_neg (by omega), if_neg (by omega), if_neg (by omega), if_neg (by omega)]
    have er : fr_ro G p = 4 + 2 * p := by unfold fr_ro; rw [if_pos c]
    obtain ⟨_, ⟨⟨v, v1, v2, v3, v4, v5⟩, _⟩, _⟩ := dc.2.2 p hp.1 hp.2
    exact ⟨v, n, by omega, b1, by rw [er]; exact v5⟩
theorem jIn.see (h : jIn K G k) {p : Int} (hp : 0 ≤ p ∧ p < 24) : (0 ≤ fr_ro G p ∧ fr_ro G p < 54) ∧ ((fc3 K p = some (K, 0) ∧ fr_to G p = 1) ∨ (fr_to G p = 0 ∧ (jp_r G (fr_ro G p) (jsc G p) ∧ jp_w (jsc G p) ∧ jst (jsc G p)) ∧ ∃ q, fc3 K p = some (K, q) ∧ 0 < q ∧ jp_k K q (jsc G p))) := by
  obtain ⟨_, h2, h3⟩ := h.page hp
  refine ⟨h2, ?_⟩
  rcases h3 with h3 | ⟨q, c, c1, c2, c3, c4, c5, c6, c7⟩
  · exact Or.inl h3
  · have w := c7.1.2
    have r : jp_r G (fr_ro G p) (jsc G p) := jh_row_r (by rw [c6.2.1]; exact w)
    have e : jp_e c (jsc G p) := c6.e2 r
    obtain ⟨v, M, v1, v2, v3⟩ := h.str hp
    have e3 : jp_e (jh G v p) (jsc G p) := v3.e2 r
    obtain ⟨lo, hi, rk, hT⟩ := v2.2.1 v v1
    refine Or.inr ⟨c2, ⟨r, c7.e e, fun k2 i i0 i1 => ?_⟩, q, c1, c3, c4.e e⟩
    have i1' : i + 1 < (jh G v p).2.1 := by rw [e3.2.1]; exact i1
    have := hT.2.2 p i hp.1 hp.2 (e3.1.trans k2) i0 i1'
    rw [← (e3.2.2 i (by omega) (by omega)).1, ← (e3.2.2 (i + 1) (by omega) i1').1]
    exact this
end
/-- a way down to where x is -/
def jWy (g : Int → jp_C) (x : Int) (P : Int → Int) (d : Nat) : Prop := P 0 = 0 ∧ (∀ j : Int, 0 ≤ j → j < d → (g (P j)).1 = 2 ∧ ∃ k, jp_ci (g (P j)) x k ∧ (g (P j)).2.2.2 k = P (j + 1)) ∧ (∀ j : Int, 0 ≤ j → j ≤ d → 0 ≤ P j ∧ P j < 24) ∧ (g (P d)).1 ≠ 0
section Wy
variable {g : Int → jp_C} {lo hi rk P : Int → Int} {x : Int} {d : Nat}
theorem jWy.root (hT : jT g lo hi rk) : jWy g x (fun _ => 0) 0 := ⟨rfl, fun j a b => by omega, fun j _ _ => ⟨Int.le_refl _, by show (0 : Int) < 24; decide⟩, hT.2.1⟩
theorem jWy.lt (hT : jT g lo hi rk) (h : jWy g x P d) : d < 24 := by
  refine jT_way (rk := rk) h.2.2.1 (fun i i0 i1 => ?_)
  obtain ⟨k, c, e⟩ := (h.2.1 i i0 i1).2
  have b := h.2.2.1 i i0 (by omega)
  have := (hT.2.2.1 (P i) k ⟨b, (h.2.1 i i0 i1).1, c.1.1, c.1.2⟩).2.1
  unfold jT_c at this
  rw [e] at this
  exact this
theorem jWy.next (hT : jT g lo hi rk) (h : jWy g x P d) (hk : (g (P d)).1 = 2) {k : Int} (hc : jp_ci (g (P d)) x k) : jWy g x (fun j => if j = (d : Int) + 1 then (g (P d)).2.2.2 k else P j) (d + 1) := by
  have b := h.2.2.1 d (by omega) (Int.le_refl _)
  have ti : jT_i g (P d) k := ⟨b, hk, hc.1.1, hc.1.2⟩
  have cb := jT_child hT.1 ti
  have ec : ((d + 1 : Nat) : Int) = (d : Int) + 1 := by omega
  refine ⟨?_, fun j j0 j1 => ?_, fun j j0 j1 => ?_, ?_⟩
  · dsimp only
    rw [if_neg (by omega)]; exact h.1
  · dsimp only
    rw [if_neg (show ¬ j = (d : Int) + 1 by omega)]
    by_cases e : j = d
    · subst e
      refine ⟨hk, k, hc, ?_⟩
      rw [if_pos rfl]
    · rw [if_neg (show ¬ j + 1 = (d : Int) + 1 by omega)]
      exact h.2.1 j j0 (by omega)
  · dsimp only
    by_cases e : j = (d : Int) + 1
    · rw [if_pos e]
      unfold jT_c at cb
      omega
    · rw [if_neg e]
      exact h.2.2.1 j j0 (by omega)
  · dsimp only
    rw [ec, if_pos rfl]
    exact (hT.2.2.1 _ _ ti).1
theorem jWy.val {A : Int → Int} (hT : jTs g lo hi rk) (hE : jzE g A) (hx : 0 ≤ x ∧ x < 32) (h : jWy g x P d) (hk : (g (P d)).1 = 1) : jp_v (g (P d)) x = A x :=
  jz_val (L := d) hT hE hx h.1 h.2.1 (h.2.2.1 d (by omega) (Int.le_refl _)) hk
end Wy
section Ag
variable {K : jc_K} {G : jg_G} {N k : Nat} {W : jZW}
/-- a page alive -/
theorem jSt.see (hs : jSt K G N k W) {p : Int} (hp : 0 ≤ p ∧ p < 24) : fc3 K p = some (K, jq G p) ∧ 0 < jq G p ∧ jp_k K (jq G p) (jh G N p) ∧ jp_w (jh G N p) := by
  obtain ⟨s1, s2, s3, s4, s5, s6, s7, s8, s9⟩ := jN_seen hs.2.2.2.1.1 hp
  have e : jh G (jv G p N) p = jh G N p := jh_v G p N
  rw [e] at s3 s9
  exact ⟨s1, s2, s3, s9⟩
theorem jSt.T (hs : jSt K G N k W) : ∃ lo hi rk, jTs (fun z => jh G N z) lo hi rk := hs.2.2.2.2.1.1.1.2.1 N (Nat.le_refl _)
theorem jSt.E (hs : jSt K G N k W) : jzE (fun z => jh G N z) (fun x => jzA G x N) := hs.2.2.2.2.1.1.1.E
theorem jSt.z (hs : jSt K G N k W) : jT_z (fun z => jh G N z) := hs.2.2.2.2.2.1
theorem jleaf (hs : jSt K G N k W) {x : Int} (hx : 0 ≤ x ∧ x < 32) : ∀ (m d : Nat) (P : Int → Int), jWy (fun z => jh G N z) x P d → 24 < d + m → ∃ q, fc99_4 m K x (P d) d = some (K, q) ∧ q ≠ 0 ∧ jc_pg K q ∧ fc42 K q x = some (K, jzA G x N) := by
  obtain ⟨lo, hi, rk, hT⟩ := hs.T
  intro m
  induction m with
  | zero =>
    intro d P h hm
    have := h.lt hT.1
    omega
  | succ m ih =>
    intro d P h hm
    have d24 := h.lt hT.1
    have b := h.2.2.1 d (by omega) (Int.le_refl _)
    obtain ⟨s1, s2, s3, s4⟩ := hs.see b
    have k0 : (jh G N (P d)).1 ≠ 0 := h.2.2.2
    unfold fc99_4
    rw [if_neg (by omega), s1, jo_bs]
    dsimp only
    rw [if_neg (by omega), if_pos s3.1, s3.2.1, if_neg k0]
    by_cases k1 : (jh G N (P d)).1 = 1
    · rw [if_pos k1]
      obtain ⟨kc, vc, c1, c2⟩ := jk_fc42 (x := x) s4 k1 s3
      refine ⟨jq G (P d), rfl, by omega, s3.1, ?_⟩
      rw [c1, c2.2, jp_v_e s4 c2.1, ← jWy.val hT hs.E hx h k1]
    · have k2 : (jh G N (P d)).1 = 2 := by
        rcases s4.2 with w | w | w
        · exact absurd w.1 k0
        · exact absurd w.1 k1
        · exact w.1
      rw [if_neg k1]
      obtain ⟨kc, c1, c2⟩ := jk_fc40 (x := x) s4 k2 s3 (hs.z.pos (P d) b.1 b.2 k2)
      rw [c1, jo_bs]
      dsimp only
      rw [if_pos (by omega)]
      obtain ⟨q, y1, y2⟩ := ih (d + 1) _ (jWy.next hT.1 h k2 c2) (by omega)
      refine ⟨q, ?_, y2⟩
      rw [show ((d + 1 : Nat) : Int) = (d : Int) + 1 by omega, if_pos rfl] at y1
      exact y1
/-- nobody holds it: what stands is what was committed -/
theorem jSt.free (hs : jSt K G N k W) {x : Int} (hx : 0 ≤ x ∧ x < 32) (h : G 111 x = -1) : jzA G x N = G 113 (-1 - x) := by
  have hL := hs.2.2.2
  rw [← hL.2.1.2.2.2.2.2.2.2.1 N (Nat.le_refl _) (Or.inl rfl) x hx.1 hx.2]
  refine jz_free hx hL.2.1.1.1.F (fun t t0 t1 => ?_)
  rcases (hL.2.2.2.1.1 t t0 t1).2.1 with o | o
  · exact jpp_jt N (hL.2.2.2.2.2 t t0 t1 o)
  · by_cases e : jpp G x t N = -2
    · exact e
    · have := hL.2.1.2.2.2.2.2.2.2.2.1 x t hx.1 hx.2 t0 t1 o e
      omega
theorem jagr (hs : jSt K G N k W) (h65 : ∀ x, 0 ≤ x → x < 32 → jc_i K 65 x = G 113 (-1 - x)) : ∀ (m : Nat) (l : Int), 0 ≤ l → l ≤ 32 → 32 < l + m → fc98_10 m K l = some (K, 1) := by
  intro m
  induction m with
  | zero => intro l h0 h1 h2; omega
  | succ m ih =>
    intro l h0 h1 h2
    unfold fc98_10
    by_cases e : 32 ≤ l
    · rw [if_pos e]
    rw [if_neg e, if_pos (show 0 ≤ l ∧ l < 32 by omega), (hs.2.2.2.2.2.2.1.2 l h0 (by omega)).1]
    by_cases f : G 111 l = -1
    · rw [if_pos f]
      obtain ⟨lo, hi, rk, hT⟩ := hs.T
      obtain ⟨q, y1, y2, y3, y4⟩ := jleaf hs (x := l) ⟨h0, by omega⟩ jo_N 0 (fun _ => 0) (jWy.root hT.1) (by decide)
      have e99 : fc99 K l = some (K, q) := y1
      rw [e99, jo_bs]
      dsimp only
      rw [if_neg y2, if_pos y3, y4, jo_bs]
      dsimp only
      rw [h65 l h0 (by omega), hs.free ⟨h0, by omega⟩ f, if_pos rfl, if_pos (by omega)]
      exact ih (l + 1) (by omega) (by omega) (by omega)
    · rw [if_neg f, if_pos (by omega)]
      exact ih (l + 1) (by omega) (by omega) (by omega)
theorem jagrees (hs : jSt K G N k W) : ∃ K', fc132 K = some (K', 1) ∧ jSt K' G N k W := by
  obtain ⟨M, hl, h12, d0, d1, h8⟩ := hs.I.lr
  have ed : ((G 92 13).toNat : Int) = G 92 13 := by omega
  obtain ⟨K', y1, y2, y3⟩ := jk_22 (D := (G 92 13).toNat) hl (by omega) (by rw [h8, ed])
  have MN : M = N := by
    have := hs.2.2.2.1.h12
    omega
  have hs' := hs.w y2
  refine ⟨K', ?_, hs'⟩
  unfold fc132 fc98
  rw [y1, jo_bs, jagr hs' (fun x x0 x1 => by
    rw [y3 x x0 x1]
    exact hs.2.2.2.2.1.2.2.2.2.2.2.2.1 (G 92 13).toNat (by omega) (Or.inr (by omega)) x x0 x1) jo_N 0 (by decide) (by decide) (by decide), jo_bs]
  dsimp only
  rw [if_pos (Or.inr rfl)]
end Ag
