/-! PAGES AS THEY ARE SEEN, told by the reference alone; AGREES -/
def jsc (G : jg_G) (p : Int) : jp_C := jh_row G (fr_ro G p)
/-- the keys between children rise strictly -/
def jst (c : jp_C) : Prop := c.1 = 2 → ∀ i, 1 ≤ i → i + 1 < c.2.1 → c.2.2.1 i < c.2.2.1 (i + 1)
/-- nothing differs that a look needs -/
def jx_w (G X : jg_G) : Prop := ∀ n, ¬ (n = 112 ∨ 114 ≤ n) → ∀ j, X n j = G n j
theorem jx_w.fo {G X : jg_G} (h : jx_w G X) (p : Int) : fr_fo X p = fr_fo G p := by
  unfold fr_fo
  rw [h 95 (by decide), h 95 (by decide), h 95 (by decide), h 95 (by decide)]
theorem jx_w.ro {G X : jg_G} (h : jx_w G X) (p : Int) : fr_ro X p = fr_ro G p := by
  unfold fr_ro
  rw [h.fo]
theorem jx_w.to {G X : jg_G} (h : jx_w G X) (p : Int) : fr_to X p = fr_to G p := by
  unfold fr_to
  rw [h.fo, h 94 (by decide), h 94 (by decide)]
theorem jx_w.sc {G X : jg_G} (h : jx_w G X) (p : Int) : jsc X p = jsc G p := by
  unfold jsc
  rw [h.ro]
  exact jh_row_e (fun j _ _ => h 93 (by decide) j)
section
variable {K : jc_K} {G : jg_G} {k : Nat}
theorem jIn.str (h : jIn K G k) {p : Int} (hp : 0 ≤ p ∧ p < 24) : ∃ v M : Nat, v ≤ M ∧ jLg G M ∧ jp_r G (fr_ro G p) (jh G v p) := by
  rcases h.2 with ⟨h8, N, W, hW, hL⟩ | ⟨W, hW, hF, hM⟩
  · obtain ⟨s1, s2, s3, s4, s5, s6, s7, s8, s9⟩ := jN_seen hL.1.1 hp
    exact ⟨jv G p N, N, jv_le G p N, hL.2.1.1.1, s6⟩
  · obtain ⟨n, a, ⟨b1, _⟩, _⟩ := hM
    obtain ⟨⟨⟨dc, _⟩, ⟨_, e12, e8, ef, _, _⟩, _, _, _, d3⟩, _, _, f1, f2, _, _⟩ := hF
    have c : fr_fo G p = -1 := by
      unfold fr_fo
      rw [(ef 3 (by decide) (by decide)).1, (ef 2 (by decide) (by decide)).1, (ef 1 (by decide) (by decide)).1, (ef 0 (by decide) (by decide)).1, if_neg (by omega), if_neg (by omega), if_neg (by omega), if_neg (by omega)]
    have er : fr_ro G p = 4 + 2 * p := by unfold fr_ro; rw [if_pos c]
    obtain ⟨_, ⟨⟨v, v1, v2, v3, v4, v5⟩, _⟩, _⟩ := dc.2.2 p hp.1 hp.2
    exact ⟨v, n, by omega, b1, by rw [er]; exact v5⟩
theorem jIn.see (h : jIn K G k) {p : Int} (hp : 0 ≤ p ∧ p < 24) : (0 ≤ fr_ro G p ∧ fr_ro G p < 54) ∧ ((fc3 K p = some (K, 0) ∧ fr_to G p = 1) ∨ (fr_to G p = 0 ∧ (jp_r G (fr_ro G p) (jsc G p) ∧ jp_w (jsc G p) ∧ jst (jsc G p)) ∧ ∃ q, fc3 K p = some (K, q) ∧ 0 < q ∧ jp_k K q (jsc G p))) := by
  obtain ⟨_, h2, h3⟩ := h.page hp
  refine ⟨h2, ?_⟩
  rcases h3 with h3 | ⟨q, c, c1, c2, c3, c4, c5, c6, c7⟩
  · exact Or.inl h3
  · have w := c7.1.2
    have r : jp_r G (fr_ro G p) (jsc G p) := jh_row_r (by rw [c6.2.1]; exact w)
    have e : jp_e c (jsc G p) := c6.e2 r
    obtain ⟨v, M, v1, v2, v3⟩ := h.str hp
    have e3 : jp_e (jh G v p) (jsc G p) := v3.e2 r
    obtain ⟨lo, hi, rk, hT⟩ := v2.2.1 v v1
    refine Or.inr ⟨c2, ⟨r, c7.e e, fun k2 i i0 i1 => ?_⟩, q, c1, c3, c4.e e⟩
    have i1' : i + 1 < (jh G v p).2.1 := by rw [e3.2.1]; exact i1
    have := hT.2.2 p i hp.1 hp.2 (e3.1.trans k2) i0 i1'
    rw [← (e3.2.2 i (by omega) (by omega)).1, ← (e3.2.2 (i + 1) (by omega) i1').1]
    exact this
theorem jk_fc40o {q : Nat} {c : jp_C} {x : Int} (hw : jp_w c) (hp : jp_k K q c) (h0 : c.2.1 = 0) : fc40 K q x = some (K, -1) := by
  have e39 : fc39 K q 0 = some (K, -1) := by
    unfold fc39
    rw [if_pos hp.1, jk_fc37o hw hp (Or.inr (by omega)), jo_bs]
    dsimp only
    rw [if_pos rfl]
  have key : ∀ m : Nat, fc40_4 (m + 1) K q x 0 1 = some (K, -1) := fun m => by
    unfold fc40_4
    rw [if_pos hp.1, hp.2.2.1, h0, if_pos (by decide), e39, jo_bs]
  exact key 3999
theorem jhas (h : jIn K G k) {x v : Int} (hx : 0 ≤ x ∧ x < 32) : ∀ (m m' d : Nat) (p : Int), 0 ≤ p ∧ p < 24 → d ≤ 24 → 24 < d + m → 24 < d + m' → ∃ q r, fc99_4 m K x p d = some (K, q) ∧ fo226_5 m' G x v p d = some (G, r) ∧ ((q = 0 ∧ r = 0) ∨ (q ≠ 0 ∧ jc_pg K q ∧ ∃ w, fc42 K q x = some (K, w) ∧ r = if w = v then 1 else 0)) := by
  intro m
  induction m with
  | zero => intro m' d p hp h1 h2 h3; omega
  | succ m ih =>
    intro m' d p hp h1 h2 h3
    cases m' with
    | zero => omega
    | succ m' =>
      unfold fc99_4 fo226_5
      by_cases d24 : 24 ≤ (d : Int)
      · rw [if_pos d24, if_pos d24]
        exact ⟨0, 0, rfl, rfl, Or.inl ⟨rfl, rfl⟩⟩
      rw [if_neg d24, if_neg d24, if_pos hp, jo_le, jo_le]
      obtain ⟨rb, ht | ⟨ht, ⟨hr, hw, _⟩, q, q1, q2, q3⟩⟩ := h.see hp
      · rw [ht.1, ht.2, jo_bs]
        dsimp only
        rw [if_pos rfl, if_neg (by decide)]
        exact ⟨0, 0, rfl, rfl, Or.inl ⟨rfl, rfl⟩⟩
      · rw [q1, ht, jo_bs]
        dsimp only
        have b32 := hw.1
        have e2 : G 93 (67 * fr_ro G p + 2) = (jsc G p).2.1 := hr.2.1
        rw [if_neg (show ¬ q = 0 by omega), if_pos q3.1, q3.2.1, if_pos (show (0 : Int) = 0 from rfl), if_pos (show 0 ≤ 67 * fr_ro G p ∧ 67 * fr_ro G p < 305118 by omega), hr.1]
        by_cases k0 : (jsc G p).1 = 0
        · rw [if_pos k0, if_pos k0]
          exact ⟨0, 0, rfl, rfl, Or.inl ⟨rfl, rfl⟩⟩
        rw [if_neg k0, if_neg k0]
        by_cases k1 : (jsc G p).1 = 1
        · rw [if_pos k1, if_neg (show ¬ (jsc G p).1 = 2 by omega), if_pos k1, if_pos (show 0 ≤ fr_ro G p ∧ fr_ro G p < 4554 by omega), if_pos (show 0 ≤ G 93 (67 * fr_ro G p + 2) ∧ G 93 (67 * fr_ro G p + 2) ≤ 32 by rw [e2]; exact b32), jo_le]
          obtain ⟨kc, vc, c1, c2⟩ := jk_fc42 (x := x) hw k1 q3
          obtain ⟨kr, d1, d2⟩ := jr_pl (x := x) hr b32.1 b32.2
          have ekr : kr = kc := jp_pl_u d1 c2.1
          subst ekr
          have k0 := d1.1
          have e := c2.2
          refine ⟨q, if vc = v then 1 else 0, rfl, ?_, Or.inr ⟨by omega, q3.1, vc, c1, rfl⟩⟩
          rw [d2]
          by_cases z : kr < (jsc G p).2.1 ∧ (jsc G p).2.2.1 kr = x
          · rw [if_pos z] at e ⊢
            rw [if_pos k0.1, if_pos (show 0 ≤ 67 * fr_ro G p + 4 + 2 * kr ∧ 67 * fr_ro G p + 4 + 2 * kr < 305118 by omega), (hr.2.2 kr k0.1 z.1).2, e]
            by_cases y : (jsc G p).2.2.2 kr = v
            · rw [if_pos y.symm, if_pos y]
            · rw [if_neg (fun w => y w.symm), if_neg y]
          · rw [if_neg z] at e ⊢
            rw [if_neg (show ¬ 0 ≤ -1 - kr by omega), e]
            by_cases y : v = -1
            · rw [if_pos y, if_pos y.symm]
            · rw [if_neg y, if_neg (fun w => y w.symm)]
        · have k2 : (jsc G p).1 = 2 := by
            rcases hw.2 with w | w | w
            · exact absurd w.1 k0
            · exact absurd w.1 k1
            · exact w.1
          rw [if_neg k1, if_pos k2, if_pos (show 0 ≤ 67 * fr_ro G p + 2 ∧ 67 * fr_ro G p + 2 < 305118 by omega), e2]
          by_cases c0 : (jsc G p).2.1 = 0
          · rw [if_pos c0, jk_fc40o hw q3 c0, jo_bs]
            dsimp only
            rw [if_pos (show -2147483648 ≤ (d : Int) + 1 ∧ (d : Int) + 1 < 2147483648 by omega)]
            refine ⟨0, 0, ?_, rfl, Or.inl ⟨rfl, rfl⟩⟩
            cases m with
            | zero => omega
            | succ m =>
              unfold fc99_4
              by_cases z : 24 ≤ (d : Int) + 1
              · rw [if_pos z]
              · rw [if_neg z]
                have e3 : fc3 K (-1) = some (K, 0) := by
                  unfold fc3
                  rw [if_pos (by decide)]
                rw [e3, jo_bs]
                dsimp only
                rw [if_pos rfl]
          · rw [if_neg c0, if_neg k1, if_pos (show 0 ≤ fr_ro G p ∧ fr_ro G p < 4553 by omega), if_pos b32, jo_le]
            obtain ⟨kc, c1, c2⟩ := jk_fc40 (x := x) hw k2 q3 (by omega)
            obtain ⟨kr, d1, d2⟩ := jr_ch (x := x) hr (by omega) b32.2
            have ekr : kr = kc := jp_ci_u hw k2 d1 c2
            subst ekr
            have cb : 1 ≤ (jsc G p).2.2.2 kr ∧ (jsc G p).2.2.2 kr < 24 := by
              rcases hw.2 with w | w | w
              · exact absurd w.1 k0
              · exact absurd w.1 k1
              · exact (w.2.2.2.1 kr d1.1.1 d1.1.2).2
            rw [c1, d2, jo_bs]
            dsimp only
            rw [if_pos (show -2147483648 ≤ (d : Int) + 1 ∧ (d : Int) + 1 < 2147483648 by omega), if_pos (show -2147483648 ≤ (d : Int) + 1 ∧ (d : Int) + 1 < 2147483648 by omega)]
            exact ih m' (d + 1) _ ⟨by omega, cb.2⟩ (by omega) (by omega) (by omega)
theorem jagr (h : jIn K G k) {M D : Nat} (hl : jLr K G M) (hD : D ≤ M) (h13 : G 92 13 = D) (h65 : ∀ x, 0 ≤ x → x < 32 → jc_i K 65 x = jpv G x D) : ∀ (m m' : Nat) (l : Int) (X : jg_G), 0 ≤ l → l ≤ 32 → 32 < l + m → 33 < l + m' → jx_6 G X → ∃ b X', fc98_10 m K l = some (K, b) ∧ fo227_9 m' X 1 l = some (X', b) ∧ (b = 0 ∨ b = 1) ∧ jx_6 G X' := by
  intro m
  induction m with
  | zero => intro m' l X h0 h1 h2; omega
  | succ m ih =>
    intro m' l X h0 h1 h2 h3 hX
    cases m' with
    | zero => omega
    | succ m' =>
      unfold fc98_10 fo227_9
      by_cases e : 32 ≤ l
      · rw [if_pos e, if_pos e, if_pos (Or.inr rfl)]
        exact ⟨1, X, rfl, rfl, Or.inr rfl, hX⟩
      rw [if_neg e, if_neg e, if_neg (show ¬ (1 : Int) = 0 by decide), if_pos (show 0 ≤ l ∧ l < 32 by omega), if_pos (show 0 ≤ l ∧ l < 32 by omega), (h.view.2.2.2.2 l h0 (by omega)), hX 111 (by decide)]
      by_cases f : G 111 l = -1
      · rw [if_pos f, if_pos f]
        obtain ⟨X1, z1, z2⟩ := jr_224 (x := l) hl hD h13 ⟨h0, by omega⟩ hX
        have h' : jIn K X1 k := h.w jk_s.refl (fun n hn j => z2 n (by omega) j)
        obtain ⟨q, r, y1, y2, y3⟩ := jhas h' (x := l) (v := jpv G l D) ⟨h0, by omega⟩ jo_N jo_N 0 0 (by decide) (by decide) (by decide) (by decide)
        have e99 : fc99 K l = some (K, q) := y1
        have e226 : fo226 X1 l (jpv G l D) = some (X1, r) := y2
        rw [e99, z1, jo_bs, jo_bs]
        dsimp only
        rw [e226, jo_bs]
        dsimp only
        rcases y3 with ⟨q0, r0⟩ | ⟨q0, q1, w, w1, w2⟩
        · rw [if_pos q0, if_pos r0, if_pos (by omega)]
          refine ⟨0, X1, rfl, ?_, Or.inl rfl, z2⟩
          cases m' with
          | zero => omega
          | succ m' =>
            unfold fo227_9
            by_cases z : 32 ≤ l + 1
            · rw [if_pos z, if_pos (Or.inl rfl)]
            · rw [if_neg z, if_pos rfl, if_pos (Or.inl rfl)]
        · rw [if_neg q0, if_pos q1, w1, jo_bs]
          dsimp only
          rw [h65 l h0 (by omega)]
          by_cases z : w = jpv G l D
          · rw [if_pos z] at w2
            rw [if_pos z, if_pos (by omega), if_neg (by omega), if_pos (by omega)]
            exact ih m' (l + 1) X1 (by omega) (by omega) (by omega) (by omega) z2
          · rw [if_neg z] at w2
            rw [if_neg z, if_pos w2, if_pos (by omega)]
            refine ⟨0, X1, rfl, ?_, Or.inl rfl, z2⟩
            cases m' with
            | zero => omega
            | succ m' =>
              unfold fo227_9
              by_cases z : 32 ≤ l + 1
              · rw [if_pos z, if_pos (Or.inl rfl)]
              · rw [if_neg z, if_pos rfl, if_pos (Or.inl rfl)]
      · rw [if_neg f, if_neg f, if_pos (by omega), if_pos (by omega)]
        exact ih m' (l + 1) X (by omega) (by omega) (by omega) (by omega) hX
theorem jcase25 (h : jIn K G k) (a b e : Int) : ∃ K' G', js25 K G a b e = some (K', G') ∧ jIn K' G' (k + 1) := by
  unfold js25 fc132 fc98 fo227
  obtain ⟨M, hl, h12, d0, d1, h8⟩ := h.lr
  have ed : ((G 92 13).toNat : Int) = G 92 13 := by omega
  have hl2 : jLr K (jg_u G 92 0 0) M := hl.u0
  have e13 : jg_u G 92 0 0 92 13 = ((G 92 13).toNat : Int) := by rw [jg_uI (by decide), ed]
  obtain ⟨K', y1, y2, y3⟩ := jk_22 (D := (G 92 13).toNat) hl2 (by omega) (by rw [h8, ed])
  have h1 : jIn K' (jg_u G 92 0 0) (k + 1) := (h.ro 0).w y2 (fun _ _ _ => rfl)
  obtain ⟨v, X, z1, z2, z3, z4⟩ := jagr h1 (hl2.s y2) (by omega) e13 y3 jo_N jo_N 0 (jg_u G 92 0 0) (by decide) (by decide) (by decide) (by decide) (fun _ _ _ => rfl)
  rw [y1, jo_bs]
  dsimp only
  rw [z1, z2, jo_bs]
  dsimp only
  rw [if_pos z3, jo_bs, jo_bs]
  dsimp only
  rw [if_pos rfl]
  exact ⟨K', X, rfl, h1.w jk_s.refl (fun n hn j => z4 n (by omega) j)⟩
end
