/-! CHECK, the class's side: a queue -/
theorem jmn_i {w f : Int} : jmn (jmn w f) f = jmn w f := by
  unfold jmn
  by_cases h : f < w
  · rw [if_pos h]; split <;> rfl
  · rw [if_neg h]; exact if_neg h
theorem jmn_6 {w : Int} : jmn (jmn w 6) 6 = jmn w 6 := jmn_i
section
variable {K : jc_K} {G : jg_G} {k : Nat}
theorem jIn.kid (h : jIn K G k) {q i : Int} (hq : 0 ≤ q ∧ q < 24) (he : jed (jsc G) (fr_to G) q i) : (1 ≤ (jsc G q).2.2.2 i ∧ (jsc G q).2.2.2 i < 24) ∧ jec (jsc G) (fr_to G) q ≤ 4 := by
  obtain ⟨rb, ht⟩ := h.see hq
  obtain ⟨_, ⟨hr, hw, hs⟩, _⟩ := ht.resolve_left (fun z => by rw [he.1.1] at z; exact absurd z.2 (by decide))
  rcases hw.2 with w | w | w
  · have := w.1; have := he.1.2; omega
  · have := w.1; have := he.1.2; omega
  · refine ⟨(w.2.2.2.1 i he.2.1 he.2.2).2, ?_⟩
    unfold jec
    rw [if_pos he.1]
    omega
theorem jIn.ec4 (h : jIn K G k) {q : Int} (hq : 0 ≤ q ∧ q < 24) : jec (jsc G) (fr_to G) q ≤ 4 := by
  unfold jec
  by_cases e : fr_to G q = 0 ∧ (jsc G q).1 = 2
  · rw [if_pos e]
    by_cases z : 0 < (jsc G q).2.1
    · have := (h.kid (i := 0) hq ⟨e, Int.le_refl _, z⟩).2
      unfold jec at this
      rw [if_pos e] at this
      exact this
    · omega
  · rw [if_neg e]; decide
end
def jk_o (K K' : jc_K) (v : Int) : Prop := jk_s jSw K K' ∧ (∀ n i, ¬ (n = 86 ∧ i = 10) → jc_i K' n i = jc_i K n i) ∧ jc_i K' 86 10 = v
theorem jSw86 : jSw 86 := Or.inr ⟨by decide, by decide⟩
theorem jk_o.refl (K : jc_K) : jk_o K K (jc_i K 86 10) := ⟨jk_s.refl, fun _ _ _ => rfl, rfl⟩
theorem jk_o.trans {K K1 K2 : jc_K} {v v2 : Int} (h : jk_o K K1 v) (h2 : jk_o K1 K2 v2) : jk_o K K2 v2 := ⟨h.1.trans h2.1, fun n i z => (h2.2.1 n i z).trans (h.2.1 n i z), h2.2.2⟩
theorem jk_101 {K : jc_K} {f : Int} : ∃ K', fc101 K f = some (K', 0) ∧ jk_o K K' (jmn (jc_i K 86 10) f) := by
  unfold fc101 jmn
  by_cases e : jc_i K 86 10 ≤ f
  · rw [if_pos e, if_neg (by omega)]
    exact ⟨K, rfl, jk_o.refl K⟩
  · rw [if_neg e, if_pos (by omega)]
    refine ⟨_, rfl, jk_s.u jSw86, fun n i z => ?_, jc_uH⟩
    by_cases en : n = 86
    · subst en; exact jc_uI (fun y => z ⟨rfl, y⟩)
    · exact jc_uN en
/-- the queue: M pages, all that were come to, with their labels -/
def jBq (K : jc_K) (L : Int → jlb) (M : Nat) : Prop := (jc_i K 86 8 = M ∧ M = jcs' (jsn (jc_i K 91))) ∧ (∀ j : Int, 0 ≤ j → j < M → jsn (jc_i K 91) (jc_i K 87 j) ≠ 0 ∧ L (jc_i K 87 j) = (jc_i K 89 j, jc_i K 90 j, jc_i K 88 j)) ∧ ∀ p, jsn (jc_i K 91) p ≠ 0 → ∃ j : Int, 0 ≤ j ∧ j < M ∧ jc_i K 87 j = p
theorem jk_o.q {K K' : jc_K} {v : Int} {L : Int → jlb} {M : Nat} (h : jk_o K K' v) (b : jBq K L M) : jBq K' L M ∧ (jc_i K' 91 = jc_i K 91 ∧ jc_i K' 87 = jc_i K 87 ∧ jc_i K' 88 = jc_i K 88 ∧ jc_i K' 89 = jc_i K 89 ∧ jc_i K' 90 = jc_i K 90) := by
  have e91 : jc_i K' 91 = jc_i K 91 := funext fun i => h.2.1 91 i (by omega)
  have e87 : jc_i K' 87 = jc_i K 87 := funext fun i => h.2.1 87 i (by omega)
  have e88 : jc_i K' 88 = jc_i K 88 := funext fun i => h.2.1 88 i (by omega)
  have e89 : jc_i K' 89 = jc_i K 89 := funext fun i => h.2.1 89 i (by omega)
  have e90 : jc_i K' 90 = jc_i K 90 := funext fun i => h.2.1 90 i (by omega)
  refine ⟨?_, e91, e87, e88, e89, e90⟩
  unfold jBq
  rw [h.2.1 86 8 (by omega), e91, e87, e88, e89, e90]
  exact b
theorem jk_meet0 {K : jc_K} {L : Int → jlb} {M : Nat} {p a b d : Int} (bq : jBq K L M) (hp : 0 ≤ p ∧ p < 24) (h0 : jsn (jc_i K 91) p ≠ 0) : ∃ K', fc102 K p d a b = some (K', 0) ∧ jk_o K K' (jmn (jc_i K 86 10) 2) := by
  obtain ⟨K', y1, y2⟩ := jk_101 (K := K) (f := 2)
  have x0 : jc_i K 91 p ≠ 0 := fun z => h0 ((jsn_0 hp).2 z)
  refine ⟨K', ?_, y2⟩
  unfold fc102
  rw [if_neg (by omega), if_neg (by omega), if_pos hp, if_neg x0, y1, jo_bs]
theorem jk_meet1 {K : jc_K} {L : Int → jlb} {M : Nat} {p a b d : Int} (bq : jBq K L M) (hp : 0 ≤ p ∧ p < 24) (h0 : jsn (jc_i K 91) p = 0) : ∃ K', fc102 K p d a b = some (K', 0) ∧ jk_s jSw K K' ∧ (jc_i K' 86 10 = jc_i K 86 10 ∧ jc_i K' 86 9 = jc_i K 86 9) ∧ (jsn (jc_i K' 91) p ≠ 0 ∧ ∀ z, z ≠ p → jsn (jc_i K' 91) z = jsn (jc_i K 91) z) ∧ (∀ j : Int, j < M → jc_i K' 87 j = jc_i K 87 j ∧ jc_i K' 88 j = jc_i K 88 j ∧ jc_i K' 89 j = jc_i K 89 j ∧ jc_i K' 90 j = jc_i K 90 j) ∧ jc_i K' 87 M = p ∧ jBq K' (jup L p (a, b, d)) (M + 1) := by
  obtain ⟨⟨b1, b2⟩, b3, b4⟩ := bq
  have x0 : jc_i K 91 p = 0 := (jsn_0 hp).1 h0
  have hM : M < 24 := by
    have A' := jcs_up (A := jsn (jc_i K 91)) (A' := jup (jsn (jc_i K 91)) p 1) hp h0 (by rw [jupH]; decide) (fun z hz => jupN hz)
    have := jcs_24 (jup (jsn (jc_i K 91)) p 1)
    omega
  have e : fc102 K p d a b = some (jc_ui (jc_ui (jc_ui (jc_ui (jc_ui (jc_ui K 91 p 1) 87 M p) 88 M d) 89 M a) 90 M b) 86 8 ((M : Int) + 1), 0) := by
    unfold fc102
    rw [if_neg (by omega), if_neg (by omega), if_pos hp, if_pos x0, b1, if_pos (by omega), if_pos (by omega), if_pos (by omega)]
  have n91 : jc_i (jc_ui (jc_ui (jc_ui (jc_ui (jc_ui (jc_ui K 91 p 1) 87 M p) 88 M d) 89 M a) 90 M b) 86 8 ((M : Int) + 1)) 91 = jup (jc_i K 91) p 1 := funext fun i => by
    rw [jc_uN (by decide), jc_uN (by decide), jc_uN (by decide), jc_uN (by decide), jc_uN (by decide)]
    by_cases z : i = p
    · rw [z, jc_uH, jupH]
    · rw [jc_uI z, jupN z]
  have n87 : ∀ i, jc_i (jc_ui (jc_ui (jc_ui (jc_ui (jc_ui (jc_ui K 91 p 1) 87 M p) 88 M d) 89 M a) 90 M b) 86 8 ((M : Int) + 1)) 87 i = if i = M then p else jc_i K 87 i := fun i => by
    rw [jc_uN (by decide), jc_uN (by decide), jc_uN (by decide), jc_uN (by decide)]
    by_cases z : i = M
    · rw [z, jc_uH, if_pos rfl]
    · rw [jc_uI z, if_neg z, jc_uN (by decide)]
  have n88 : ∀ i, jc_i (jc_ui (jc_ui (jc_ui (jc_ui (jc_ui (jc_ui K 91 p 1) 87 M p) 88 M d) 89 M a) 90 M b) 86 8 ((M : Int) + 1)) 88 i = if i = M then d else jc_i K 88 i := fun i => by
    rw [jc_uN (by decide), jc_uN (by decide), jc_uN (by decide)]
    by_cases z : i = M
    · rw [z, jc_uH, if_pos rfl]
    · rw [jc_uI z, if_neg z, jc_uN (by decide), jc_uN (by decide)]
  have n89 : ∀ i, jc_i (jc_ui (jc_ui (jc_ui (jc_ui (jc_ui (jc_ui K 91 p 1) 87 M p) 88 M d) 89 M a) 90 M b) 86 8 ((M : Int) + 1)) 89 i = if i = M then a else jc_i K 89 i := fun i => by
    rw [jc_uN (by decide), jc_uN (by decide)]
    by_cases z : i = M
    · rw [z, jc_uH, if_pos rfl]
    · rw [jc_uI z, if_neg z, jc_uN (by decide), jc_uN (by decide), jc_uN (by decide)]
  have n90 : ∀ i, jc_i (jc_ui (jc_ui (jc_ui (jc_ui (jc_ui (jc_ui K 91 p 1) 87 M p) 88 M d) 89 M a) 90 M b) 86 8 ((M : Int) + 1)) 90 i = if i = M then b else jc_i K 90 i := fun i => by
    rw [jc_uN (by decide)]
    by_cases z : i = M
    · rw [z, jc_uH, if_pos rfl]
    · rw [jc_uI z, if_neg z, jc_uN (by decide), jc_uN (by decide), jc_uN (by decide), jc_uN (by decide)]
  have n86 : ∀ i, i ≠ 8 → jc_i (jc_ui (jc_ui (jc_ui (jc_ui (jc_ui (jc_ui K 91 p 1) 87 M p) 88 M d) 89 M a) 90 M b) 86 8 ((M : Int) + 1)) 86 i = jc_i K 86 i := fun i hi => by
    rw [jc_uI hi, jc_uN (by decide), jc_uN (by decide), jc_uN (by decide), jc_uN (by decide), jc_uN (by decide)]
  have s6 : jk_s jSw K (jc_ui (jc_ui (jc_ui (jc_ui (jc_ui (jc_ui K 91 p 1) 87 M p) 88 M d) 89 M a) 90 M b) 86 8 ((M : Int) + 1)) := by
    have u : ∀ (K : jc_K) (n : Nat) (i v : Int), 86 ≤ n → n < 92 → jk_s jSw K (jc_ui K n i v) := fun K n i v a b => jk_s.u (Or.inr ⟨a, b⟩)
    exact (((((u _ 91 _ _ (by decide) (by decide)).trans (u _ 87 _ _ (by decide) (by decide))).trans (u _ 88 _ _ (by decide) (by decide))).trans (u _ 89 _ _ (by decide) (by decide))).trans (u _ 90 _ _ (by decide) (by decide))).trans (u _ 86 _ _ (by decide) (by decide))
  have n868 : jc_i (jc_ui (jc_ui (jc_ui (jc_ui (jc_ui (jc_ui K 91 p 1) 87 M p) 88 M d) 89 M a) 90 M b) 86 8 ((M : Int) + 1)) 86 8 = (M : Int) + 1 := jc_uH
  rw [e]
  generalize jc_ui (jc_ui (jc_ui (jc_ui (jc_ui (jc_ui K 91 p 1) 87 M p) 88 M d) 89 M a) 90 M b) 86 8 ((M : Int) + 1) = K' at n91 n87 n88 n89 n90 n86 n868 s6
  have hA' : jsn (jc_i K' 91) p ≠ 0 := by
    rw [n91, jsn_1 hp (by rw [jupH]; decide)]
    decide
  have hAo : ∀ z, z ≠ p → jsn (jc_i K' 91) z = jsn (jc_i K 91) z := fun z hz => jsn_o (by rw [n91, jupN hz])
  have cs := jcs_up hp h0 hA' hAo
  refine ⟨K', rfl, s6, ⟨n86 10 (by decide), n86 9 (by decide)⟩, ⟨hA', hAo⟩, fun j hj => ?_, by rw [n87, if_pos rfl], ⟨by rw [n868]; omega, by omega⟩, fun j j0 j1 => ?_, fun z hz => ?_⟩
  · rw [n87, n88, n89, n90, if_neg (by omega), if_neg (by omega), if_neg (by omega), if_neg (by omega)]
    exact ⟨rfl, rfl, rfl, rfl⟩
  · rw [n87, n88, n89, n90]
    by_cases z : j = M
    · rw [if_pos z, if_pos z, if_pos z, if_pos z, jupH]
      exact ⟨hA', rfl⟩
    · rw [if_neg z, if_neg z, if_neg z, if_neg z]
      obtain ⟨c1, c2⟩ := b3 j j0 (by omega)
      have np : jc_i K 87 j ≠ p := fun y => c1 (by rw [y]; exact h0)
      rw [hAo _ np, jupN np]
      exact ⟨c1, c2⟩
  · by_cases y : z = p
    · exact ⟨M, by omega, by omega, by rw [n87, if_pos rfl, y]⟩
    · rw [hAo z y] at hz
      obtain ⟨j, j0, j1, j2⟩ := b4 z hz
      exact ⟨j, j0, by omega, by rw [n87, if_neg (by omega)]; exact j2⟩
section
variable {K : jc_K} {G : jg_G} {k : Nat}
theorem jIn.q (h : jIn K G k) {p : Int} (hp : 0 ≤ p ∧ p < 24) {q : Nat} (e : fc3 K p = some (K, q)) (q0 : q ≠ 0) : ¬ jSw q ∧ ¬ jSw (q + 1) := by
  have key : (9 ≤ q ∧ q < 56) ∨ (71 ≤ q ∧ q < 78) := by
    unfold fc3 at e
    rw [if_neg (by omega), if_pos hp.2, (h.page hp).1, jo_bs] at e
    dsimp only at e
    have f15 : (fc15 K p).bind (fun x => if x.2 = 0 then (if 0 ≤ p ∧ p < 24 then some (x.1, 9 + 2 * Int.toNat p) else none) else (some (x.1, 0))) = some (K, q) → (9 ≤ q ∧ q < 56) := fun e => by
      cases e15 : fc15 K p with
      | none => rw [e15] at e; exact nomatch e
      | some x =>
        rw [e15, jo_bs] at e
        by_cases z : x.2 = 0
        · rw [if_pos z, if_pos hp] at e
          have := congrArg Prod.snd (Option.some.inj e)
          have : 9 + 2 * Int.toNat p = q := this
          omega
        · rw [if_neg z] at e
          have := congrArg Prod.snd (Option.some.inj e)
          exact absurd this.symm q0
    by_cases c : fr_fo G p < 0
    · rw [if_pos c] at e
      exact Or.inl (f15 e)
    · rw [if_neg c] at e
      by_cases c2 : 4 ≤ fr_fo G p
      · rw [if_pos c2] at e
        exact Or.inl (f15 e)
      · rw [if_neg c2, if_pos (by omega)] at e
        have := congrArg Prod.snd (Option.some.inj e)
        have : 71 + 2 * Int.toNat (fr_fo G p) = q := this
        exact Or.inr (by omega)
  unfold jSw
  omega
/-- a leaf's keys -/
theorem jk_104l {c : jp_C} {q : Nat} {a lo hi d : Int} (hw : jp_w c) (hk : c.1 = 1) (ha : 0 ≤ a ∧ a < 24) (hq : ¬ jSw q ∧ ¬ jSw (q + 1)) : ∀ (m : Nat) (i : Int) (K : jc_K), jp_k K q c → jc_i K 89 a = lo → jc_i K 90 a = hi → 0 ≤ i → i ≤ c.2.1 → c.2.1 < i + m → ∃ K', fc104_59 m K a q i = some (K', 0) ∧ ∃ v, jk_o K K' v ∧ (((∃ j, i ≤ j ∧ j < c.2.1 ∧ ¬ (lo ≤ c.2.2.1 j ∧ c.2.2.1 j < hi)) ∧ v = jmn (jc_i K 86 10) 3) ∨ ((¬ ∃ j, i ≤ j ∧ j < c.2.1 ∧ ¬ (lo ≤ c.2.2.1 j ∧ c.2.2.1 j < hi)) ∧ v = jc_i K 86 10)) := by
  intro m
  induction m with
  | zero => intro i K hp e1 e2 h0 h1 h2; omega
  | succ m ih =>
    intro i K hp e1 e2 h0 h1 h2
    have c32 := hw.1
    unfold fc104_59
    rw [if_pos hp.1, hp.2.2.1]
    by_cases e : c.2.1 ≤ i
    · rw [if_pos e]
      exact ⟨K, rfl, _, jk_o.refl K, Or.inr ⟨fun ⟨j, j0, j1, _⟩ => by omega, rfl⟩⟩
    rw [if_neg e, jk_fc38 hw hp h0 (by omega), jo_bs]
    dsimp only
    rw [if_pos ha, e1]
    have bad : ¬ (lo ≤ c.2.2.1 i ∧ c.2.2.1 i < hi) → ∃ K', ((fc101 K 3).bind fun x7 => if -2147483648 ≤ (i + 1) ∧ (i + 1) < 2147483648 then fc104_59 m (x7.1) a q (i + 1) else none) = some (K', 0) ∧ ∃ v, jk_o K K' v ∧ (((∃ j, i ≤ j ∧ j < c.2.1 ∧ ¬ (lo ≤ c.2.2.1 j ∧ c.2.2.1 j < hi)) ∧ v = jmn (jc_i K 86 10) 3) ∨ ((¬ ∃ j, i ≤ j ∧ j < c.2.1 ∧ ¬ (lo ≤ c.2.2.1 j ∧ c.2.2.1 j < hi)) ∧ v = jc_i K 86 10)) := fun hb => by
      obtain ⟨K1, y1, y2⟩ := jk_101 (K := K) (f := 3)
      rw [y1, jo_bs, if_pos (by omega)]
      obtain ⟨K', z1, v, z2, z3⟩ := ih (i + 1) K1 (y2.1.k hq.1 hq.2 hp) ((y2.2.1 89 a (by omega)).trans e1) ((y2.2.1 90 a (by omega)).trans e2) (by omega) (by omega) (by omega)
      refine ⟨K', z1, v, y2.trans z2, Or.inl ⟨⟨i, Int.le_refl _, by omega, hb⟩, ?_⟩⟩
      rw [y2.2.2] at z3
      have j3 : jmn (jmn (jc_i K 86 10) 3) 3 = jmn (jc_i K 86 10) 3 := jmn_i
      rcases z3 with z3 | z3
      · rw [z3.2, j3]
      · exact z3.2
    by_cases g1 : c.2.2.1 i < lo
    · rw [if_pos g1]
      exact bad (fun z => by omega)
    rw [if_neg g1, e2]
    by_cases g2 : hi ≤ c.2.2.1 i
    · rw [if_pos g2]
      exact bad (fun z => by omega)
    rw [if_neg g2]
    have good : ∃ K', fc104_59 m K a q (i + 1) = some (K', 0) ∧ ∃ v, jk_o K K' v ∧ (((∃ j, i ≤ j ∧ j < c.2.1 ∧ ¬ (lo ≤ c.2.2.1 j ∧ c.2.2.1 j < hi)) ∧ v = jmn (jc_i K 86 10) 3) ∨ ((¬ ∃ j, i ≤ j ∧ j < c.2.1 ∧ ¬ (lo ≤ c.2.2.1 j ∧ c.2.2.1 j < hi)) ∧ v = jc_i K 86 10)) := by
      obtain ⟨K', z1, v, z2, z3⟩ := ih (i + 1) K hp e1 e2 (by omega) (by omega) (by omega)
      refine ⟨K', z1, v, z2, ?_⟩
      rcases z3 with ⟨⟨j, j0, j1, j2⟩, z3⟩ | ⟨z0, z3⟩
      · exact Or.inl ⟨⟨j, by omega, j1, j2⟩, z3⟩
      · refine Or.inr ⟨fun ⟨j, j0, j1, j2⟩ => ?_, z3⟩
        by_cases z : j = i
        · rw [z] at j2; omega
        · exact z0 ⟨j, by omega, j1, j2⟩
    by_cases i0 : i ≤ 0
    · rw [if_pos i0, if_pos (by omega)]
      exact good
    · have up : c.2.2.1 (i - 1) < c.2.2.1 i := by
        rcases hw.2 with w | w | w
        · have := w.1; omega
        · have := w.2.2 (i - 1) (by omega) (by omega)
          rw [show i - 1 + 1 = i by omega] at this
          exact this
        · have := w.1; omega
      rw [if_neg i0, if_pos hp.1, if_pos (by omega), jk_fc38 hw hp (by omega) (by omega), jo_bs]
      dsimp only
      rw [if_pos up, if_pos (by omega)]
      exact good
/-- a leaf is looked into -/
theorem jk_104 {K : jc_K} {c : jp_C} {q : Nat} {a p lo hi d : Int} (hw : jp_w c) (hk : c.1 = 1) (ha : 0 ≤ a ∧ a < 24) (hq : ¬ jSw q ∧ ¬ jSw (q + 1)) (hp : jp_k K q c) (e0 : jc_i K 87 a = p) (e1 : jc_i K 89 a = lo) (e2 : jc_i K 90 a = hi) (e3 : jc_i K 88 a = d) : ∃ K' v w1 w2, fc104 K a q = some (K', 0) ∧ jk_s jSw K K' ∧ (∀ n i, ¬ (n = 86 ∧ (i = 10 ∨ i = 9)) → jc_i K' n i = jc_i K n i) ∧ jc_i K' 86 10 = v ∧ jc_i K' 86 9 = d ∧ ((jc_i K 86 9 ≠ -1 ∧ jc_i K 86 9 ≠ d) → w1 = jmn (jc_i K 86 10) 4) ∧ (¬ (jc_i K 86 9 ≠ -1 ∧ jc_i K 86 9 ≠ d) → w1 = jc_i K 86 10) ∧ (c.2.1 = 0 ∧ p ≠ 0 → w2 = jmn w1 5) ∧ (¬ (c.2.1 = 0 ∧ p ≠ 0) → w2 = w1) ∧ (¬ jrk c (lo, hi, d) → v = jmn w2 3) ∧ (¬ ¬ jrk c (lo, hi, d) → v = w2) := by
  have c32 := hw.1
  have bd : (∃ j, 0 ≤ j ∧ j < c.2.1 ∧ ¬ (lo ≤ c.2.2.1 j ∧ c.2.2.1 j < hi)) ↔ ¬ jrk c (lo, hi, d) := by
    constructor
    · rintro ⟨j, j0, j1, j2⟩ z
      exact j2 (z j j0 j1 (Or.inl hk))
    · intro z
      rcases Classical.em (∃ j, 0 ≤ j ∧ j < c.2.1 ∧ ¬ (lo ≤ c.2.2.1 j ∧ c.2.2.1 j < hi)) with y | y
      · exact y
      · exact absurd (fun j j0 j1 _ => by
          rcases Classical.em (lo ≤ c.2.2.1 j ∧ c.2.2.1 j < hi) with x | x
          · exact x
          · exact absurd ⟨j, j0, j1, x⟩ y) z
  -- from the depth on
  have tail : ∀ K1 : jc_K, jk_s jSw K K1 → (∀ n i, ¬ (n = 86 ∧ (i = 10 ∨ i = 9)) → jc_i K1 n i = jc_i K n i) → ∃ K' v w2, (if jc_pg K1 q then if jc_i (jc_ui K1 86 9 (jc_i K1 88 a)) q 2 = 0 then (if jc_i K1 87 a = 0 then (fc104_59 jo_N (jc_ui K1 86 9 (jc_i K1 88 a)) a q 0) else ((fc101 (jc_ui K1 86 9 (jc_i K1 88 a)) 5).bind fun x7 => fc104_59 jo_N (x7.1) a q 0)) else (fc104_59 jo_N (jc_ui K1 86 9 (jc_i K1 88 a)) a q 0) else none) = some (K', 0) ∧ jk_s jSw K K' ∧ (∀ n i, ¬ (n = 86 ∧ (i = 10 ∨ i = 9)) → jc_i K' n i = jc_i K n i) ∧ jc_i K' 86 10 = v ∧ jc_i K' 86 9 = d ∧ (c.2.1 = 0 ∧ p ≠ 0 → w2 = jmn (jc_i K1 86 10) 5) ∧ (¬ (c.2.1 = 0 ∧ p ≠ 0) → w2 = jc_i K1 86 10) ∧ (¬ jrk c (lo, hi, d) → v = jmn w2 3) ∧ (¬ ¬ jrk c (lo, hi, d) → v = w2) := fun K1 s1 o1 => by
    have hp1 := s1.k hq.1 hq.2 hp
    have s2 : jk_s jSw K1 (jc_ui K1 86 9 (jc_i K1 88 a)) := jk_s.u jSw86
    have o2 : ∀ n i, ¬ (n = 86 ∧ (i = 10 ∨ i = 9)) → jc_i (jc_ui K1 86 9 (jc_i K1 88 a)) n i = jc_i K n i := fun n i z => by
      by_cases en : n = 86
      · rw [en, jc_uI (by omega)]
        have := o1 n i z
        rw [en] at this
        exact this
      · rw [jc_uN en]; exact o1 n i z
    have v9 : jc_i (jc_ui K1 86 9 (jc_i K1 88 a)) 86 9 = d := by rw [jc_uH, o1 88 a (by omega)]; exact e3
    have v10 : jc_i (jc_ui K1 86 9 (jc_i K1 88 a)) 86 10 = jc_i K1 86 10 := jc_uI (by decide)
    have hp2 := s2.k hq.1 hq.2 hp1
    have e0' : jc_i K1 87 a = p := (o1 87 a (by omega)).trans e0
    generalize jc_ui K1 86 9 (jc_i K1 88 a) = K2 at s2 o2 v9 v10 hp2
    rw [if_pos hp1.1, hp2.2.2.1, e0']
    have loop : ∀ K3, jk_s jSw K2 K3 → (∀ n i, ¬ (n = 86 ∧ i = 10) → jc_i K3 n i = jc_i K2 n i) → ∃ K' v, fc104_59 jo_N K3 a q 0 = some (K', 0) ∧ jk_s jSw K K' ∧ (∀ n i, ¬ (n = 86 ∧ (i = 10 ∨ i = 9)) → jc_i K' n i = jc_i K n i) ∧ jc_i K' 86 10 = v ∧ jc_i K' 86 9 = d ∧ (¬ jrk c (lo, hi, d) → v = jmn (jc_i K3 86 10) 3) ∧ (¬ ¬ jrk c (lo, hi, d) → v = jc_i K3 86 10) := fun K3 s3 o3 => by
      obtain ⟨K', z1, v, z2, z3⟩ := jk_104l (lo := lo) (hi := hi) (d := d) hw hk ha hq jo_N 0 K3 (s3.k hq.1 hq.2 hp2) ((o3 89 a (by omega)).trans ((o2 89 a (by omega)).trans e1)) ((o3 90 a (by omega)).trans ((o2 90 a (by omega)).trans e2)) (by decide) c32.1 (by unfold jo_N; omega)
      refine ⟨K', v, z1, ((s1.trans s2).trans s3).trans z2.1, fun n i y => ?_, z2.2.2, ?_, fun y => ?_, fun y => ?_⟩
      · rw [z2.2.1 n i (by omega), o3 n i (by omega), o2 n i y]
      · rw [z2.2.1 86 9 (by omega), o3 86 9 (by omega)]; exact v9
      · rcases z3 with z3 | z3
        · exact z3.2
        · exact absurd (bd.2 y) z3.1
      · rcases z3 with z3 | z3
        · exact absurd (bd.1 z3.1) y
        · exact z3.2
    by_cases c0 : c.2.1 = 0
    · rw [if_pos c0]
      by_cases p0 : p = 0
      · rw [if_pos p0]
        obtain ⟨K', v, a1, a2, a3, a4, a5, a6, a7⟩ := loop K2 jk_s.refl (fun _ _ _ => rfl)
        rw [v10] at a6 a7
        exact ⟨K', v, jc_i K1 86 10, a1, a2, a3, a4, a5, fun z => absurd p0 z.2, fun _ => rfl, a6, a7⟩
      · rw [if_neg p0]
        obtain ⟨K3, y1, y2⟩ := jk_101 (K := K2) (f := 5)
        rw [y1, jo_bs]
        obtain ⟨K', v, a1, a2, a3, a4, a5, a6, a7⟩ := loop K3 y2.1 y2.2.1
        rw [y2.2.2, v10] at a6 a7
        exact ⟨K', v, jmn (jc_i K1 86 10) 5, a1, a2, a3, a4, a5, fun _ => rfl, fun z => absurd ⟨c0, p0⟩ z, a6, a7⟩
    · rw [if_neg c0]
      obtain ⟨K', v, a1, a2, a3, a4, a5, a6, a7⟩ := loop K2 jk_s.refl (fun _ _ _ => rfl)
      rw [v10] at a6 a7
      exact ⟨K', v, jc_i K1 86 10, a1, a2, a3, a4, a5, fun z => absurd z.1 c0, fun _ => rfl, a6, a7⟩
  unfold fc104
  by_cases l0 : jc_i K 86 9 = -1
  · rw [if_pos l0, if_pos ha]
    obtain ⟨K', v, w2, a1, a2, a3, a4, a5, a6, a7, a8, a9⟩ := tail K jk_s.refl (fun _ _ _ => rfl)
    exact ⟨K', v, _, w2, a1, a2, a3, a4, a5, fun z => absurd l0 z.1, fun _ => rfl, a6, a7, a8, a9⟩
  · rw [if_neg l0, if_pos ha, e3]
    by_cases l1 : jc_i K 86 9 = d
    · rw [if_pos l1]
      obtain ⟨K', v, w2, a1, a2, a3, a4, a5, a6, a7, a8, a9⟩ := tail K jk_s.refl (fun _ _ _ => rfl)
      rw [e3] at a1
      exact ⟨K', v, _, w2, a1, a2, a3, a4, a5, fun z => absurd l1 z.2, fun _ => rfl, a6, a7, a8, a9⟩
    · rw [if_neg l1]
      obtain ⟨K1, y1, y2⟩ := jk_101 (K := K) (f := 4)
      rw [y1, jo_bs]
      dsimp only
      obtain ⟨K', v, w2, a1, a2, a3, a4, a5, a6, a7, a8, a9⟩ := tail K1 y2.1 (fun n i z => y2.2.1 n i (by omega))
      rw [y2.2.2] at a6 a7
      exact ⟨K', v, _, w2, a1, a2, a3, a4, a5, fun _ => rfl, fun z => absurd ⟨l0, l1⟩ z, a6, a7, a8, a9⟩
end
