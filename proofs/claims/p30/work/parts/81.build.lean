/-! THE LOG, class and reference alike; A RECORD IN BUILDING -/
def jLt (K : jc_K) (G : jg_G) : Prop := ∀ t, 0 ≤ t → t < 4 → jc_i K 59 t = G 108 t ∧ (G 107 t = 1 → jc_i K 60 t = G 109 t)
def jZ (K : jc_K) (G : jg_G) (N : Nat) : Prop := ∀ r : Nat, 1 ≤ r → r ≤ N → jg_rec K G r (jc_p K 64 ((r : Int) - 1)) ∧ jl_v G r
/-- alive, N records in the log, x throws so far -/
def jY (K : jc_K) (G : jg_G) (N x : Nat) : Prop := jN K G (fun p => jv G p N) N ∧ (jc_i K 63 4 = N ∧ jZ K G N) ∧ jLt K G ∧ jD K ∧ jR K x
/-- the record behind N is being built, its thing is q -/
def jB (K : jc_K) (G : jg_G) (N x q : Nat) : Prop := (jN K (jg_u G 92 12 N) (fun p => jv G p N) N ∧ G 92 12 = (N : Int) + 1) ∧ (jc_i K 63 4 = (N : Int) + 1 ∧ jZ K G N) ∧ jLt K G ∧ (jD K ∧ jR K x) ∧ (jc_p K 64 N = q ∧ jc_rc K q) ∧ N < 1100
/-- only things of the record i changed -/
def jk_b (K K' : jc_K) (i : Int) : Prop := jk_g (jo_w K i) K K' ∧ ∀ n, jo_w K' i n → jo_w K i n ∨ K.1.1 ≤ n
/-- only cells of the record r changed -/
def jr_b (G G' : jg_G) (r : Int) : Prop := ∀ m j, ¬ (101 ≤ m ∧ m ≤ 105 ∧ j = r) → ¬ (m = 106 ∧ 3 * r ≤ j ∧ j < 3 * r + 3) → ¬ (m = 93 ∧ 67 * (54 + 3 * (r - 1)) ≤ j ∧ j < 67 * (54 + 3 * r)) → G' m j = G m j
theorem jr_b.refl (G : jg_G) (r : Int) : jr_b G G r := fun _ _ _ _ _ => rfl
theorem jr_b.trans {G G' G'' : jg_G} {r : Int} (h : jr_b G G' r) (h2 : jr_b G' G'' r) : jr_b G G'' r := fun m j a b c => (h2 m j a b c).trans (h m j a b c)
theorem jr_b.l {G G' : jg_G} {N : Nat} (h : jr_b G G' ((N : Int) + 1)) : jl_a G G' N := fun m j e => h m j (by omega) (by omega) (by omega)
theorem jk_b.refl (K : jc_K) (i : Int) : jk_b K K i := ⟨jk_g.refl, fun _ h => Or.inl h⟩
theorem jk_b.trans {K K' K'' : jc_K} {i : Int} (h : jk_b K K' i) (h2 : jk_b K' K'' i) : jk_b K K'' i := by
  obtain ⟨⟨a1, a2, a3, a4⟩, a5⟩ := h
  obtain ⟨⟨b1, b2, b3, b4⟩, b5⟩ := h2
  have no : ∀ n, n < K.1.1 → ¬ jo_w K i n → ¬ jo_w K' i n := fun n hn z y => by
    rcases a5 n y with w | w
    · exact z w
    · omega
  refine ⟨⟨Nat.le_trans a1 b1, fun n hn => (b2 n (by omega)).trans (a2 n hn), fun n j hn z => (b3 n j (by omega) (no n hn z)).trans (a3 n j hn z), fun n j hn z => (b4 n j (by omega) (no n hn z)).trans (a4 n j hn z)⟩, fun n y => ?_⟩
  rcases b5 n y with w | w
  · exact a5 n w
  · exact Or.inr (by omega)
theorem jl_v.b {G G' : jg_G} {r : Nat} {N : Nat} (h : jl_v G r) (hl : jl_a G G' N) (h1 : 1 ≤ r) (h2 : r ≤ N) : jl_v G' r := h.a (hl.le (by omega)) h1
theorem jZ.g {K K' : jc_K} {G G' : jg_G} {N : Nat} {S : Nat → Prop} (h : jZ K G N) (hN : N ≤ 1100) (s : jk_g S K K') (hb : ∀ n, n < K.1.1 → S n → n < 98 ∨ (N < 1100 ∧ jo_w K N n)) (hD : jD K) (hl : jl_a G G' N) (h64 : ∀ i : Int, 0 ≤ i → i < N → jc_p K' 64 i = jc_p K 64 i) : jZ K' G' N := fun r h1 h2 => by
  obtain ⟨a, b⟩ := h r h1 h2
  have b3 := b.2.1.2
  rw [h64 _ (by omega) (by omega)]
  refine ⟨a.g s (fun n hn => ?_) (hl.le (by omega)) (by omega) b3, b.b hl h1 h2⟩
  have x := hD.own_b (by omega) hn
  refine ⟨x.2, fun z => ?_⟩
  rcases hb n x.2 z with w | w
  · omega
  · exact hD.own (i := (r : Int) - 1) (i' := (N : Int)) (by omega) (by omega) (by omega) hn w.2
theorem jB.step {K K' : jc_K} {G G' : jg_G} {N x q : Nat} (h : jB K G N x q) (k : jk_b K K' N) (hD : jD K') (hR : jR K' x) (hq : jc_rc K' q) (g : jr_b G G' ((N : Int) + 1)) : jB K' G' N x q := by
  obtain ⟨⟨n1, n2⟩, ⟨z1, z2⟩, lt, ⟨d1, d2⟩, ⟨q1, q2⟩, hN⟩ := h
  have nb : ∀ n, jo_w K N n → 98 ≤ n ∧ n < K.1.1 := fun n hn => d1.own_b (by omega) hn
  have f120 := d1.1
  have hl : jl_a (jg_u G 92 12 N) (jg_u G' 92 12 N) N := fun m j e => by
    rw [jg_uN (by omega), jg_uN (by omega)]
    exact g.l m j e
  have ev : (fun p => jv G' p N) = fun p => jv G p N := funext fun p => g.l.v p N (Int.le_refl _)
  refine ⟨⟨?_, (g 92 12 (by omega) (by omega) (by omega)).trans n2⟩, ⟨?_, ?_⟩, fun t t0 t1 => ?_, ⟨hD, hR⟩, ⟨?_, hq⟩, hN⟩
  · rw [ev]
    refine (n1.grow k.1 (fun n hn z => by have := nb n z; unfold jN_k at hn; omega) f120).ref (Nat.le_refl _) (by omega) jg_uH (fun i hi => ?_) (fun n hn j => ?_) (fun j hj => ?_) hl
    · rw [jg_uI (by omega), jg_uI (by omega)]; exact g 92 i (by omega) (by omega) (by omega)
    · rw [jg_uN (by omega), jg_uN (by omega)]; exact g n j (by omega) (by omega) (by omega)
    · rw [jg_uN (by decide), jg_uN (by decide)]; exact g 93 j (by omega) (by omega) (by omega)
  · exact (k.1.2.2.2 63 4 (by omega) (fun z => by have := nb _ z; omega)).trans z1
  · exact z2.g (by omega) k.1 (fun n _ e => Or.inr ⟨hN, e⟩) d1 g.l (fun i i0 i1 => k.1.2.2.1 64 i (by omega) (fun z => by have := nb _ z; omega))
  · rw [k.1.2.2.2 59 t (by omega) (fun z => by have := nb _ z; omega), k.1.2.2.2 60 t (by omega) (fun z => by have := nb _ z; omega), g 108 t (by omega) (by omega) (by omega), g 109 t (by omega) (by omega) (by omega), g 107 t (by omega) (by omega) (by omega)]
    exact lt t t0 t1
  · exact (k.1.2.2.1 64 N (by omega) (fun z => by have := nb _ z; omega)).trans q1
