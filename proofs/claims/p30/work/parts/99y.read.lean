/-! RECOVER: the log is read -/
/-- the first record of p since it differs, as read from s on -/
def jrf (G : jg_G) (s : Nat) (f0 : Int → Int) (p : Int) : Nat → Int
  | 0 => f0 p
  | n + 1 => if n + 1 ≤ s then f0 p else if jrf G s f0 p n = 0 ∧ jh_k G ((n : Int) + 1) p ≠ -1 then (n : Int) + 1 else jrf G s f0 p n
theorem jrf_s {G : jg_G} {s : Nat} {f0 : Int → Int} {p : Int} : jrf G s f0 p s = f0 p := by
  cases s with
  | zero => rfl
  | succ s => exact if_pos (Nat.le_refl _)
theorem jrf_n {G : jg_G} {s n : Nat} {f0 : Int → Int} {p : Int} (h : s ≤ n) : jrf G s f0 p (n + 1) = if jrf G s f0 p n = 0 ∧ jh_k G ((n : Int) + 1) p ≠ -1 then (n : Int) + 1 else jrf G s f0 p n := if_neg (by omega)
/-- the latest MARK up to n; 0: none -/
def jlm (G : jg_G) : Nat → Nat
  | 0 => 0
  | n + 1 => if G 98 ((n : Int) + 1) = 4 then n + 1 else jlm G n
theorem jlm_is (G : jg_G) : ∀ n : Nat, jlm G n ≤ n ∧ (0 < jlm G n → G 98 ((jlm G n : Nat) : Int) = 4)
  | 0 => ⟨Nat.le_refl _, fun h => absurd h (Nat.lt_irrefl _)⟩
  | n + 1 => by
    have ih := jlm_is G n
    unfold jlm
    by_cases e : G 98 ((n : Int) + 1) = 4
    · rw [if_pos e]
      exact ⟨Nat.le_refl _, fun _ => by rw [show ((n + 1 : Nat) : Int) = (n : Int) + 1 by omega]; exact e⟩
    · rw [if_neg e]
      exact ⟨by omega, ih.2⟩
/-- how many steps the records up to n take -/
def jw2 (G : jg_G) : Nat → Nat
  | 0 => 0
  | n + 1 => jw2 G n + 2 + (G 105 ((n : Int) + 1)).toNat
theorem jw2_mono {G : jg_G} {n : Nat} : ∀ d : Nat, jw2 G n ≤ jw2 G (n + d)
  | 0 => Nat.le_refl _
  | d + 1 => by
    have := jw2_mono (G := G) (n := n) d
    show _ ≤ jw2 G (n + d) + 2 + _
    omega
theorem jw2_c {G : jg_G} {N : Nat} (h1 : ∀ r : Nat, 1 ≤ r → r ≤ N → (0 ≤ G 98 r ∧ G 98 r ≤ 7) ∧ (0 ≤ G 105 r ∧ G 105 r ≤ 3) ∧ (0 < G 105 r → 1 < G 98 r → 5 ≤ G 98 r)) : ∀ n : Nat, n ≤ N → jw2 G n ≤ 2 * n + 3 * (jcw G 0 n + jcw G 1 n + jcw G 5 n + jcw G 6 n + jcw G 7 n)
  | 0, _ => Nat.le_refl _
  | n + 1, hn => by
    have ih := jw2_c h1 n (by omega)
    obtain ⟨a, b, c⟩ := h1 (n + 1) (by omega) hn
    rw [show ((n + 1 : Nat) : Int) = (n : Int) + 1 by omega] at a b c
    have e : ∀ w, jcw G w (n + 1) = jcw G w n + (if G 98 ((n : Int) + 1) = w then 1 else 0) := fun w => rfl
    rw [e, e, e, e, e]
    show jw2 G n + 2 + (G 105 ((n : Int) + 1)).toNat ≤ _
    by_cases z : 0 < G 105 ((n : Int) + 1)
    · rcases (show G 98 ((n : Int) + 1) = 0 ∨ G 98 ((n : Int) + 1) = 1 ∨ G 98 ((n : Int) + 1) = 5 ∨ G 98 ((n : Int) + 1) = 6 ∨ G 98 ((n : Int) + 1) = 7 by omega) with y | y | y | y | y <;> rw [y] <;> simp <;> omega
    · omega
theorem jw2_b {K : jc_K} {G : jg_G} {N κ B : Nat} (hz : jZ K G N) (hL : jLg G N) (hκ : 2 * (jcw G 2 N + jcw G 3 N) ≤ κ) (hκ2 : κ ≤ 513) (hB : jcw G 0 N + jcw G 5 N + jcw G 4 N ≤ B) (hB2 : B ≤ 223) : jw2 G N ≤ 3900 ∧ N ≤ 925 := by
  have a := jw2_c (G := G) (N := N) (fun r r0 r1 => by
    obtain ⟨_, v⟩ := hz r r0 r1
    exact ⟨v.1, v.2.1, v.2.2.2.2.1⟩) N (Nat.le_refl _)
  have b := jcw_all N (fun r r0 r1 => (hL.1 r r0 r1).1)
  obtain ⟨_, c, d⟩ := hL.2.2 N (Nat.le_refl _)
  have e : 1 ≤ jnf (fun p => jh G N p) := by
    obtain ⟨lo, hi, rk, hT⟩ := hL.2.1 N (Nat.le_refl _)
    have := jsum_ge (f := fun p => if (jh G N p).1 = 0 then 0 else 1) (j := 0) 24 (by decide)
    have r := hT.1.2.1
    have e : (if (jh G N ((0 : Nat) : Int)).1 = 0 then 0 else 1) = 1 := if_neg r
    rw [e] at this
    exact this
  have l := hL.len hκ hB
  omega
def jRd (n : Nat) : Prop := n = 59 ∨ n = 84 ∨ n = 85
theorem jRd.hi {n : Nat} (h : 98 ≤ n) : ¬ jRd n := by unfold jRd; omega
section
variable {G : jg_G}
/-- the pages of a record, the class -/
theorem jk_5660 {r : Nat} {q : Nat} (hv : jl_v G r) (h1 : 1 ≤ r) : ∀ (m : Nat) (k : Int) (K : jc_K), (jc_rc K q ∧ jc_i K q 8 = G 105 r ∧ ∀ k, 0 ≤ k → k < G 105 r → jc_i K (q + 1) k = G 106 (3 * (r : Int) + k)) → 0 ≤ k → k ≤ G 105 r → G 105 r < k + m → ∃ K', fc56_60 m K q r k = some (K', 0) ∧ jk_s (fun n => n = 84) K K' ∧ ∀ p, 0 ≤ p → p < 24 → jc_i K' 84 p = if jc_i K 84 p = 0 ∧ k ≤ jh_k G r p then (r : Int) else jc_i K 84 p := by
  intro m
  induction m with
  | zero => intro k K hq h0 h2 h3; omega
  | succ m ih =>
    intro k K hq h0 h2 h3
    have q120 := hq.1.1.1
    have v3 := hv.2.1.2
    unfold fc56_60
    rw [if_pos hq.1, hq.2.1]
    by_cases e : G 105 r ≤ k
    · rw [if_pos e]
      refine ⟨K, rfl, jk_s.refl, fun p p0 p1 => ?_⟩
      have hb := (jh_k_b G r p).2.2
      rw [if_neg (fun z => by have := hb (by omega); omega)]
    · obtain ⟨cp, ck⟩ := hv.2.2.1 k h0 (by omega)
      have e30 : fc30 K q k = some (K, G 106 (3 * (r : Int) + k)) := by
        unfold fc30
        rw [if_neg (by omega), if_pos hq.1, hq.2.1, if_neg e, if_neg (by omega), if_pos ⟨by omega, by omega⟩, hq.2.2 k h0 (by omega)]
      rw [if_neg e, e30, jo_bs]
      dsimp only
      generalize hp : G 106 (3 * (r : Int) + k) = pk at cp ck
      have key : ∀ p, p ≠ pk → (k ≤ jh_k G r p ↔ k + 1 ≤ jh_k G r p) := fun p hn => by
        refine ⟨fun z => ?_, fun z => by omega⟩
        by_cases y : jh_k G r p = k
        · have := ((jh_k_b G r p).2.2 (by omega)).2
          rw [y, hp] at this
          exact absurd this.symm hn
        · omega
      rw [if_neg (by omega), if_neg (by omega), if_pos (by omega)]
      by_cases z0 : jc_i K 84 pk = 0
      · rw [if_pos z0, if_pos (by omega)]
        obtain ⟨K', y1, y2, y3⟩ := ih (k + 1) (jc_ui K 84 pk r) ⟨hq.1, (jc_uN (by omega)).trans hq.2.1, fun k' a b => (jc_uN (by omega)).trans (hq.2.2 k' a b)⟩ (by omega) (by omega) (by omega)
        refine ⟨K', y1, (jk_s.u (S := fun n => n = 84) rfl).trans y2, fun p p0 p1 => ?_⟩
        rw [y3 p p0 p1]
        by_cases ep : p = pk
        · subst ep
          rw [jc_uH, if_neg (by omega), if_pos ⟨z0, by omega⟩]
        · rw [jc_uI ep]
          by_cases w : jc_i K 84 p = 0 ∧ k ≤ jh_k G r p
          · rw [if_pos w, if_pos ⟨w.1, (key p ep).1 w.2⟩]
          · rw [if_neg w, if_neg (fun x => w ⟨x.1, (key p ep).2 x.2⟩)]
      · rw [if_neg z0, if_pos (by omega)]
        obtain ⟨K', y1, y2, y3⟩ := ih (k + 1) K hq (by omega) (by omega) (by omega)
        refine ⟨K', y1, y2, fun p p0 p1 => ?_⟩
        rw [y3 p p0 p1]
        by_cases ep : p = pk
        · subst ep
          rw [if_neg (fun x => z0 x.1), if_neg (fun x => z0 x.1)]
        · by_cases w : jc_i K 84 p = 0 ∧ k ≤ jh_k G r p
          · rw [if_pos w, if_pos ⟨w.1, (key p ep).1 w.2⟩]
          · rw [if_neg w, if_neg (fun x => w ⟨x.1, (key p ep).2 x.2⟩)]
theorem jhk_nn {r p : Int} : (0 ≤ jh_k G r p) ↔ jh_k G r p ≠ -1 := by
  have := jh_k_b G r p
  omega
/-- one record read, the class -/
theorem jk_56 {K : jc_K} {r : Nat} {q : Nat} (hq : jg_rec K G r q) (hv : jl_v G r) (hl : jl_1 G r) (h1 : 1 ≤ r) : ∃ K', fc56 K q r = some (K', 0) ∧ jk_s (fun n => n = 59 ∨ n = 84) K K' ∧ (∀ t, 0 ≤ t → t < 4 → jc_i K' 59 t = if G 99 r = t then (if G 98 r = 2 ∨ G 98 r = 3 then 0 else (r : Int)) else jc_i K 59 t) ∧ ∀ p, 0 ≤ p → p < 24 → jc_i K' 84 p = if jc_i K 84 p = 0 ∧ jh_k G r p ≠ -1 then (r : Int) else jc_i K 84 p := by
  obtain ⟨qa, ⟨qb0, qb1, qb2, qb3, qb6, qb7, qb8⟩, qc, qd, qe, qf, qg⟩ := hq
  have q120 := qa.1.1
  have v105 := hv.2.1
  have go : ∀ (K1 : jc_K), (∀ n, n ≠ 59 → ∀ i, jc_i K1 n i = jc_i K n i) → (K1.1 = K.1 ∧ K1.2.1 = K.2.1 ∧ K1.2.2.2 = K.2.2.2) → (∀ t, 0 ≤ t → t < 4 → jc_i K1 59 t = if G 99 r = t then (if G 98 r = 2 ∨ G 98 r = 3 then 0 else (r : Int)) else jc_i K 59 t) → ∃ K', fc56_60 jo_N K1 q r 0 = some (K', 0) ∧ jk_s (fun n => n = 59 ∨ n = 84) K K' ∧ (∀ t, 0 ≤ t → t < 4 → jc_i K' 59 t = if G 99 r = t then (if G 98 r = 2 ∨ G 98 r = 3 then 0 else (r : Int)) else jc_i K 59 t) ∧ ∀ p, 0 ≤ p → p < 24 → jc_i K' 84 p = if jc_i K 84 p = 0 ∧ jh_k G r p ≠ -1 then (r : Int) else jc_i K 84 p := fun K1 e1 e2 e3 => by
    have s1 : jk_s (fun n => n = 59 ∨ n = 84) K K1 := ⟨e2, fun n hn i => e1 n (fun z => hn (Or.inl z)) i⟩
    obtain ⟨K', y1, y2, y3⟩ := jk_5660 hv h1 jo_N 0 K1 ⟨s1.rc qa, (e1 q (by omega) 8).trans qb8, fun k k0 k1 => (e1 (q + 1) (by omega) k).trans (qe k k0 k1)⟩ (Int.le_refl _) v105.1 (by unfold jo_N; omega)
    refine ⟨K', y1, s1.trans (y2.mono (fun n e => Or.inr e)), fun t t0 t1 => ?_, fun p p0 p1 => ?_⟩
    · rw [y2.2 59 (by decide)]; exact e3 t t0 t1
    · rw [y3 p p0 p1, e1 84 (by decide)]
      by_cases z : jc_i K 84 p = 0 ∧ jh_k G r p ≠ -1
      · rw [if_pos z, if_pos ⟨z.1, jhk_nn.2 z.2⟩]
      · rw [if_neg z, if_neg (fun x => z ⟨x.1, jhk_nn.1 x.2⟩)]
  have who := hl.2.1
  unfold fc56
  rw [if_pos qa, qb2, qb1]
  by_cases w0 : G 99 r < 0
  · rw [if_pos w0]
    exact go K (fun _ _ _ => rfl) ⟨rfl, rfl, rfl⟩ (fun t t0 t1 => by rw [if_neg (by omega)])
  · have k3 : G 98 r ≤ 3 := by
      by_cases z : 4 ≤ G 98 r
      · have := who.2 z; omega
      · omega
    have wb := who.1 k3
    rw [if_neg w0, if_neg (by omega)]
    have put : ∀ v : Int, v = (if G 98 r = 2 ∨ G 98 r = 3 then 0 else (r : Int)) → ∀ t, 0 ≤ t → t < 4 → jc_i (jc_ui K 59 (G 99 r) v) 59 t = if G 99 r = t then (if G 98 r = 2 ∨ G 98 r = 3 then 0 else (r : Int)) else jc_i K 59 t := fun v hv t t0 t1 => by
      by_cases e : G 99 r = t
      · rw [if_pos e, e, jc_uH]; exact hv
      · rw [if_neg e, jc_uI (fun z => e z.symm)]
    have oth : ∀ v : Int, ∀ n, n ≠ 59 → ∀ i, jc_i (jc_ui K 59 (G 99 r) v) n i = jc_i K n i := fun v n hn i => jc_uN hn
    by_cases k2 : G 98 r = 2
    · rw [if_pos k2, if_pos wb]
      exact go _ (oth 0) ⟨rfl, rfl, rfl⟩ (put 0 (by rw [if_pos (Or.inl k2)]))
    · rw [if_neg k2]
      by_cases k3 : G 98 r = 3
      · rw [if_pos k3, if_pos wb]
        exact go _ (oth 0) ⟨rfl, rfl, rfl⟩ (put 0 (by rw [if_pos (Or.inr k3)]))
      · rw [if_neg k3, if_pos wb]
        exact go _ (oth r) ⟨rfl, rfl, rfl⟩ (put r (by rw [if_neg (by omega)]))
/-- all records from n on, the class -/
theorem jk_5361 {N s : Nat} {f0 : Int → Int} {l1 : Int} {l2 : Nat} (hL : jLg G N) (hN : N ≤ 1100) : ∀ (d m n : Nat) (K : jc_K), n + d = N → s ≤ n → d < m → jZ K G N → jc_i K 63 4 = N → (∀ t, 0 ≤ t → t < 4 → jc_i K 59 t = jt G t n) → (∀ p, 0 ≤ p → p < 24 → jc_i K 84 p = jrf G s f0 p n) → (0 ≤ jc_i K 85 0 ∧ jc_i K 85 0 + d ≤ 2000) → ∃ K', fc53_61 m K l1 l2 ((n : Int) + 1) = some (K', 0) ∧ jk_s jRd K K' ∧ (∀ t, 0 ≤ t → t < 4 → jc_i K' 59 t = jt G t N) ∧ (∀ p, 0 ≤ p → p < 24 → jc_i K' 84 p = jrf G s f0 p N) ∧ jc_i K' 85 0 = jc_i K 85 0 + d ∧ ∀ i, i ≠ 0 → jc_i K' 85 i = jc_i K 85 i := by
  intro d
  induction d with
  | zero =>
    intro m n K e sn hm hz h63 h59 h84 h85
    have en : n = N := by omega
    subst en
    cases m with
    | zero => omega
    | succ m =>
      unfold fc53_61
      rw [h63, if_pos (by omega)]
      exact ⟨K, rfl, jk_s.refl, h59, h84, by omega, fun _ _ => rfl⟩
  | succ d ih =>
    intro m n K e sn hm hz h63 h59 h84 h85
    cases m with
    | zero => omega
    | succ m =>
      obtain ⟨hq, hv⟩ := hz (n + 1) (by omega) (by omega)
      have ec : ((n + 1 : Nat) : Int) = (n : Int) + 1 := by omega
      have hl := hL.1 (n + 1) (by omega) (by omega)
      rw [show ((n + 1 : Nat) : Int) - 1 = (n : Int) by omega] at hq
      have q120 := hq.1.1.1
      have e19 : fc19 K ((n : Int) + 1) = some (K, jc_p K 64 (n : Int)) := by
        unfold fc19
        rw [if_neg (by omega), h63, if_neg (by omega), if_neg (by omega), if_pos (by omega), jo_lne, show (n : Int) + 1 - 1 = n by omega]
      obtain ⟨K1, y1, y2, y3, y4⟩ := jk_56 hq hv hl (by omega)
      rw [ec] at y1 y3 y4
      have e85 : jc_i K1 85 0 = jc_i K 85 0 := y2.2 85 (by decide) 0
      have m1 : jb_m (jc_i K1 85 0 + 1) = jc_i K 85 0 + 1 := by rw [e85]; exact jb_m_e ⟨by omega, by omega⟩
      have s2 : jk_s jRd K (jc_ui K1 85 0 (jc_i K 85 0 + 1)) := (y2.mono (fun n e => by unfold jRd; omega)).trans (jk_s.u (Or.inr (Or.inr rfl)))
      unfold fc53_61
      rw [h63, if_neg (by omega), e19, jo_bs]
      dsimp only
      rw [if_neg (show ¬ jc_p K 64 (n : Int) = 0 by omega), y1, jo_bs]
      dsimp only
      rw [if_pos (by omega), m1]
      obtain ⟨K', z1, z2, z3, z4, z5, z6⟩ := ih m (n + 1) (jc_ui K1 85 0 (jc_i K 85 0 + 1)) (by omega) (by omega) (by omega) (hz.s s2 (fun n hn => jRd.hi hn) (jl_a.refl G N)) ((s2.2 63 (by unfold jRd; omega) 4).trans h63) (fun t t0 t1 => by
        rw [jc_uN (by decide), y3 t t0 t1, h59 t t0 t1]
        rfl) (fun p p0 p1 => by
        rw [jc_uN (by decide), y4 p p0 p1, h84 p p0 p1, jrf_n sn]) (by rw [jc_uH]; omega)
      rw [ec] at z1
      refine ⟨K', z1, s2.trans z2, z3, z4, ?_, fun i hi => ?_⟩
      · rw [z5, jc_uH]; omega
      · rw [z6 i hi, jc_uI hi]; exact y2.2 85 (by decide) i
/-- what a MARK tells is believed, the class -/
theorem jk_55 {K : jc_K} {r : Nat} {q : Nat} (hq : jg_rec K G r q) (h4 : G 98 r = 4) : ∃ K', fc55 K q = some (K', 0) ∧ jk_s (fun n => n = 59 ∨ n = 84) K K' ∧ (∀ t, 0 ≤ t → t < 4 → jc_i K' 59 t = G 93 (67 * (54 + 3 * ((r : Int) - 1)) + t)) ∧ ∀ p, 0 ≤ p → p < 24 → jc_i K' 84 p = G 93 (67 * (54 + 3 * ((r : Int) - 1)) + 4 + p) := by
  obtain ⟨qa, _, _, _, _, _, qg⟩ := hq
  obtain ⟨⟨g1, g2⟩, g3, g4⟩ := qg h4
  have q120 := qa.1.1
  have l29 : ∀ (m : Nat) (l : Int) (K : jc_K), jc_rc K q → (jc_ta K (jc_p K q 12) 24 ∧ ∀ p, 0 ≤ p → p < 24 → jc_i K (jc_p K q 12) p = G 93 (67 * (54 + 3 * ((r : Int) - 1)) + 4 + p)) → 0 ≤ l → l ≤ 24 → 24 < l + m → (∀ p, 0 ≤ p → p < l → jc_i K 84 p = G 93 (67 * (54 + 3 * ((r : Int) - 1)) + 4 + p)) → ∃ K', fc55_29 m K q l = some (K', 0) ∧ jk_s (fun n => n = 84) K K' ∧ ∀ p, 0 ≤ p → p < 24 → jc_i K' 84 p = G 93 (67 * (54 + 3 * ((r : Int) - 1)) + 4 + p) := by
    intro m
    induction m with
    | zero => intro l K a b h0 h1 h2; omega
    | succ m ih =>
      intro l K a b h0 h1 h2 hp
      have t120 := b.1.1
      unfold fc55_29
      by_cases e : 24 ≤ l
      · rw [if_pos e]
        exact ⟨K, rfl, jk_s.refl, fun p p0 p1 => hp p p0 (by omega)⟩
      · have e29 : fc29 K q l = some (K, G 93 (67 * (54 + 3 * ((r : Int) - 1)) + 4 + l)) := by
          unfold fc29
          rw [if_pos a, jo_lne, if_neg (by omega), if_neg (by omega), jo_lne, if_pos b.1, if_neg e, jo_lne, if_pos b.1, if_pos ⟨h0, by omega⟩, b.2 l h0 (by omega)]
        rw [if_neg e, if_pos a, e29, jo_bs]
        dsimp only
        rw [if_pos (by omega), if_pos (by omega)]
        obtain ⟨K', y1, y2, y3⟩ := ih (l + 1) (jc_ui K 84 l (G 93 (67 * (54 + 3 * ((r : Int) - 1)) + 4 + l))) a ⟨b.1, fun p p0 p1 => (jc_uN (by
          show jc_p K q 12 ≠ 84
          omega)).trans (b.2 p p0 p1)⟩ (by omega) (by omega) (by omega) (fun p p0 p1 => by
          by_cases z : p = l
          · rw [z, jc_uH]
          · rw [jc_uI z]; exact hp p p0 (by omega))
        exact ⟨K', y1, (jk_s.u (S := fun n => n = 84) rfl).trans y2, y3⟩
  have l2 : ∀ (m : Nat) (l : Int) (K : jc_K), jc_rc K q → (jc_ta K (jc_p K q 11) 4 ∧ ∀ t, 0 ≤ t → t < 4 → jc_i K (jc_p K q 11) t = G 93 (67 * (54 + 3 * ((r : Int) - 1)) + t)) → (jc_ta K (jc_p K q 12) 24 ∧ ∀ p, 0 ≤ p → p < 24 → jc_i K (jc_p K q 12) p = G 93 (67 * (54 + 3 * ((r : Int) - 1)) + 4 + p)) → 0 ≤ l → l ≤ 4 → 4 < l + m → (∀ t, 0 ≤ t → t < l → jc_i K 59 t = G 93 (67 * (54 + 3 * ((r : Int) - 1)) + t)) → ∃ K', fc55_2 m K q l = some (K', 0) ∧ jk_s (fun n => n = 59 ∨ n = 84) K K' ∧ (∀ t, 0 ≤ t → t < 4 → jc_i K' 59 t = G 93 (67 * (54 + 3 * ((r : Int) - 1)) + t)) ∧ ∀ p, 0 ≤ p → p < 24 → jc_i K' 84 p = G 93 (67 * (54 + 3 * ((r : Int) - 1)) + 4 + p) := by
    intro m
    induction m with
    | zero => intro l K a b c h0 h1 h2; omega
    | succ m ih =>
      intro l K a b c h0 h1 h2 hp
      have t120 := b.1.1
      unfold fc55_2
      by_cases e : 4 ≤ l
      · rw [if_pos e]
        obtain ⟨K', y1, y2, y3⟩ := l29 jo_N 0 K a c (by decide) (by decide) (by decide) (fun p _ _ => by omega)
        exact ⟨K', y1, y2.mono (fun n e => Or.inr e), fun t t0 t1 => by rw [y2.2 59 (by decide)]; exact hp t t0 (by omega), y3⟩
      · have e28 : fc28 K q l = some (K, G 93 (67 * (54 + 3 * ((r : Int) - 1)) + l)) := by
          unfold fc28
          rw [if_pos a, jo_lne, if_neg (by omega), if_neg (by omega), jo_lne, if_pos b.1, if_neg e, jo_lne, if_pos b.1, if_pos ⟨h0, by omega⟩, b.2 l h0 (by omega)]
        rw [if_neg e, if_pos a, e28, jo_bs]
        dsimp only
        rw [if_pos (by omega), if_pos (by omega)]
        have c120 := c.1.1
        obtain ⟨K', y1, y2, y3⟩ := ih (l + 1) (jc_ui K 59 l (G 93 (67 * (54 + 3 * ((r : Int) - 1)) + l))) a ⟨b.1, fun p p0 p1 => (jc_uN (by
          show jc_p K q 11 ≠ 59
          omega)).trans (b.2 p p0 p1)⟩ ⟨c.1, fun p p0 p1 => (jc_uN (by
          show jc_p K q 12 ≠ 59
          omega)).trans (c.2 p p0 p1)⟩ (by omega) (by omega) (by omega) (fun t t0 t1 => by
          by_cases z : t = l
          · rw [z, jc_uH]
          · rw [jc_uI z]; exact hp t t0 (by omega))
        exact ⟨K', y1, (jk_s.u (Or.inl rfl)).trans y2, y3⟩
  exact l2 jo_N 0 K qa ⟨g1, g2⟩ ⟨g3, g4⟩ (by decide) (by decide) (by decide) (fun t _ _ => by omega)
/-- the latest MARK, the class -/
theorem jk_54 {K : jc_K} {N : Nat} (hN : N ≤ 1100) (hz : jZ K G N) (h63 : jc_i K 63 4 = N) : ∀ (n m : Nat), n ≤ N → n < m → fc54_8 m K n = some (K, if 2 ≤ jlm G n then ((jlm G n : Nat) : Int) else 1) := by
  intro n
  induction n with
  | zero =>
    intro m h1 h2
    cases m with
    | zero => omega
    | succ m =>
      unfold fc54_8
      rw [if_pos (by omega)]
      rfl
  | succ n ih =>
    intro m h1 h2
    cases m with
    | zero => omega
    | succ m =>
      have ec : ((n + 1 : Nat) : Int) = (n : Int) + 1 := by omega
      have hj := (jlm_is G n).1
      rw [ec]
      unfold fc54_8
      by_cases e1 : (n : Int) + 1 ≤ 1
      · have n0 : n = 0 := by omega
        subst n0
        rw [if_pos e1]
        have : ¬ 2 ≤ jlm G (0 + 1) := by have := (jlm_is G (0 + 1)).1; omega
        rw [if_neg this]
      · rw [if_neg e1]
        obtain ⟨hq, _⟩ := hz (n + 1) (by omega) (by omega)
        rw [show ((n + 1 : Nat) : Int) - 1 = (n : Int) by omega, ec] at hq
        have q120 := hq.1.1.1
        have e19 : fc19 K ((n : Int) + 1) = some (K, jc_p K 64 (n : Int)) := by
          unfold fc19
          rw [if_neg (by omega), h63, if_neg (by omega), if_neg (by omega), if_pos (by omega), jo_lne, show (n : Int) + 1 - 1 = n by omega]
        rw [e19, jo_bs]
        dsimp only
        rw [if_neg (show ¬ jc_p K 64 (n : Int) = 0 by omega), if_pos hq.1, hq.2.1.2.1]
        by_cases k4 : G 98 ((n : Int) + 1) = 4
        · have ej : jlm G (n + 1) = n + 1 := if_pos k4
          rw [if_pos k4, ej, if_pos (by omega), ec]
        · have ej : jlm G (n + 1) = jlm G n := if_neg k4
          rw [if_neg k4, if_pos (by omega), ej, show (n : Int) + 1 + -1 = n by omega]
          exact ih m (by omega) (by omega)
end
