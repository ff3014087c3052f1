/-! WHAT HOLDS BETWEEN ACTIONS, on the reference's side -/
/-- what MARKs tell -/
def jMk (G : jg_G) (N : Nat) : Prop := ∀ r : Nat, 1 ≤ r → r ≤ N → G 98 r = 4 → (∀ t, 0 ≤ t → t < 4 → G 93 (67 * (54 + 3 * ((r : Int) - 1)) + t) = jt G t r) ∧ ∀ p, 0 ≤ p → p < 24 → ∃ f : Nat, G 93 (67 * (54 + 3 * ((r : Int) - 1)) + 4 + p) = f ∧ f ≤ r ∧ ((jv G p (if f = 0 then r else f - 1) : Nat) : Int) ≤ G 93 (67 * (5 + 2 * p) + 1)
theorem jMk.a {G G' : jg_G} {n m : Nat} (h : jMk G n) (hl : jl_a G G' m) (hd : jd_m G G') (hm : m ≤ n) : jMk G' m := fun r r0 r1 hr => by
  rw [hl.l (m := 98) (by decide) (by omega) (by omega)] at hr
  obtain ⟨a, b⟩ := h r r0 (by omega) hr
  refine ⟨fun t t0 t1 => ?_, fun p p0 p1 => ?_⟩
  · rw [hl 93 _ (Or.inr (Or.inr ⟨rfl, by omega, by omega⟩)), hl.t t r (by omega)]
    exact a t t0 t1
  · obtain ⟨f, f1, f2, f3⟩ := b p p0 p1
    refine ⟨f, ?_, f2, ?_⟩
    · rw [hl 93 _ (Or.inr (Or.inr ⟨rfl, by omega, by omega⟩))]
      exact f1
    · rw [hl.v p _ (by split <;> omega)]
      exact Int.le_trans f3 (hd p p0 p1)
/-- calls that were spent -/
def jph (G : jg_G) (N : Nat) : Nat := 2 * (jcw G 2 N + jcw G 3 N) + jsum (fun t => if 0 < jt G t N then 2 else if G 107 t = 1 then (if G 110 t = -1 then 1 else 2) else 0) 4
def jph0 (G : jg_G) (N : Nat) : Nat := 2 * (jcw G 2 N + jcw G 3 N) + jsum (fun t => if 0 < jt G t N then 2 else 0) 4
theorem jph0_le (G : jg_G) (N : Nat) : jph0 G N ≤ jph G N := by
  unfold jph0 jph
  have := jsum_le (f := fun t => if 0 < jt G t N then 2 else 0) (g := fun t => if 0 < jt G t N then 2 else if G 107 t = 1 then (if G 110 t = -1 then 1 else 2) else 0) 4 (fun i hi => by
    show (if 0 < jt G i N then 2 else 0) ≤ (if 0 < jt G i N then 2 else _)
    split
    · exact Nat.le_refl _
    · exact Nat.zero_le _)
  omega
theorem jl_a.ph0 {G G' : jg_G} {n : Int} (h : jl_a G G' n) {m : Nat} (hm : (m : Int) ≤ n) : jph0 G' m = jph0 G m := by
  unfold jph0
  rw [h.cw 2 m hm, h.cw 3 m hm]
  congr 1
  refine jsum_e 4 (fun i hi => ?_)
  show (if 0 < jt G' i m then 2 else 0) = (if 0 < jt G i m then 2 else 0)
  rw [h.t i m hm]
theorem jph0_up {G : jg_G} {n : Nat} (h : jl_1 G (n + 1)) : jph0 G n ≤ jph0 G (n + 1) := by
  have ec : (((n + 1 : Nat) : Nat) : Int) = (n : Int) + 1 := by omega
  unfold jl_1 at h
  rw [ec] at h
  unfold jph0
  have e2 : jcw G 2 (n + 1) = jcw G 2 n + (if G 98 ((n : Int) + 1) = 2 then 1 else 0) := rfl
  have e3 : jcw G 3 (n + 1) = jcw G 3 n + (if G 98 ((n : Int) + 1) = 3 then 1 else 0) := rfl
  rw [e2, e3]
  have jn : ∀ t, jt G t (n + 1) = if G 99 ((n : Int) + 1) = t then (if G 98 ((n : Int) + 1) = 2 ∨ G 98 ((n : Int) + 1) = 3 then 0 else (n : Int) + 1) else jt G t n := fun t => rfl
  by_cases c : G 98 ((n : Int) + 1) = 2 ∨ G 98 ((n : Int) + 1) = 3
  · have ht := h.2.1.1 (by omega)
    have key : jsum (fun t => if 0 < jt G t n then 2 else 0) 4 ≤ jsum (fun t => if 0 < jt G t (n + 1) then 2 else 0) 4 + 2 := by
      have := jsum_u (f := fun t => if 0 < jt G t (n + 1) then 2 else 0) (g := fun t => if t = G 99 ((n : Int) + 1) then 0 else if 0 < jt G t n then 2 else 0) (j := (G 99 ((n : Int) + 1)).toNat) (d := 0) (by
        have e : (((G 99 ((n : Int) + 1)).toNat : Nat) : Int) = G 99 ((n : Int) + 1) := by omega
        rw [e]
        show (if 0 < jt G (G 99 ((n : Int) + 1)) (n + 1) then 2 else 0) + 0 = (if G 99 ((n : Int) + 1) = G 99 ((n : Int) + 1) then 0 else _)
        rw [jn, if_pos rfl, if_pos c, if_pos rfl]
        rfl) 4 (by omega) (fun i hi hj => by
        show (if 0 < jt G i (n + 1) then 2 else 0) = (if (i : Int) = G 99 ((n : Int) + 1) then 0 else if 0 < jt G i n then 2 else 0)
        rw [jn, if_neg (show ¬ G 99 ((n : Int) + 1) = (i : Int) by omega), if_neg (show ¬ (i : Int) = G 99 ((n : Int) + 1) by omega)])
      have k2 := jsum_u (f := fun t => if t = G 99 ((n : Int) + 1) then 0 else if 0 < jt G t n then 2 else 0) (g := fun t => if 0 < jt G t n then 2 else 0) (j := (G 99 ((n : Int) + 1)).toNat) (d := if 0 < jt G (G 99 ((n : Int) + 1)) n then 2 else 0) (by
        have e : (((G 99 ((n : Int) + 1)).toNat : Nat) : Int) = G 99 ((n : Int) + 1) := by omega
        rw [e]
        show (if G 99 ((n : Int) + 1) = G 99 ((n : Int) + 1) then 0 else _) + _ = _
        rw [if_pos rfl]
        exact Nat.zero_add _) 4 (by omega) (fun i hi hj => by
        show (if (i : Int) = G 99 ((n : Int) + 1) then 0 else if 0 < jt G i n then 2 else 0) = _
        rw [if_neg (by omega)])
      have k3 : (if 0 < jt G (G 99 ((n : Int) + 1)) n then 2 else 0) ≤ 2 := by split <;> decide
      omega
    rcases c with c | c <;> rw [c] <;> simp <;> omega
  · have key : jsum (fun t => if 0 < jt G t n then 2 else 0) 4 ≤ jsum (fun t => if 0 < jt G t (n + 1) then 2 else 0) 4 := jsum_le 4 (fun i hi => by
      show (if 0 < jt G i n then 2 else 0) ≤ (if 0 < jt G i (n + 1) then 2 else 0)
      rw [jn]
      by_cases e : G 99 ((n : Int) + 1) = i
      · rw [if_pos e, if_neg c, if_pos (show (0 : Int) < (n : Int) + 1 by omega)]
        split <;> decide
      · rw [if_neg e]
        exact Nat.le_refl _)
    omega
theorem jph0_mono {G : jg_G} {n : Nat} : ∀ (k : Nat), (∀ r : Nat, 1 ≤ r → r ≤ n + k → jl_1 G r) → jph0 G n ≤ jph0 G (n + k)
  | 0, _ => Nat.le_refl _
  | k + 1, h => Nat.le_trans (jph0_mono k (fun r a b => h r a (by omega))) (jph0_up (n := n + k) (h (n + k + 1) (by omega) (by omega)))
abbrev jZW : Type := Nat × Int × (Int → Int)
/-- what no action touches -/
def jgz (W : jZW) (G : jg_G) : Prop := G 92 0 = W.2.1 ∧ ∀ j, G 113 j = W.2.2 j
/-- no COMMIT is behind what is durable: the committed values by any beginning from there on are those that are kept beside -/
def jPx (G : jg_G) (N : Nat) : Prop := ∀ m : Nat, m ≤ N → (m = N ∨ G 92 13 ≤ m) → ∀ x, 0 ≤ x → x < 32 → jpv G x m = G 113 (-1 - x)
/-- the records of t since its latest end -/
def jzn (G : jg_G) (t : Int) : Nat → Int
  | 0 => 0
  | n + 1 => if G 99 ((n : Int) + 1) = t then (if G 98 ((n : Int) + 1) = 2 ∨ G 98 ((n : Int) + 1) = 3 then 0 else jzn G t n + 1) else jzn G t n
theorem jl_a.zn {G G' : jg_G} {n : Int} (h : jl_a G G' n) (t : Int) : ∀ m : Nat, (m : Int) ≤ n → jzn G' t m = jzn G t m
  | 0, _ => rfl
  | m + 1, hm => by
    unfold jzn
    rw [h.zn t m (by omega), h.l (m := 98) (by decide) (by omega) (by omega), h.l (m := 99) (by decide) (by omega) (by omega)]
theorem jzn_o {G : jg_G} {t : Int} {n : Nat} (h : G 99 ((n : Int) + 1) ≠ t) : jzn G t (n + 1) = jzn G t n := by
  show (if G 99 ((n : Int) + 1) = t then _ else _) = _
  rw [if_neg h]
theorem jzn_k {G : jg_G} {t : Int} {n : Nat} (h : G 99 ((n : Int) + 1) = t) (h2 : G 98 ((n : Int) + 1) ≤ 1) : jzn G t (n + 1) = jzn G t n + 1 := by
  show (if G 99 ((n : Int) + 1) = t then _ else _) = _
  rw [if_pos h, if_neg (by omega)]
theorem jzn_b (G : jg_G) (t : Int) : ∀ n : Nat, 0 ≤ jzn G t n ∧ jzn G t n ≤ n
  | 0 => ⟨Int.le_refl _, Int.le_refl _⟩
  | n + 1 => by
    have := jzn_b G t n
    unfold jzn
    split
    · split
      · omega
      · omega
    · omega
theorem jzn_jt {G : jg_G} {t : Int} : ∀ n : Nat, jt G t n = 0 → jzn G t n = 0
  | 0, _ => rfl
  | n + 1, h => by
    by_cases e : G 99 ((n : Int) + 1) = t
    · by_cases e2 : G 98 ((n : Int) + 1) = 2 ∨ G 98 ((n : Int) + 1) = 3
      · show (if G 99 ((n : Int) + 1) = t then _ else _) = _
        rw [if_pos e, if_pos e2]
      · have : jt G t (n + 1) = (n : Int) + 1 := by
          show (if G 99 ((n : Int) + 1) = t then _ else _) = _
          rw [if_pos e, if_neg e2]
        omega
    · have : jt G t (n + 1) = jt G t n := by
        show (if G 99 ((n : Int) + 1) = t then _ else _) = _
        rw [if_neg e]
      rw [jzn_o e]
      exact jzn_jt n (by omega)
theorem jzn_ot {G G' : jg_G} {N N' : Nat} {s : Int} (hl : jl_a G G' N) (ht : jt G' s N' = jt G s N) : jzn G' s N' = jzn G s N := by
  have aux : ∀ (X : jg_G) (n : Nat), jzn X s n = jzn X s (jt X s n).toNat := fun X n => by
    induction n with
    | zero => rfl
    | succ n ih =>
      by_cases e : X 99 ((n : Int) + 1) = s
      · by_cases e2 : X 98 ((n : Int) + 1) = 2 ∨ X 98 ((n : Int) + 1) = 3
        · have : jt X s (n + 1) = 0 := by
            show (if X 99 ((n : Int) + 1) = s then _ else _) = _
            rw [if_pos e, if_pos e2]
          rw [this]
          show (if X 99 ((n : Int) + 1) = s then _ else _) = _
          rw [if_pos e, if_pos e2]
          rfl
        · have : jt X s (n + 1) = (n : Int) + 1 := by
            show (if X 99 ((n : Int) + 1) = s then _ else _) = _
            rw [if_pos e, if_neg e2]
          rw [this, show ((n : Int) + 1).toNat = n + 1 by omega]
      · have : jt X s (n + 1) = jt X s n := by
          show (if X 99 ((n : Int) + 1) = s then _ else _) = _
          rw [if_neg e]
        rw [this, jzn_o e]
        exact ih
  have b := jt_b G s N
  rw [aux G' N', ht, hl.zn s _ (by omega), ← aux G N]
/-- what an open one has touched it has locked; its count -/
def jHo (G : jg_G) (N : Nat) : Prop := (∀ x t, 0 ≤ x → x < 32 → 0 ≤ t → t < 4 → G 107 t = 1 → jpp G x t N ≠ -2 → G 111 x = t) ∧ ∀ t, 0 ≤ t → t < 4 → G 107 t = 1 → G 109 t = jzn G t N
/-- the same but for one -/
def jHx (G : jg_G) (N : Nat) (v : Int) : Prop := (∀ x t, 0 ≤ x → x < 32 → 0 ≤ t → t < 4 → t ≠ v → G 107 t = 1 → jpp G x t N ≠ -2 → G 111 x = t) ∧ ∀ t, 0 ≤ t → t < 4 → t ≠ v → G 107 t = 1 → G 109 t = jzn G t N
theorem jPx.up {G G' : jg_G} {N : Nat} (h : jPx G N) (hl : jl_a G G' N) (h13 : G 92 13 ≤ G' 92 13) (h98 : G' 98 ((N : Int) + 1) ≠ 2) (h113 : ∀ j, G' 113 j = G 113 j) : jPx G' (N + 1) := fun m m1 m0 x x0 x1 => by
  rw [h113]
  by_cases e : m = N + 1
  · rw [e, jpv_o h98, hl.pv x N (Int.le_refl _)]
    exact h N (Nat.le_refl _) (Or.inl rfl) x x0 x1
  · rw [hl.pv x m (by omega)]
    exact h m (by omega) (Or.inr (by omega)) x x0 x1
theorem jPx.same {G G' : jg_G} {N : Nat} (h : jPx G N) (hl : jl_a G G' N) (h13 : G 92 13 ≤ G' 92 13) (h113 : ∀ j, G' 113 j = G 113 j) : jPx G' N := fun m m1 m0 x x0 x1 => by
  rw [h113, hl.pv x m (by omega)]
  exact h m m1 (m0.imp id (fun z => by omega)) x x0 x1
/-- what a crash left -/
theorem jPx.cut {G G' : jg_G} {N n : Nat} (h : jPx G N) (hl : jl_a G G' n) (hn : n ≤ N) (h13 : G 92 13 ≤ n) (h113 : ∀ j, G' 113 j = G 113 j) : ∀ x, 0 ≤ x → x < 32 → jpv G' x n = G' 113 (-1 - x) := fun x x0 x1 => by
  rw [h113, hl.pv x n (Int.le_refl _)]
  exact h n hn (Or.inr h13) x x0 x1
theorem jHo.up {G G' : jg_G} {N N' : Nat} (h : jHo G N) (g7 : ∀ t, 0 ≤ t → t < 4 → G' 107 t = 1 → G 107 t = 1) (g11 : ∀ k, 0 ≤ k → k < 32 → G' 111 k = G 111 k) (hp : ∀ x t, 0 ≤ x → x < 32 → 0 ≤ t → t < 4 → jpp G' x t N' ≠ -2 → jpp G x t N ≠ -2) (g9 : ∀ t, 0 ≤ t → t < 4 → G' 107 t = 1 → G 109 t = jzn G t N → G' 109 t = jzn G' t N') : jHo G' N' := ⟨fun x t x0 x1 t0 t1 h7 hq => by
  rw [g11 x x0 x1]
  exact h.1 x t x0 x1 t0 t1 (g7 t t0 t1 h7) (hp x t x0 x1 t0 t1 hq), fun t t0 t1 h7 => g9 t t0 t1 h7 (h.2 t t0 t1 (g7 t t0 t1 h7))⟩
def jM (G : jg_G) (N κ : Nat) (W : jZW) (B : Nat) : Prop := (jLg G N ∧ jMk G N) ∧ (∀ t, 0 ≤ t → t < 4 → G 108 t = jt G t N) ∧ (∀ k, 0 ≤ k → k < 32 → -1 ≤ G 111 k ∧ G 111 k < 4) ∧ jph G N ≤ κ ∧ jcw G 0 N + jcw G 5 N + jcw G 4 N ≤ B ∧ jP G ≤ W.1 + 3 * N ∧ jgz W G ∧ jPx G N ∧ jHo G N
/-- the same of what a crash left -/
def jMf (G : jg_G) (κ : Nat) (W : jZW) (B : Nat) : Prop := ∃ n : Nat, G 92 12 = n ∧ (jLg G n ∧ jMk G n) ∧ jph0 G n ≤ κ ∧ jcw G 0 n + jcw G 5 n + jcw G 4 n ≤ B ∧ G 92 3 ≤ W.1 + 3300 ∧ jgz W G ∧ ∀ x, 0 ≤ x → x < 32 → jpv G x n = G 113 (-1 - x)
theorem jM.len {G : jg_G} {N κ B : Nat} {W : jZW} (h : jM G N κ W B) (hκ : κ ≤ 513) (hB : B ≤ 223) : N ≤ 925 := by
  have := h.1.1.len (E := κ) (B := B) (by have := h.2.2.2.1; unfold jph at this; omega) h.2.2.2.2.1
  omega
theorem jl_1.sa {G : jg_G} {N : Nat} {w : Int} (hw : 4 ≤ w ∧ w ≤ 7) (h : G 98 ((N : Int) + 1) = w ∧ G 99 ((N : Int) + 1) = -1 ∧ G 100 ((N : Int) + 1) = 0 ∧ G 101 ((N : Int) + 1) = -1) : jl_1 G (N + 1) := by
  have ec : (((N + 1 : Nat) : Nat) : Int) = (N : Int) + 1 := by omega
  obtain ⟨a, b, c, d⟩ := h
  unfold jl_1
  rw [ec, a, b, c, d]
  exact ⟨by omega, ⟨fun z => by omega, fun _ => rfl⟩, by rw [if_pos rfl], fun z => by omega, fun z => by omega, fun _ => rfl⟩
theorem jt_sa {G : jg_G} {N : Nat} (h : G 99 ((N : Int) + 1) = -1) {t : Int} (ht : 0 ≤ t) : jt G t (N + 1) = jt G t N := by
  show (if G 99 ((N : Int) + 1) = t then _ else jt G t N) = _
  rw [if_neg (by omega)]
theorem jl_2.sa {G : jg_G} {N : Nat} {w : Int} (h : jl_2 G N) (h1 : ∀ r : Nat, 1 ≤ r → r ≤ N → jl_1 G r) (hw : 4 ≤ w ∧ w ≤ 7) (h98 : G 98 ((N : Int) + 1) = w) (h99 : G 99 ((N : Int) + 1) = -1) (hn : jnf (fun p => jh G (N + 1) p) + (if 6 ≤ w then 1 else 0) ≤ jnf (fun p => jh G N p) + (if w = 5 then 2 else 0)) (hq : jT_q (fun p => jh G (N + 1) p)) (hE : jzE (fun p => jh G (N + 1) p) (fun x => jzA G x N)) (hD : jzD (fun p => jh G (N + 1) p)) : jl_2 G (N + 1) := by
  have ep : jpd G (N + 1) = jpd G N := by
    unfold jpd
    refine jsum_e 4 (fun i hi => ?_)
    rw [jt_sa h99 (by omega)]
    have := jt_b G i N
    exact jpl_f h1 _ _ _ (by omega) (by omega) (by omega)
  have cw : ∀ v, jcw G v (N + 1) = jcw G v N + (if w = v then 1 else 0) := fun v => by
    show jcw G v N + (if G 98 ((N : Int) + 1) = v then 1 else 0) = _
    rw [h98]
  obtain ⟨_, a, b, -⟩ := h
  have key : jcw G 1 (N + 1) + jpd G (N + 1) ≤ jcw G 0 (N + 1) ∧ jnf (fun p => jh G (N + 1) p) + jcw G 6 (N + 1) + jcw G 7 (N + 1) ≤ 1 + 2 * jcw G 5 (N + 1) := by
    rw [ep, cw, cw, cw, cw, cw]
    rcases (show w = 4 ∨ w = 5 ∨ w = 6 ∨ w = 7 by omega) with e | e | e | e <;> subst e <;> simp at hn ⊢ <;> omega
  refine ⟨hq, key.1, key.2, ?_, hD, fun m hm => ?_⟩
  · have eA : (fun x => jzA G x (N + 1)) = fun x => jzA G x N := funext (fun x => jzA_o (by omega))
    rw [eA]
    exact hE
  · have e : m = N := by omega
    subst e
    exact ⟨fun z => by omega, fun z => by omega, fun z => by omega, fun z => by omega, fun z => by omega⟩
theorem jM_sa {K K' : jc_K} {G G' : jg_G} {N x κ B : Nat} {W : jZW} {w b : Int} {P : Int → Prop} {c : Int → jp_C} (hM : jM G N κ W B) (hκ : κ ≤ 513) (hB : B ≤ 223) (hw : 5 ≤ w ∧ w ≤ 7) (s : jSA K K' G G' N x w b P c) (hT : ∃ lo hi rk, jTs (fun p => jh G' (N + 1) p) lo hi rk) (hn : jnf (fun p => jh G' (N + 1) p) + (if 6 ≤ w then 1 else 0) ≤ jnf (fun p => jh G N p) + (if w = 5 then 2 else 0)) (hq : jT_q (fun p => jh G' (N + 1) p)) (hE : jzE (fun p => jh G' (N + 1) p) (fun x => jzA G x N)) (hD : jzD (fun p => jh G' (N + 1) p)) : (b = 1 → jM G' (N + 1) κ W (if w = 5 then B + 1 else B)) ∧ (b = 0 → jMf G' κ W (if w = 5 then B + 1 else B)) := by
  have hlen := hM.len hκ hB
  obtain ⟨_, ⟨⟨hl, hd, h13⟩, ⟨f98, f99, f100, f101, f104⟩, hp⟩, ho⟩ := s
  obtain ⟨⟨m1, m2⟩, m3, m4, m5, m6, m7, m8, m9, m10⟩ := hM
  have b1 := m1.a hl (Nat.le_refl _)
  have e2 : (fun p => jh G' N p) = fun p => jh G N p := funext (fun p => hl.h p N (Int.le_refl _))
  have j1 : jl_1 G' (N + 1) := jl_1.sa ⟨by omega, hw.2⟩ ⟨f98, f99, f100, f101⟩
  have j2 : jl_2 G' (N + 1) := (b1.2.2 N (Nat.le_refl _)).sa b1.1 ⟨by omega, hw.2⟩ f98 f99 (by rw [e2]; exact hn) hq (by rw [show (fun x => jzA G' x N) = fun x => jzA G x N from funext (fun x => hl.zA x N (Int.le_refl _))]; exact hE) hD
  have L : jLg G' (N + 1) := m1.up hl j1 hT j2
  have Mk : jMk G' (N + 1) := fun r r0 r1 hr => by
    by_cases e : r = N + 1
    · rw [e, show (((N + 1 : Nat) : Nat) : Int) = (N : Int) + 1 by omega, f98] at hr
      omega
    · exact m2.a hl hd (Nat.le_refl _) r r0 (by omega) hr
  have cw : ∀ v, v ≠ 5 → v < 6 → jcw G' v (N + 1) = jcw G v N := fun v hv hv2 => by
    show jcw G' v N + (if G' 98 ((N : Int) + 1) = v then 1 else 0) = _
    rw [hl.cw v N (Int.le_refl _), f98]
    by_cases e : w = v
    · omega
    · rw [if_neg e]; rfl
  have cw5 : jcw G' 5 (N + 1) = jcw G 5 N + (if w = 5 then 1 else 0) := by
    show jcw G' 5 N + (if G' 98 ((N : Int) + 1) = 5 then 1 else 0) = _
    rw [hl.cw 5 N (Int.le_refl _), f98]
  have ejt : ∀ t : Int, 0 ≤ t → jt G' t (N + 1) = jt G t N := fun t t0 => by rw [jt_sa f99 t0, hl.t t N (Int.le_refl _)]
  have csm : jcw G' 0 (N + 1) + jcw G' 5 (N + 1) + jcw G' 4 (N + 1) ≤ (if w = 5 then B + 1 else B) := by
    rw [cw 0 (by decide) (by decide), cw5, cw 4 (by decide) (by decide)]
    split <;> omega
  have p0 : jph0 G' (N + 1) ≤ κ := by
    have := jph0_le G N
    have e : jph0 G' (N + 1) = jph0 G N := by
      unfold jph0
      rw [cw 2 (by decide) (by decide), cw 3 (by decide) (by decide)]
      congr 1
      refine jsum_e 4 (fun i hi => ?_)
      show (if 0 < jt G' i (N + 1) then 2 else 0) = _
      rw [ejt i (by omega)]
    omega
  refine ⟨fun hb => ?_, fun hb => ?_⟩
  · rcases ho with ⟨_, y1, y2, y3, y4, y5⟩ | ⟨e, _⟩
    · have h113 : ∀ j, G' 113 j = G 113 j := fun j => y2.2.2.1 113 (by decide) j
      refine ⟨⟨L, Mk⟩, fun t t0 t1 => ?_, fun k k0 k1 => ?_, ?_, csm, ?_, ?_, m9.up hl h13 (by rw [f98]; omega) h113, m10.up (fun t _ _ h => by rw [← y2.2.2.1 107 (by decide)]; exact h) (fun k _ _ => y2.2.2.1 111 (by decide) k) (fun y t _ _ t0 _ h => by
        rw [jpp_o (by omega), hl.pp y t N (Int.le_refl _)] at h
        exact h) (fun t t0 _ _ h9 => by rw [(y4 t).2.1, jzn_o (by omega), hl.zn t N (Int.le_refl _)]; exact h9)⟩
      · rw [(y4 t).1, ejt t t0]; exact m3 t t0 t1
      · rw [y2.2.2.1 111 (by omega)]; exact m4 k k0 k1
      · have e : jph G' (N + 1) = jph G N := by
          unfold jph
          rw [cw 2 (by decide) (by decide), cw 3 (by decide) (by decide)]
          congr 1
          refine jsum_e 4 (fun i hi => ?_)
          show (if 0 < jt G' i (N + 1) then 2 else if G' 107 i = 1 then (if G' 110 i = -1 then 1 else 2) else 0) = _
          rw [ejt i (by omega), y2.2.2.1 107 (by omega), y2.2.2.1 110 (by omega)]
        rw [e]; exact m5
      · have : (((N + 1 : Nat) : Nat) : Int) = (N : Int) + 1 := by omega
        omega
      · exact ⟨(y2.2.1 0 (by decide) (by decide) (by decide) (by decide) (by decide) (by decide) (by decide) (by decide)).trans m8.1, fun j => (y2.2.2.1 113 (by decide) j).trans (m8.2 j)⟩
    · omega
  · rcases ho with ⟨e, _⟩ | ⟨_, y1, y2, y3, y4, y5⟩
    · omega
    · have h0 : 0 ≤ G' 92 13 := y1.1.2.1.2.2.1.1
      have h12 := y1.2.1.2.1
      have le : (G' 92 12).toNat ≤ N + 1 := by omega
      refine ⟨(G' 92 12).toNat, by omega, ⟨L.le le, Mk.a (jl_a.refl G' _) (jd_m.refl G') le⟩, ?_, ?_, ?_, ⟨y4.trans m8.1, fun j => (y5 j).trans (m8.2 j)⟩, m9.up hl h13 (by rw [f98]; omega) y5 _ le (Or.inr (by have := y1.2.1.2.1; omega))⟩
      · have := jph0_mono (G := G') (n := (G' 92 12).toNat) (N + 1 - (G' 92 12).toNat) (fun r r0 r1 => L.1 r r0 (by omega))
        rw [show (G' 92 12).toNat + (N + 1 - (G' 92 12).toNat) = N + 1 by omega] at this
        omega
      · have a0 := jcw_mono2 G' 0 le
        have a5 := jcw_mono2 G' 5 le
        have a4 := jcw_mono2 G' 4 le
        omega
      · omega
