/-! A NEW RECORD of the class -/
theorem jo_lne {α : Type} {v : Nat} {f : Nat → α} : jo_ln v f = f v := rfl
theorem jo_le {α : Type} {v : Int} {f : Int → α} : jo_l v f = f v := rfl
def jw_p (K : jc_K) (i : Int) : Nat := if jc_p K 64 i = 0 then 11 else ((if jc_p K (jc_p K 64 i + 2) 0 = 0 then 2 else 0) + (if jc_p K (jc_p K 64 i + 2) 1 = 0 then 2 else 0) + (if jc_p K (jc_p K 64 i + 2) 2 = 0 then 2 else 0)) + ((if jc_p K (jc_p K 64 i) 11 = 0 then 1 else 0) + (if jc_p K (jc_p K 64 i) 12 = 0 then 1 else 0))
def jw_sum (K : jc_K) : Nat → Nat
  | 0 => 0
  | n + 1 => jw_sum K n + jw_p K n
theorem jw_sum_e {K K' : jc_K} : ∀ n : Nat, (∀ i : Nat, i < n → jw_p K' i = jw_p K i) → jw_sum K' n = jw_sum K n := by
  intro n
  induction n with
  | zero => intro _; rfl
  | succ n ih =>
    intro h
    unfold jw_sum
    rw [ih (fun i hi => h i (by omega)), h n (by omega)]
theorem jw_sum_u {K K' : jc_K} {j d : Nat} (hd : jw_p K' j + d = jw_p K j) : ∀ n : Nat, j < n → (∀ i : Nat, i < n → i ≠ j → jw_p K' i = jw_p K i) → jw_sum K' n + d = jw_sum K n := by
  intro n
  induction n with
  | zero => intro h; omega
  | succ n ih =>
    intro hj h
    unfold jw_sum
    by_cases e : j = n
    · subst e
      rw [jw_sum_e j (fun i hi => h i (by omega) (by omega))]
      omega
    · have := ih (by omega) (fun i hi hne => h i (by omega) hne)
      rw [h n (by omega) (fun z => e z.symm)]
      omega
def jD_i (K : jc_K) (τ : Nat → Int) (i : Int) (q : Nat) : Prop := (jc_rc K q ∧ τ q = i) ∧ (∀ k, 0 ≤ k → k < 3 → jc_p K (q + 2) k = 0 ∨ (98 ≤ jc_p K (q + 2) k ∧ jc_pg K (jc_p K (q + 2) k) ∧ τ (jc_p K (q + 2) k) = i)) ∧ (∀ k k', 0 ≤ k → k < 3 → 0 ≤ k' → k' < 3 → k ≠ k' → jc_p K (q + 2) k ≠ 0 → jc_p K (q + 2) k ≠ jc_p K (q + 2) k') ∧ (jc_p K q 11 = 0 ∨ (jc_ta K (jc_p K q 11) 4 ∧ τ (jc_p K q 11) = i)) ∧ (jc_p K q 12 = 0 ∨ (jc_ta K (jc_p K q 12) 24 ∧ τ (jc_p K q 12) = i))
def jD (K : jc_K) : Prop := 98 ≤ K.1.1 ∧ (∃ τ : Nat → Int, ∀ i, 0 ≤ i → i < 1100 → jc_p K 64 i = 0 ∨ jD_i K τ i (jc_p K 64 i)) ∧ K.1.1 + jw_sum K 1100 ≤ 12220
/-- the room so far: x throws -/
def jR (K : jc_K) (x : Nat) : Prop := K.1.2.1 ≤ K.1.1 + x ∧ K.1.2.2 ≤ 324816 + 32 * K.1.1 + 6 * x
theorem jD_i.g {K K' : jc_K} {τ τ' : Nat → Int} {i : Int} {q : Nat} {S : Nat → Prop} (h : jD_i K τ i q) (g : jk_g S K K') (hS : ∀ n, n < K.1.1 → S n → n < 98) (hτ : ∀ n, n < K.1.1 → τ' n = τ n) : jD_i K' τ' i q := by
  obtain ⟨⟨a1, a2⟩, b, c, d, e⟩ := h
  have hq := a1.1
  have ns : ∀ n, 98 ≤ n → n < K.1.1 → ¬ S n := fun n x y z => by have := hS n y z; omega
  have pp : ∀ n j, 98 ≤ n → n < K.1.1 → jc_p K' n j = jc_p K n j := fun n j x y => g.2.2.1 n j y (ns n x y)
  refine ⟨⟨g.rc a1 (ns q hq.1 (by omega)), by rw [hτ q (by omega)]; exact a2⟩, fun k k0 k1 => ?_, fun k k' k0 k1 k0' k1' hne hz => ?_, ?_, ?_⟩
  · rw [pp _ _ (by omega) hq.2]
    rcases b k k0 k1 with h | ⟨h1, h2, h3⟩
    · exact Or.inl h
    · exact Or.inr ⟨h1, g.pg h2 (ns _ h1 (by have := h2.1.2; omega)), by rw [hτ _ (by have := h2.1.2; omega)]; exact h3⟩
  · rw [pp _ _ (by omega) hq.2] at hz ⊢
    rw [pp _ _ (by omega) hq.2]
    exact c k k' k0 k1 k0' k1' hne hz
  · rw [pp _ _ hq.1 (by omega)]
    rcases d with h | ⟨h1, h2⟩
    · exact Or.inl h
    · exact Or.inr ⟨g.ta h1, by rw [hτ _ h1.2.1]; exact h2⟩
  · rw [pp _ _ hq.1 (by omega)]
    rcases e with h | ⟨h1, h2⟩
    · exact Or.inl h
    · exact Or.inr ⟨g.ta h1, by rw [hτ _ h1.2.1]; exact h2⟩
theorem jw_p_g {K K' : jc_K} {τ : Nat → Int} {i : Int} {S : Nat → Prop} (h : jc_p K 64 i = 0 ∨ jD_i K τ i (jc_p K 64 i)) (g : jk_g S K K') (hS : ∀ n, n < K.1.1 → S n → n < 98) (he : jc_p K' 64 i = jc_p K 64 i) : jw_p K' i = jw_p K i := by
  unfold jw_p
  rw [he]
  rcases h with h | h
  · rw [if_pos h, if_pos h]
  · obtain ⟨⟨a1, a2⟩, _⟩ := h
    have hq := a1.1
    have pp : ∀ n j, 98 ≤ n → n < K.1.1 → jc_p K' n j = jc_p K n j := fun n j x y => g.2.2.1 n j y (fun z => by have := hS n y z; omega)
    rw [pp _ _ hq.1 (by omega), pp _ _ hq.1 (by omega), pp _ _ (by omega) hq.2, pp _ _ (by omega) hq.2, pp _ _ (by omega) hq.2]
/-- what the making of a record gives -/
theorem jc_nr_f {K : jc_K} (h : 98 ≤ K.1.1) : (jc_nr K).1 = (K.1.1 + 3, K.1.2.1 + 3, K.1.2.2 + 19) ∧ jc_rc (jc_nr K) K.1.1 ∧ jk_g (fun _ => False) K (jc_nr K) ∧ (∀ j, jc_p (jc_nr K) (K.1.1 + 2) j = 0) ∧ jc_p (jc_nr K) K.1.1 11 = 0 ∧ jc_p (jc_nr K) K.1.1 12 = 0 := by
  have e1 : (jc_nr K).1 = (K.1.1 + 3, K.1.2.1 + 3, K.1.2.2 + 19) := rfl
  have sh : ∀ n, (jc_nr K).2.1 n = if n = K.1.1 + 2 then (103, 3) else if n = K.1.1 + 1 then (100, 3) else if n = K.1.1 then (3, 0) else K.2.1 n := fun n => rfl
  have pt : ∀ n i, jc_p (jc_nr K) n i = if n = K.1.1 ∧ i = 10 then K.1.1 + 2 else if n = K.1.1 + 2 then 0 else if n = K.1.1 ∧ i = 9 then K.1.1 + 1 else if n = K.1.1 + 1 then 0 else if n = K.1.1 then 0 else jc_p K n i := fun n i => rfl
  have it : ∀ n i, jc_i (jc_nr K) n i = if n = K.1.1 + 2 then 0 else if n = K.1.1 + 1 then 0 else if n = K.1.1 then 0 else jc_i K n i := fun n i => rfl
  have p9 := pt K.1.1 9
  have p10 := pt K.1.1 10
  rw [if_neg (by omega), if_neg (by omega), if_pos ⟨rfl, rfl⟩] at p9
  rw [if_pos ⟨rfl, rfl⟩] at p10
  refine ⟨e1, ⟨⟨h, by rw [e1]; show K.1.1 + 2 < K.1.1 + 3; omega⟩, ⟨by rw [sh, if_neg (by omega), if_neg (by omega), if_pos rfl], by rw [sh, if_neg (by omega), if_pos rfl], by rw [sh, if_pos rfl]⟩, p9, p10⟩, ⟨by rw [e1]; exact Nat.le_add_right _ 3, fun n hn => ?_, fun n i hn _ => ?_, fun n i hn _ => ?_⟩, fun j => ?_, ?_, ?_⟩
  · rw [sh, if_neg (by omega), if_neg (by omega), if_neg (by omega)]
  · rw [pt, if_neg (by omega), if_neg (by omega), if_neg (by omega), if_neg (by omega), if_neg (by omega)]
  · rw [it, if_neg (by omega), if_neg (by omega), if_neg (by omega)]
  · rw [pt, if_neg (by omega), if_pos rfl]
  · rw [pt, if_neg (by omega), if_neg (by omega), if_neg (by omega), if_neg (by omega), if_pos rfl]
  · rw [pt, if_neg (by omega), if_neg (by omega), if_neg (by omega), if_neg (by omega), if_pos rfl]
/-- a record's beginning -/
theorem jk_fc65 {K : jc_K} {t n : Int} (ht : -1 ≤ t ∧ t < 4) : ∃ K', fc65 K t n = some (K', if t < 0 then 0 else jc_i K 59 t) ∧ jk_s (fun m => m = 59 ∨ m = 60) K K' ∧ (∀ i, i ≠ t → jc_i K' 59 i = jc_i K 59 i ∧ jc_i K' 60 i = jc_i K 60 i) ∧ (0 ≤ t → jc_i K' 59 t = n ∧ jc_i K' 60 t = jb_m (jc_i K 60 t + 1)) ∧ (t < 0 → K' = K) := by
  unfold fc65
  by_cases c : t < 0
  · rw [if_pos c, if_pos c]
    exact ⟨K, rfl, jk_s.refl, fun i _ => ⟨rfl, rfl⟩, fun z => by omega, fun _ => rfl⟩
  · rw [if_neg c, if_neg c, if_pos ht.2, if_pos ⟨by omega, ht.2⟩]
    refine ⟨_, rfl, (jk_s.u (S := fun m => m = 59 ∨ m = 60) (Or.inl rfl)).trans (jk_s.u (Or.inr rfl)), fun i hi => ⟨?_, ?_⟩, fun _ => ⟨?_, jc_uH⟩, fun z => absurd z c⟩
    · rw [jc_uN (by decide), jc_uI hi]
    · rw [jc_uI hi, jc_uN (by decide)]
    · rw [jc_uN (by decide), jc_uH]
theorem jk_fc25 {K : jc_K} {q : Nat} {n w t a : Int} (hq : jc_rc K q) : ∃ K', fc25 K q n w t a = some (K', 0) ∧ jk_s (fun m => m = q) K K' ∧ (jc_i K' q 0 = n ∧ jc_i K' q 1 = w ∧ jc_i K' q 2 = t ∧ jc_i K' q 3 = -1 ∧ jc_i K' q 4 = -1 ∧ jc_i K' q 5 = -1 ∧ jc_i K' q 6 = a ∧ jc_i K' q 7 = -1 ∧ jc_i K' q 8 = 0) := by
  unfold fc25
  rw [if_pos hq]
  refine ⟨_, rfl, ⟨⟨rfl, rfl, rfl⟩, fun m hm i => ?_⟩, ?_⟩
  · rw [jc_uN hm, jc_uN hm, jc_uN hm, jc_uN hm, jc_uN hm, jc_uN hm, jc_uN hm, jc_uN hm, jc_uN hm]
  · simp [jc_i, jc_ui, jg_u]
def jA_S (q n : Nat) : Prop := n = 59 ∨ n = 60 ∨ n = 63 ∨ n = 64 ∨ n = q
theorem jA_append {K : jc_K} {N x : Nat} {w t : Int} (hD : jD K) (hR : jR K x) (h63 : jc_i K 63 4 = N) (hN : N < 1100) (ht : -1 ≤ t ∧ t < 4) : ∃ K' q, fc20 K w t = some (K', q) ∧ (jc_rc K' q ∧ jc_p K' 64 N = q ∧ ∀ i : Int, i ≠ N → jc_p K' 64 i = jc_p K 64 i) ∧ jk_g (jA_S q) K K' ∧ (K.1.1 ≤ q ∨ q = jc_p K 64 N) ∧ (jc_i K' q 0 = (N : Int) + 1 ∧ jc_i K' q 1 = w ∧ jc_i K' q 2 = t ∧ jc_i K' q 3 = -1 ∧ jc_i K' q 4 = -1 ∧ jc_i K' q 5 = -1 ∧ jc_i K' q 6 = (if t < 0 then 0 else jc_i K 59 t) ∧ jc_i K' q 7 = -1 ∧ jc_i K' q 8 = 0) ∧ (jc_i K' 63 4 = (N : Int) + 1 ∧ (∀ i, i ≠ t → jc_i K' 59 i = jc_i K 59 i ∧ jc_i K' 60 i = jc_i K 60 i) ∧ (0 ≤ t → jc_i K' 59 t = (N : Int) + 1 ∧ jc_i K' 60 t = jb_m (jc_i K 60 t + 1))) ∧ jD K' ∧ jR K' x ∧ (∀ n i, n < K.1.1 → n ≠ 64 → jc_p K' n i = jc_p K n i) ∧ (K.1.1 ≤ q → (∀ j, jc_p K' (q + 2) j = 0) ∧ jc_p K' q 11 = 0 ∧ jc_p K' q 12 = 0) := by
  obtain ⟨d1, ⟨τ, d2⟩, d3⟩ := hD
  have dN := d2 N (by omega) (by omega)
  -- the tail, from any state that has the record
  have tail : ∀ (K1 : jc_K) (q : Nat), jc_rc K1 q → q ≠ 59 → q ≠ 60 → ∃ K2, (fc65 K1 t ((N : Int) + 1)).bind (fun x => if jc_rc (x.1) q then (fc25 (x.1) q ((N : Int) + 1) w t (x.2)).bind fun y => some (y.1, q) else none) = some (K2, q) ∧ jk_s (fun m => m = 59 ∨ m = 60 ∨ m = q) K1 K2 ∧ (jc_i K2 q 0 = (N : Int) + 1 ∧ jc_i K2 q 1 = w ∧ jc_i K2 q 2 = t ∧ jc_i K2 q 3 = -1 ∧ jc_i K2 q 4 = -1 ∧ jc_i K2 q 5 = -1 ∧ jc_i K2 q 6 = (if t < 0 then 0 else jc_i K1 59 t) ∧ jc_i K2 q 7 = -1 ∧ jc_i K2 q 8 = 0) ∧ (∀ i, i ≠ t → jc_i K2 59 i = jc_i K1 59 i ∧ jc_i K2 60 i = jc_i K1 60 i) ∧ (0 ≤ t → jc_i K2 59 t = (N : Int) + 1 ∧ jc_i K2 60 t = jb_m (jc_i K1 60 t + 1)) := by
    intro K1 q hq h59 h60
    obtain ⟨Ka, a1, a2, a3, a4, _⟩ := jk_fc65 (K := K1) (n := (N : Int) + 1) ht
    obtain ⟨Kb, b1, b2, b3⟩ := jk_fc25 (n := (N : Int) + 1) (w := w) (t := t) (a := if t < 0 then 0 else jc_i K1 59 t) (a2.rc hq)
    refine ⟨Kb, ?_, (a2.mono (fun m e => by omega)).trans (b2.mono (fun m e => by omega)), b3, fun i hi => ?_, fun h => ?_⟩
    · rw [a1, jo_bs]
      dsimp only
      rw [if_pos (a2.rc hq), b1, jo_bs]
    · rw [b2.2 59 (fun z => h59 z.symm), b2.2 60 (fun z => h60 z.symm)]; exact a3 i hi
    · rw [b2.2 59 (fun z => h59 z.symm), b2.2 60 (fun z => h60 z.symm)]; exact a4 h
  unfold fc20
  rw [h63, if_neg (by omega), if_pos (by omega), if_pos ⟨by omega, by omega⟩]
  rw [jo_lne]
  by_cases c : jc_p K 64 N = 0
  · -- a new thing is made
    rw [if_pos c, jo_lne]
    obtain ⟨n1, n2, n3, n4, n5, n6⟩ := jc_nr_f d1
    have i63 : jc_i (jc_nr K) 63 4 = N := (n3.2.2.2 63 4 (by omega) (fun z => z)).trans h63
    rw [i63, if_pos ⟨by omega, by omega⟩, if_pos n2, if_pos (by omega)]
    have sK : jk_g (jA_S K.1.1) K (jc_ui (jc_up (jc_nr K) 64 N K.1.1) 63 4 ((N : Int) + 1)) := ((n3.mono (fun n z => z.elim)).trans (jk_g.up (Or.inl (by unfold jA_S; omega)))).trans (jk_g.ui (Or.inl (by unfold jA_S; omega)))
    generalize hK1 : jc_ui (jc_up (jc_nr K) 64 N K.1.1) 63 4 ((N : Int) + 1) = K1 at sK
    have pK1 : ∀ n i, jc_p K1 n i = if n = 64 ∧ i = N then K.1.1 else jc_p (jc_nr K) n i := fun n i => by rw [← hK1]; rfl
    have sh1 : K1.2.1 = (jc_nr K).2.1 := by rw [← hK1]; rfl
    have nx1 : K1.1 = (jc_nr K).1 := by rw [← hK1]; rfl
    have rc1 : jc_rc K1 K.1.1 := by
      obtain ⟨x1, x2, x3, x4⟩ := n2
      refine ⟨by rw [nx1]; exact x1, by rw [sh1]; exact x2, ?_, ?_⟩
      · show jc_p K1 K.1.1 9 = _
        rw [pK1, if_neg (by omega)]; exact x3
      · show jc_p K1 K.1.1 10 = _
        rw [pK1, if_neg (by omega)]; exact x4
    obtain ⟨K2, t1, t2, t3, t4, t5⟩ := tail K1 K.1.1 rc1 (by omega) (by omega)
    have i59 : ∀ i, jc_i K1 59 i = jc_i K 59 i := fun i => by rw [← hK1, jc_uN (by decide)]; exact n3.2.2.2 59 i (by omega) (fun z => z)
    have i60 : ∀ i, jc_i K1 60 i = jc_i K 60 i := fun i => by rw [← hK1, jc_uN (by decide)]; exact n3.2.2.2 60 i (by omega) (fun z => z)
    have pK2 : ∀ n i, jc_p K2 n i = if n = 64 ∧ i = N then K.1.1 else jc_p (jc_nr K) n i := fun n i => by rw [← pK1]; unfold jc_p; rw [t2.1.2.2]
    have g2 : jk_g (jA_S K.1.1) K K2 := sK.trans ((jk_g.s t2).mono (fun n e => by unfold jA_S; omega))
    have p64 : ∀ i : Int, i ≠ N → jc_p K2 64 i = jc_p K 64 i := fun i hi => by
      rw [pK2, if_neg (fun z => hi z.2)]
      exact n3.2.2.1 64 i (by omega) (fun z => z)
    have p64N : jc_p K2 64 N = K.1.1 := by rw [pK2, if_pos ⟨rfl, rfl⟩]
    have hS : ∀ n, n < K.1.1 → jA_S K.1.1 n → n < 98 := fun n hn e => by unfold jA_S at e; omega
    have nx2 : K2.1 = (K.1.1 + 3, K.1.2.1 + 3, K.1.2.2 + 19) := by rw [t2.1.1, nx1, n1]
    refine ⟨K2, K.1.1, t1, ⟨t2.rc rc1, p64N, p64⟩, g2, Or.inl (Nat.le_refl _), ?_, ⟨?_, fun i hi => ?_, fun h => ?_⟩, ⟨?_, ⟨fun n => if n < K.1.1 then τ n else N, fun i i0 i1 => ?_⟩, ?_⟩, ⟨?_, ?_⟩, fun n i hn h64 => ?_, fun _ => ⟨fun j => ?_, ?_, ?_⟩⟩
    · rw [← i59]; exact t3
    · rw [t2.2 63 (by omega), ← hK1, jc_uH]
    · rw [← i59, ← i60]; exact t4 i hi
    · rw [← i60]; exact t5 h
    · rw [nx2]; show 98 ≤ K.1.1 + 3; omega
    · by_cases e : i = N
      · rw [e, p64N]
        right
        refine ⟨⟨t2.rc rc1, if_neg (by omega)⟩, fun k k0 k1 => Or.inl ?_, fun k k' k0 k1 _ _ _ hz => ?_, Or.inl ?_, Or.inl ?_⟩
        · rw [pK2, if_neg (by omega), n4]
        · rw [pK2, if_neg (by omega), n4] at hz
          exact absurd rfl hz
        · rw [pK2, if_neg (by omega), n5]
        · rw [pK2, if_neg (by omega), n6]
      · rw [p64 i e]
        rcases d2 i i0 i1 with h | h
        · exact Or.inl h
        · exact Or.inr (h.g g2 hS (fun n hn => if_pos hn))
    · have hsum : jw_sum K2 1100 + 3 = jw_sum K 1100 := by
        refine jw_sum_u (j := N) ?_ 1100 hN (fun i hi hne => ?_)
        · unfold jw_p
          have hz : ∀ j, jc_p K2 (K.1.1 + 2) j = 0 := fun j => by rw [pK2, if_neg (by omega), n4]
          have h11 : jc_p K2 K.1.1 11 = 0 := by rw [pK2, if_neg (by omega), n5]
          have h12 : jc_p K2 K.1.1 12 = 0 := by rw [pK2, if_neg (by omega), n6]
          have hne : ¬ K.1.1 = 0 := by omega
          rw [c, p64N, if_neg hne, hz, hz, hz, h11, h12]
          rfl
        · exact jw_p_g (d2 i (by omega) (by omega)) g2 hS (p64 i (by omega))
      rw [nx2]
      show K.1.1 + 3 + _ ≤ _
      omega
    · rw [nx2]; show K.1.2.1 + 3 ≤ K.1.1 + 3 + x; have := hR.1; omega
    · rw [nx2]; show K.1.2.2 + 19 ≤ 324816 + 32 * (K.1.1 + 3) + 6 * x; have := hR.2; omega
    · rw [pK2, if_neg (fun z => h64 z.1)]
      exact n3.2.2.1 n i hn (fun z => z)
    · rw [pK2, if_neg (by omega), n4]
    · rw [pK2, if_neg (by omega), n5]
    · rw [pK2, if_neg (by omega), n6]
  · -- one is used again
    rw [if_neg c, if_pos (by omega)]
    have dq := dN.resolve_left c
    obtain ⟨⟨rcq, tq⟩, _⟩ := id dq
    have q120 := rcq.1
    have s0 : jk_s (fun m => m = 63) K (jc_ui K 63 4 ((N : Int) + 1)) := jk_s.u rfl
    obtain ⟨K2, t1, t2, t3, t4, t5⟩ := tail (jc_ui K 63 4 ((N : Int) + 1)) (jc_p K 64 N) (s0.rc rcq) (by omega) (by omega)
    have s2 : jk_s (fun m => m = 59 ∨ m = 60 ∨ m = 63 ∨ m = jc_p K 64 N) K K2 := (s0.mono (fun m e => by omega)).trans (t2.mono (fun m e => by omega))
    have pp : ∀ n i, jc_p K2 n i = jc_p K n i := fun n i => by unfold jc_p; rw [s2.1.2.2]
    have g2 : jk_g (jA_S (jc_p K 64 N)) K K2 := (jk_g.s s2).mono (fun n e => by unfold jA_S; omega)
    refine ⟨K2, jc_p K 64 N, t1, ⟨s2.rc rcq, pp _ _, fun i _ => pp _ _⟩, g2, Or.inr rfl, ?_, ⟨?_, fun i hi => ?_, fun h => ?_⟩, ⟨by rw [s2.1.1]; exact d1, ⟨τ, fun i i0 i1 => ?_⟩, ?_⟩, ?_, fun n i _ _ => pp n i, fun z => absurd rcq.1.2 (by omega)⟩
    · rw [jc_uN (by decide)] at t3; exact t3
    · rw [t2.2 63 (by omega), jc_uH]
    · have := t4 i hi
      rw [jc_uN (by decide), jc_uN (by decide)] at this
      exact this
    · have := t5 h
      rw [jc_uN (by decide)] at this
      exact this
    · rw [pp]
      rcases d2 i i0 i1 with h | ⟨⟨y1, y2⟩, z⟩
      · exact Or.inl h
      · right
        refine ⟨⟨s2.rc y1, y2⟩, fun k k0 k1 => ?_, fun k k' k0 k1 k0' k1' hne hz => ?_, ?_, ?_⟩
        · rw [pp]
          rcases z.1 k k0 k1 with h | h
          · exact Or.inl h
          · exact Or.inr ⟨h.1, s2.pg h.2.1, h.2.2⟩
        · rw [pp] at hz ⊢; rw [pp]; exact z.2.1 k k' k0 k1 k0' k1' hne hz
        · rw [pp]
          rcases z.2.2.1 with h | h
          · exact Or.inl h
          · exact Or.inr ⟨((jk_g.s s2).ta h.1), h.2⟩
        · rw [pp]
          rcases z.2.2.2 with h | h
          · exact Or.inl h
          · exact Or.inr ⟨((jk_g.s s2).ta h.1), h.2⟩
    · have es : jw_sum K2 1100 = jw_sum K 1100 := jw_sum_e (K := K) (K' := K2) 1100 (fun i _ => by unfold jw_p; rw [pp, pp, pp, pp, pp, pp])
      rw [es, s2.1.1]
      exact d3
    · unfold jR
      rw [s2.1.1]
      exact hR
