/-! THE LAW: back, commit, undo -/
theorem jzP_sub {G : jg_G} {pl : Int} : ∀ {L : List Int} {A : Int → Int}, ∀ u ∈ (jzP G pl L A).1, u ∈ L
  | [], _, u, h => h
  | w :: l, A, u, h => by
    by_cases c : w ≤ pl
    · have e : jzP G pl (w :: l) A = (w :: l, A, 0) := by
        conv => lhs; unfold jzP
        rw [if_pos c]
      rw [e] at h
      exact h
    · rw [jzP_n c] at h
      exact List.mem_cons_of_mem _ (jzP_sub u h)
theorem jll.m {V G : jg_G} {t : Int} : ∀ {L : List Int}, jll V G t L → ∀ i, 0 ≤ i → i < (L.length : Int) → V 95 (16 * t + i) ∈ L
  | [], _, i, i0, i1 => by
    have : (([] : List Int).length : Int) = 0 := rfl
    omega
  | u :: l, h, i, i0, i1 => by
    have ln : (u :: l).length = l.length + 1 := List.length_cons
    by_cases e : i = l.length
    · rw [e, h.1.1]
      exact List.mem_cons_self
    · exact List.mem_cons_of_mem _ (jll.m h.2 i i0 (by omega))
section En
variable {K : jc_K} {V G : jg_G} {N k : Nat} {W : jZW} {t : Int}
/-- a class that has fallen, rows as they stood ahead of it -/
theorem jl_fell2 {K' : jc_K} {V' G' : jg_G} (hs : jSt K G N k W) (hk : k + 3 ≤ 512) (hR : jRl V G N) (hf : jSf K' G' (k + 1) (W.1, 0, W.2.2)) (h92 : ∀ y, 0 ≤ y → y < 32 → V' 92 (32 + y) = V 92 (32 + y)) (h93 : ∀ y, 0 ≤ y → y < 32 → V' 93 y = V 93 y) : jTo ((fl149 K' V').bind fun x16 => if x16.2 = 0 ∨ x16.2 = 1 then some ((x16.1.1, x16.1.2), x16.2) else none) (k + 3) :=
  jl_fell (k' := k + 1) hf (by omega) (fun y y0 y1 => by
    rw [h93 y y0 y1, (hR.1 y y0 y1).2.2]
    exact (hs.2.2.2.2.2.2.1.2 y y0 y1).2) (fun y y0 y1 => by rw [h92 y y0 y1, (hR.1 y y0 y1).2.1, hs.v, hf.v])
theorem jl153_60 (hs : jSt K G N k W) (hk : k + 3 ≤ 512) (hR : jRl V G N) (hz : jRz G N) (ht : 0 ≤ t ∧ t < 4) (o : G 107 t = 1) {b act z : Int} (hb : 0 ≤ b ∧ b ≤ N) : jTo (fl153_60 K V act t z b) (k + 3) := by
  obtain ⟨K', c, G', p1, p2⟩ := jback hs (by omega) ht o hb
  unfold fl153_60
  rw [jy_inl p1, jo_bs]
  dsimp only
  rw [if_pos (by omega)]
  rcases p2 with ⟨h1, h2, _⟩ | ⟨h1, N', h2, h3⟩
  · rw [if_pos h1]
    exact jl_fell2 hs hk hR h2 (fun _ _ _ => jg_uN (by decide)) (fun _ _ _ => jg_uN (by decide))
  · rw [if_neg h1]
    have R0 := hR.w ht
    have Z0 := hz.w (t := t)
    have b0 := hs.rb (by omega) hR t ht.1 ht.2
    have o0 : jg_u (jg_u G 92 0 0) 110 t (-1) 107 t = 1 := by rw [jg_uN (by decide), jg_uN (by decide)]; exact o
    generalize jg_u (jg_u G 92 0 0) 110 t (-1) = G0 at *
    obtain ⟨⟨q1, q2, q3, q4⟩, q5, q6, q7, q8, q9, q10⟩ := h3
    obtain ⟨⟨_, _, r3, r4⟩, r5⟩ := R0.2 t ht.1 ht.2
    have v8 : jg_u V 94 t (-1) 94 (8 + t) = V 94 (8 + t) := jg_uI (by omega)
    obtain ⟨V', x1, x2, x3, x4, x5, x6, x7⟩ := jl148 (K := K') (G := G0) (pl := b) ht (jzL G0 t N) jo_N (jg_u V 94 t (-1)) (fun y => jzA G0 y N) 0 (by have := (Z0 t ht.1 ht.2).2; unfold jo_N; omega) (by have := (Z0 t ht.1 ht.2).2; omega) r4 r5 (fun y y0 y1 => (R0.1 y y0 y1).1) (Int.le_refl _) (by have := (Z0 t ht.1 ht.2).2; omega) (by rw [v8]; exact b0.1) (by rw [v8]; omega)
    have e148 : fl148 K' (jg_u V 94 t (-1)) t b = some ((K', V'), c) := by
      have e : fl148 K' (jg_u V 94 t (-1)) t b = fl148_3 jo_N K' (jg_u V 94 t (-1)) t b 0 := rfl
      rw [e, x1, Int.zero_add, q3]
    generalize jg_u V 94 t (-1) = V0 at *
    rw [e148, jo_bs]
    dsimp only
    rw [if_pos rfl]
    have old : ∀ s, 0 ≤ s → s < 4 → ∀ u ∈ jzL G0 s N, G' 101 u = G0 101 u ∧ G' 102 u = G0 102 u := fun s s0 s1 u hu => by
      have := (Z0 s s0 s1).1 u hu
      exact ⟨q8.l (m := 101) (by decide) this.1 this.2, q8.l (m := 102) (by decide) this.1 this.2⟩
    refine jTo.of rfl (by omega) h2 ⟨fun y y0 y1 => ⟨?_, ?_, ?_⟩, fun s s0 s1 => ⟨⟨?_, ?_, ?_, ?_⟩, ?_⟩⟩ (fun s s0 s1 => ?_)
    · rw [x2 y y0 y1, q2]
    · rw [x7 92 _ (by omega) (by omega), q10]; exact (R0.1 y y0 y1).2.1
    · rw [x7 93 _ (by omega) (by omega), (q6 y).2.2]; exact (R0.1 y y0 y1).2.2
    · rw [x7 94 _ (by omega) (by omega), (q6 s).2.1]; exact (R0.2 s s0 s1).1.1
    · rw [x7 94 _ (by omega) (by omega), (q6 s).1]; exact (R0.2 s s0 s1).1.2.1
    · rw [(q6 s).1]
      by_cases e : s = t
      · rw [e, x4, r3, if_pos o0, if_pos o0, q7 t ht.1 ht.2 o0, if_pos rfl, Int.zero_add, q3]
      · rw [x7 94 _ (by omega) (by omega), (R0.2 s s0 s1).1.2.2.1]
        by_cases os : G0 107 s = 1
        · rw [if_pos os, if_pos os, q7 s s0 s1 os, if_neg e]
        · rw [if_neg os, if_neg os]
    · by_cases e : s = t
      · rw [e, x3, q1]
      · rw [x7 94 _ (by omega) (by omega), q5 s s0 s1 e]; exact (R0.2 s s0 s1).1.2.2.2
    · by_cases e : s = t
      · rw [e, q1]
        exact x5.c (fun _ _ _ _ _ => rfl) (fun u hu => old t ht.1 ht.2 u (jzP_sub u hu))
      · rw [q5 s s0 s1 e]
        exact (R0.2 s s0 s1).2.c (fun n j hn _ _ => x7 n j (by omega) (by omega)) (old s s0 s1)
    · by_cases e : s = t
      · rw [e, q1]
        refine ⟨fun u hu => ?_, ?_⟩
        · have := (Z0 t ht.1 ht.2).1 u (jzP_sub u hu)
          omega
        · have := (Z0 t ht.1 ht.2).2
          have := x6.2
          omega
      · rw [q5 s s0 s1 e]
        refine ⟨fun u hu => ?_, (Z0 s s0 s1).2⟩
        have := (Z0 s s0 s1).1 u hu
        omega
/-- commit: the values that are kept -/
theorem jl154l {act z c : Int} : ∀ (m : Nat) (l : Int) (X : jg_G), 0 ≤ l → l ≤ 32 → 32 < l + m → ∃ V1, fl153_154 m K X act t z c l = fl153_154 1 K V1 act t z c 32 ∧ (∀ y, l ≤ y → y < 32 → V1 92 (32 + y) = if X 93 y = t then X 92 y else X 92 (32 + y)) ∧ ∀ n j, ¬ (n = 92 ∧ 32 + l ≤ j ∧ j < 64) → V1 n j = X n j := by
  intro m
  induction m with
  | zero => intro l X h0 h1 h2; omega
  | succ m ih =>
    intro l X h0 h1 h2
    by_cases e : 32 ≤ l
    · have el : l = 32 := by omega
      subst el
      refine ⟨X, ?_, fun y y0 y1 => by omega, fun _ _ _ => rfl⟩
      unfold fl153_154
      rw [if_pos e, if_pos e]
    · have go : ∀ w, w = (if X 93 l = t then X 92 l else X 92 (32 + l)) → ∃ V1, fl153_154 m K (jg_u X 92 (32 + l) w) act t z c (l + 1) = fl153_154 1 K V1 act t z c 32 ∧ (∀ y, l ≤ y → y < 32 → V1 92 (32 + y) = if X 93 y = t then X 92 y else X 92 (32 + y)) ∧ ∀ n j, ¬ (n = 92 ∧ 32 + l ≤ j ∧ j < 64) → V1 n j = X n j := fun w hw => by
        obtain ⟨V1, y1, y2, y3⟩ := ih (l + 1) (jg_u X 92 (32 + l) w) (by omega) (by omega) (by omega)
        refine ⟨V1, y1, fun y y0 y1' => ?_, fun n j hn => ?_⟩
        · by_cases ey : y = l
          · rw [ey, y3 92 (32 + l) (by omega), jg_uH]; exact hw
          · rw [y2 y (by omega) y1', jg_uN (by decide), jg_uI (by omega), jg_uI (by omega)]
        · rw [y3 n j (by omega)]
          by_cases n92 : n = 92
          · subst n92
            exact jg_uI (by omega)
          · exact jg_uN n92
      have st : fl153_154 (m + 1) K X act t z c l = fl153_154 m K (jg_u X 92 (32 + l) (if X 93 l = t then X 92 l else X 92 (32 + l))) act t z c (l + 1) := by
        conv => lhs; unfold fl153_154
        rw [if_neg e, if_pos (by omega)]
        by_cases q : X 93 l = t
        · rw [if_pos q, if_pos (by omega), if_pos (by omega), if_pos (by omega), if_pos q]
        · rw [if_neg q, if_pos (by omega), if_pos (by omega), if_neg q]
      rw [st]
      exact go _ rfl
theorem jl153c (hs : jSt K G N k W) (hk : k + 3 ≤ 512) (hR : jRl V G N) (hz : jRz G N) (ht : 0 ≤ t ∧ t < 4) (o : G 107 t = 1) {z : Int} : jTo (fl153 K V 1 t z) (k + 3) := by
  obtain ⟨K', c, G', p1, p2⟩ := jcommit hs (by omega) ht o
  unfold fl153
  rw [if_neg (by decide), if_pos rfl, jy_inl p1, jo_bs]
  dsimp only
  rcases p2 with ⟨h1, h2, _⟩ | ⟨h1, h2, W', h3, h4, h5⟩
  · rw [if_pos h1]
    exact jl_fell2 hs hk hR h2 (fun _ _ _ => rfl) (fun _ _ _ => rfl)
  · rw [if_neg (by omega)]
    obtain ⟨R0, Z0⟩ := hR.s hz jzs.t0 (fun s s0 s1 => (hs.t ⟨s0, s1⟩).2)
    generalize jg_u G 92 0 0 = G0 at *
    obtain ⟨q1, q2, q3, q4, q5, q6, q7⟩ := h5
    obtain ⟨V1, v1, v2, v3⟩ := jl154l (K := K') (t := t) (act := 1) (z := z) (c := c) jo_N 0 V (by decide) (by decide) (by decide)
    obtain ⟨V2, w1, w2⟩ := jl147 (K := K') (V := V1) ht
    obtain ⟨n1, n2⟩ := jcount h4
    have ec : ((N + 1 : Nat) : Int) = (N : Int) + 1 := by omega
    have fin : fl153_154 1 K' V1 1 t z c 32 = some ((K', V2), 1) := by
      unfold fl153_154
      rw [if_pos (by decide), w1, jo_bs]
      dsimp only
      rw [n1, jo_bs]
      dsimp only
      rw [if_pos (by omega), n2, jo_bs]
      dsimp only
      rw [if_pos h2]
    have k94 : ∀ j, ¬ (j = 4 + t ∨ j = 8 + t ∨ j = 12 + t) → 4 ≤ j → V2 94 j = V 94 j := fun j a b => by
      rw [w2]
      unfold jle
      rw [if_neg (fun z => a z.2), if_neg (by omega), if_neg (by omega), v3 94 j (by omega)]
    rw [v1, fin]
    refine jTo.of rfl (by omega) h4 ⟨fun y y0 y1 => ⟨?_, ?_, ?_⟩, fun s s0 s1 => ⟨⟨?_, ?_, ?_, ?_⟩, ?_⟩⟩ (fun s s0 s1 => ?_)
    · rw [w2]
      unfold jle
      rw [if_neg (by omega), if_neg (by omega), if_neg (by omega), v3 92 y (by omega), q2]
      exact (R0.1 y y0 y1).1
    · rw [w2]
      unfold jle
      rw [if_neg (by omega), if_neg (by omega), if_neg (by omega), v2 y y0 y1, q7 y y0 y1, (R0.1 y y0 y1).2.2, (R0.1 y y0 y1).1, (R0.1 y y0 y1).2.1]
    · rw [w2]
      unfold jle
      rw [if_neg (by omega), if_neg (by omega), v3 93 y (by omega), q1.2.2 y y0 y1, (R0.1 y y0 y1).2.2]
      by_cases e : G0 111 y = t
      · rw [if_pos ⟨rfl, y0, y1, e⟩, if_pos e]
      · rw [if_neg (fun z => e z.2.2.2), if_neg e]
    · rw [w2]
      unfold jle
      rw [if_neg (by omega), v3 94 s (by omega), q1.2.1 s s0 s1, (R0.2 s s0 s1).1.1]
      by_cases e : s = t ∨ G0 110 s = t
      · rw [if_pos ⟨rfl, s0, s1, e⟩, if_pos e]
      · rw [if_neg (fun z => e z.2.2.2), if_neg e, if_neg (by omega)]
    · rw [q1.1 s s0 s1]
      by_cases e : s = t
      · rw [if_pos e, w2, e]
        unfold jle
        rw [if_pos ⟨rfl, Or.inl rfl⟩]
      · rw [if_neg e, k94 _ (by omega) (by omega), (R0.2 s s0 s1).1.2.1]
    · rw [q1.1 s s0 s1]
      by_cases e : s = t
      · rw [if_pos e, if_neg (by decide), w2, e]
        unfold jle
        rw [if_pos ⟨rfl, Or.inr (Or.inl rfl)⟩]
      · rw [if_neg e, k94 _ (by omega) (by omega), (R0.2 s s0 s1).1.2.2.1]
        by_cases os : G0 107 s = 1
        · rw [if_pos os, if_pos os, q4 s s0 s1 e os]
        · rw [if_neg os, if_neg os]
    · rw [q3 s s0 s1]
      by_cases e : s = t
      · rw [if_pos e, w2, e]
        unfold jle
        rw [if_pos ⟨rfl, Or.inr (Or.inr rfl)⟩]
        rfl
      · rw [if_neg e, k94 _ (by omega) (by omega), (R0.2 s s0 s1).1.2.2.2]
    · rw [q3 s s0 s1]
      by_cases e : s = t
      · rw [if_pos e]; trivial
      · rw [if_neg e]
        refine (R0.2 s s0 s1).2.c (fun n j hn _ _ => ?_) (fun u hu => ?_)
        · rw [w2]
          unfold jle
          rw [if_neg (by omega), if_neg (by omega), if_neg (by omega), v3 n j (by omega)]
        · have := (Z0 s s0 s1).1 u hu
          exact ⟨q5.l (m := 101) (by decide) this.1 this.2, q5.l (m := 102) (by decide) this.1 this.2⟩
    · rw [q3 s s0 s1]
      by_cases e : s = t
      · rw [if_pos e]
        exact ⟨fun u hu => absurd hu List.not_mem_nil, Nat.zero_le _⟩
      · rw [if_neg e]
        refine ⟨fun u hu => ?_, (Z0 s s0 s1).2⟩
        have := (Z0 s s0 s1).1 u hu
        omega
theorem jl153u (hs : jSt K G N k W) (hk : k + 3 ≤ 512) (hR : jRl V G N) (hz : jRz G N) (ht : 0 ≤ t ∧ t < 4) (o : G 107 t = 1) {z : Int} : jTo (fl153 K V 2 t z) (k + 3) := by
  obtain ⟨K', c, G', p1, p2⟩ := jundo hs (by omega) ht o
  unfold fl153
  rw [if_neg (by decide), if_neg (by decide), jy_inl p1, jo_bs]
  dsimp only
  rcases p2 with ⟨h1, h2, _⟩ | ⟨h1, N', h2, h3, h4⟩
  · rw [if_pos h1]
    exact jl_fell2 hs hk hR h2 (fun _ _ _ => rfl) (fun _ _ _ => rfl)
  · rw [if_neg h1]
    obtain ⟨R0, Z0⟩ := hR.s hz jzs.t0 (fun s s0 s1 => (hs.t ⟨s0, s1⟩).2)
    obtain ⟨V1, V2, a1, a2, a3, a4, _⟩ := R0.V (K := K') Z0 (hs.rb (by omega) hR) ht h4
    rw [a1, jo_bs]
    dsimp only
    rw [a2, jo_bs]
    dsimp only
    rw [if_pos h3]
    exact jTo.of rfl (by omega) h2 a3 a4
theorem jl153b (hs : jSt K G N k W) (hk : k + 3 ≤ 512) (hR : jRl V G N) (hz : jRz G N) (ht : 0 ≤ t ∧ t < 4) (o : G 107 t = 1) {z : Int} : jTo (fl153 K V 0 t z) (k + 3) := by
  have hN := hs.2.2.2.2.1.len (by omega) (by decide)
  have any : jTo ((fc126 K).bind fun x23 => if 0 < ((x23.2) + 1) then if -2147483648 ≤ ((x23.2) + 1) ∧ ((x23.2) + 1) < 2147483648 then jo_l (jl_low (jl_sh z 2) ((x23.2) + 1)) fun x27 => fl153_60 (x23.1) V 0 t z x27 else none else none) (k + 3) := by
    rw [(jcount hs).1, jo_bs]
    dsimp only
    rw [if_pos (by omega), if_pos (by omega)]
    unfold jo_l
    have b := jl_low_b (v := jl_sh z 2) (n := (N : Int) + 1) (by omega)
    exact jl153_60 hs hk hR hz ht o ⟨b.1, by omega⟩
  unfold fl153
  rw [if_pos rfl]
  generalize jl_low z 3 = w
  unfold jo_l at any ⊢
  dsimp only at any ⊢
  by_cases e : w = 0
  · rw [if_pos e]
    exact any
  · obtain ⟨⟨_, _, _, r4⟩, r5⟩ := hR.2 t ht.1 ht.2
    rw [if_neg e, if_pos (by omega)]
    by_cases c : V 94 (12 + t) = 0
    · rw [if_pos c]
      exact any
    · have b := jl_low_b (v := jl_sh z 2) (n := V 94 (12 + t)) (by omega)
      have zl := (hz t ht.1 ht.2).2
      have m := r5.m (jl_low (jl_sh z 2) (V 94 (12 + t))) b.1 (by omega)
      have q := (hz t ht.1 ht.2).1 _ m
      rw [if_neg c, if_pos (by omega), if_pos (by omega)]
      exact jl153_60 hs hk hR hz ht o ⟨by omega, q.2⟩
end En
