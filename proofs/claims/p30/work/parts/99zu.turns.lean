/-! THE LAW: a turn, and all ninety -/
section Tu
variable {L : Nat} {xs : Nat → Int32} {K : jc_K} {V G : jg_G} {N k : Nat} {W : jZW} {t i y act z more : Int}
/-- what holds behind a turn -/
def jTb (K : jc_K) (V : jg_G) (k : Nat) : Prop := ∃ G N k' W, k' ≤ k ∧ jSt K G N k' W ∧ jRl V G N ∧ jRz G N
theorem jl490 (hs : jSt K G N k W) (hR : jRl V G N) (i0 : 0 ≤ i ∧ i < 100) {a b c d : Int} (m : Nat) : ∃ K', fl154_s L xs (m + 1) 490 K V 1 i a b c z d 0 = fl154_s L xs m 85 K' V 1 (i + 1) 0 0 0 0 0 0 ∧ jSt K' G N k W := by
  obtain ⟨K', a1, a2⟩ := jl151 hs hR z
  refine ⟨K', ?_, a2⟩
  conv => lhs; unfold fl154_s
  rw [if_neg (by decide), if_neg (by decide), if_neg (by decide), if_neg (by decide), if_pos rfl, if_neg (by decide), a1, jo_bs]
  dsimp only
  rw [if_neg (by decide), if_pos (by omega)]
theorem jl422 (hk : k + 2 ≤ 512) {c : Int} (h : (c = -4 ∧ ∃ G' k1 W', k1 ≤ k ∧ jSf K G' k1 W' ∧ (∀ k, 0 ≤ k → k < 32 → -1 ≤ V 93 k ∧ V 93 k < 4) ∧ ∀ y, 0 ≤ y → y < 32 → V 92 (32 + y) = G' 113 (-1 - y)) ∨ (0 ≤ c ∧ jTb K V (k + 2))) (m : Nat) : ∃ K' V', fl154_s L xs (m + 1) 422 K V 1 i y act t z more c = fl154_s L xs m 490 K' V' 1 i y act t z more 0 ∧ jTb K' V' (k + 2) := by
  have st : fl154_s L xs (m + 1) 422 K V 1 i y act t z more c = (if c = (-4) then ((fl149 K V ).bind fun x70 => fl154_s L xs m 490 (x70.1.1) (x70.1.2) (x70.2) i y act t z more 0) else (if c < 0 then (fl154_s L xs m 490 K V 0 i y act t z more 0) else (fl154_s L xs m 490 K V 1 i y act t z more 0))) := by
    conv => lhs; unfold fl154_s
    rw [if_neg (by decide), if_neg (by decide), if_neg (by decide), if_pos rfl]
  rw [st]
  rcases h with ⟨e, G', k1, W', h0, h1, h2, h3⟩ | ⟨e, h⟩
  · obtain ⟨K', V', G2, N2, k2, W2, a1, a2, a3, a4, a5, _⟩ := jl149 h1 (by omega) h2 h3
    rw [if_pos e, a1, jo_bs]
    exact ⟨K', V', rfl, G2, N2, k2, W2, by omega, a3, a4, a5⟩
  · rw [if_neg (by omega), if_neg (by omega)]
    exact ⟨K, V, rfl, h⟩
theorem jTo.n {o : Option ((jc_K × jg_G) × Int)} (h : jTo o k) : ∃ K' V', o = some ((K', V'), 1) ∧ jTb K' V' k := by
  obtain ⟨K', V', G', N', k', W', a, b, c, d, e⟩ := h
  exact ⟨K', V', a, G', N', k', W', b, c, d, e⟩
theorem jl185 (hs : jSt K G N k W) (hk : k + 5 ≤ 512) (hR : jRl V G N) (hz : jRz G N) (ht : 0 ≤ t ∧ t < 4) (o : G 107 t = 1) (hm : more = 0 ∨ (more = 1 ∧ N < 180 ∧ (jzL G t N).length < 14)) (ha : 0 ≤ act ∧ act < 24) (m : Nat) : ∃ K' V' m', fl154_s L xs (m + 2) 185 K V 1 i y act t z more 0 = fl154_s L xs m' 490 K' V' 1 i y act t z more 0 ∧ m ≤ m' ∧ jTb K' V' (k + 3) := by
  have here : jTb K V (k + 3) := ⟨G, N, k, W, by omega, hs, hR, hz⟩
  have h93 : ∀ y, 0 ≤ y → y < 32 → -1 ≤ V 93 y ∧ V 93 y < 4 := fun y y0 y1 => by
    rw [(hR.1 y y0 y1).2.2]
    exact (hs.2.2.2.2.2.2.1.2 y y0 y1).2
  conv => enter [1, K', 1, V', 1, m', 1, 1]; unfold fl154_s
  rw [if_neg (show ¬ (185 : Nat) = 85 by decide), if_neg (show ¬ (185 : Nat) = 161 by decide), if_pos (show (185 : Nat) = 185 from rfl)]
  by_cases a12 : act < 12
  · rw [if_neg (show ¬ 12 ≤ act by omega)]
    rcases hm with e | ⟨e, e2, e3⟩
    · rw [if_pos e]
      exact ⟨K, V, m + 1, rfl, by omega, here⟩
    · obtain ⟨K', V', a, b⟩ := (jl152 (z := z) hs hk hR hz ht o (by omega) e3 (act := 0) (Or.inl rfl)).n
      rw [if_neg (show ¬ more = 0 by omega), a, jo_bs]
      dsimp only
      rw [if_neg (show ¬ (1 : Int) = 0 by decide)]
      exact ⟨K', V', m + 1, rfl, by omega, b⟩
  · rw [if_pos (show 12 ≤ act by omega)]
    by_cases a15 : act < 15
    · rw [if_neg (show ¬ 15 ≤ act by omega)]
      rcases hm with e | ⟨e, e2, e3⟩
      · rw [if_pos e]
        exact ⟨K, V, m + 1, rfl, by omega, here⟩
      · obtain ⟨K', V', a, b⟩ := (jl152 (z := z) hs hk hR hz ht o (by omega) e3 (act := 1) (Or.inr (Or.inl rfl))).n
        rw [if_neg (show ¬ more = 0 by omega), a, jo_bs]
        dsimp only
        rw [if_neg (show ¬ (1 : Int) = 0 by decide)]
        exact ⟨K', V', m + 1, rfl, by omega, b⟩
    · rw [if_pos (show 15 ≤ act by omega)]
      by_cases e15 : act = 15
      · rw [if_pos e15]
        rcases hm with e | ⟨e, e2, e3⟩
        · rw [if_pos e]
          exact ⟨K, V, m + 1, rfl, by omega, here⟩
        · obtain ⟨K', V', a, b⟩ := (jl152 (z := z) hs hk hR hz ht o (by omega) e3 (act := 2) (Or.inr (Or.inr rfl))).n
          rw [if_neg (show ¬ more = 0 by omega), a, jo_bs]
          dsimp only
          rw [if_neg (show ¬ (1 : Int) = 0 by decide)]
          exact ⟨K', V', m + 1, rfl, by omega, b⟩
      · rw [if_neg e15]
        by_cases a21 : act < 21
        · rw [if_neg (show ¬ 21 ≤ act by omega)]
          by_cases a17 : act < 17
          · obtain ⟨K', V', a, b⟩ := (jl153b (z := z) hs (by omega) hR hz ht o).n
            rw [if_neg (show ¬ 17 ≤ act by omega), a, jo_bs]
            exact ⟨K', V', m + 1, rfl, by omega, b⟩
          · rw [if_pos (show 17 ≤ act by omega)]
            by_cases a20 : act < 20
            · obtain ⟨K', V', a, b⟩ := (jl153c (z := z) hs (by omega) hR hz ht o).n
              rw [if_neg (show ¬ 20 ≤ act by omega), a, jo_bs]
              exact ⟨K', V', m + 1, rfl, by omega, b⟩
            · obtain ⟨K', V', a, b⟩ := (jl153u (z := z) hs (by omega) hR hz ht o).n
              rw [if_pos (show 20 ≤ act by omega), a, jo_bs]
              exact ⟨K', V', m + 1, rfl, by omega, b⟩
        · rw [if_pos (show 21 ≤ act by omega)]
          by_cases e21 : act = 21
          · rw [if_pos e21]
            -- a told crash, or not
            have told : ∀ {K1 : jc_K} {c : Int}, (∃ G1, (c = -4 ∧ jSf K1 G1 (k + 1) (W.1, 0, W.2.2) ∧ G1 92 6 = 0) ∨ (0 ≤ c ∧ ∃ N1, jSt K1 G1 N1 (k + 1) (W.1, 0, W.2.2) ∧ jzs G N G1 N1)) → ∃ K' V' m', fl154_s L xs (m + 1) 422 K1 V 1 i y act t z more c = fl154_s L xs m' 490 K' V' 1 i y act t z more 0 ∧ m ≤ m' ∧ jTb K' V' (k + 3) := fun {K1 c} h => by
              obtain ⟨G1, h⟩ := h
              obtain ⟨K', V', q1, q2⟩ := jl422 (L := L) (xs := xs) (K := K1) (V := V) (k := k + 1) (i := i) (y := y) (act := act) (t := t) (z := z) (more := more) (c := c) (by omega) (by
                rcases h with ⟨h1, h2, _⟩ | ⟨h1, N1, h2, h3⟩
                · exact Or.inl ⟨h1, G1, k + 1, _, Nat.le_refl _, h2, h93, fun y y0 y1 => by rw [(hR.1 y y0 y1).2.1, hs.v, h2.v]⟩
                · obtain ⟨R1, Z1⟩ := hR.s hz h3 (fun s s0 s1 => (hs.t ⟨s0, s1⟩).2)
                  exact Or.inr ⟨h1, G1, N1, k + 1, _, by omega, h2, R1, Z1⟩) m
              exact ⟨K', V', m, q1, Nat.le_refl _, q2⟩
            have b2 := jl_low_b (v := z) (n := 2) (by decide)
            have b24 := jl_low_b (v := jl_sh z 1) (n := 24) (by decide)
            unfold jo_l
            dsimp only
            generalize jl_low z 2 = w at *
            generalize jl_low (jl_sh z 1) 24 = p at *
            by_cases w0 : w = 0
            · rw [if_pos w0]
              obtain ⟨K1, c, G1, p1, p2⟩ := jwrite hs (by omega) b24
              rw [jy_inl p1, jo_bs]
              dsimp only
              exact told ⟨G1, p2.imp id (fun h => ⟨h.1, N, h.2⟩)⟩
            · rw [if_neg w0, (jcount hs).1, jo_bs]
              dsimp only
              by_cases n190 : 190 ≤ (N : Int)
              · rw [if_pos n190]
                obtain ⟨K', V', q1, q2⟩ := jl422 (L := L) (xs := xs) (K := K) (V := V) (k := k + 1) (i := i) (y := y) (act := act) (t := t) (z := z) (more := more) (c := 0) (by omega) (Or.inr ⟨Int.le_refl _, G, N, k, W, by omega, hs, hR, hz⟩) m
                exact ⟨K', V', m, q1, Nat.le_refl _, q2⟩
              · rw [if_neg n190]
                obtain ⟨K1, c, G1, p1, p2⟩ := jmark hs (by omega) (by omega)
                rw [jy_inl p1, jo_bs]
                dsimp only
                exact told ⟨G1, p2.imp id (fun h => ⟨h.1, N + 1, h.2⟩)⟩
          · rw [if_neg e21]
            by_cases e22 : act = 22
            · have b25 := jl_low_b (v := z) (n := 25) (by decide)
              rw [if_pos e22]
              unfold jo_l
              dsimp only
              generalize jl_low z 25 = p at *
              obtain ⟨p1, p2, p3⟩ := jcrashAt hs (a := p) ⟨b25.1, by omega⟩
              obtain ⟨R1, Z1⟩ := hR.s hz p3 (fun s s0 s1 => (hs.t ⟨s0, s1⟩).2)
              rw [jy_inl p1, jo_bs]
              exact ⟨_, V, m + 1, rfl, by omega, _, N, k, W, by omega, p2, R1, Z1⟩
            · rw [if_neg e22]
              obtain ⟨K1, c, p1, p2⟩ := jcrashed hs (by omega)
              obtain ⟨K', V', G2, N2, k2, W2, a1, a2, a3, a4, a5, _⟩ := jl149 (V := V) p2 (by omega) h93 (fun y y0 y1 => by rw [(hR.1 y y0 y1).2.1, hs.v, p2.v])
              rw [p1, jo_bs]
              dsimp only
              rw [a1, jo_bs]
              exact ⟨K', V', m + 1, rfl, by omega, G2, N2, k2, W2, by omega, a3, a4, a5⟩
/-- opened, if it is not -/
theorem jl161 (hs : jSt K G N k W) (hk : k + 5 ≤ 512) (hR : jRl V G N) (hz : jRz G N) (ht : 0 ≤ t ∧ t < 4) (m : Nat) : ∃ K' V' G' k' W', fl154_s L xs (m + 1) 161 K V 1 i y act t z more 0 = fl154_s L xs m 185 K' V' 1 i y act t z more 0 ∧ k' ≤ k + 1 ∧ jSt K' G' N k' W' ∧ jRl V' G' N ∧ jRz G' N ∧ G' 107 t = 1 ∧ jzL G' t N = jzL G t N := by
  have e4 := (hR.2 t ht.1 ht.2).1.2.1
  have st : fl154_s L xs (m + 1) 161 K V 1 i y act t z more 0 = (if V 94 (4 + t) = 0 then ((jy_ok (fc107 K t)).bind fun x19 => fl154_s L xs m 185 (x19.1) (jg_u V 94 (4 + t) 1) 1 i y act t z more 0) else (fl154_s L xs m 185 K V 1 i y act t z more 0)) := by
    conv => lhs; unfold fl154_s
    rw [if_neg (by decide), if_pos rfl, if_pos (by omega)]
  rw [st, e4]
  rcases (hs.t ht).2 with o | o
  · obtain ⟨K', c, G', p1, p2, p3, p4, p5, p6, p7, p8⟩ := jopen hs ht o
    obtain ⟨R0, Z0⟩ := hR.s hz jzs.t0 (fun s s0 s1 => (hs.t ⟨s0, s1⟩).2)
    have l0 : jzL (jg_u G 92 0 0) t N = jzL G t N := (jzs.t0 (G := G) (N := N)).2.1 t ht.1 ht.2
    have o0 : jg_u G 92 0 0 107 t = 0 := by rw [jg_uN (by decide)]; exact o
    rw [if_pos o, jy_inl p1, jo_bs]
    generalize jg_u G 92 0 0 = G0 at *
    have g107 : G' 107 t = 1 := by rw [p3, if_pos rfl]
    have v94 : ∀ j, j ≠ 4 + t → jg_u V 94 (4 + t) 1 94 j = V 94 j := fun j hj => jg_uI hj
    refine ⟨K', _, G', k + 1, _, rfl, Nat.le_refl _, p2, ⟨fun y y0 y1 => ⟨?_, ?_, ?_⟩, fun s s0 s1 => ⟨⟨?_, ?_, ?_, ?_⟩, ?_⟩⟩, fun s s0 s1 => ?_, g107, by rw [p7.zL t N (Int.le_refl _), l0]⟩
    · rw [jg_uN (by decide), p7.zA y N (Int.le_refl _)]; exact (R0.1 y y0 y1).1
    · rw [jg_uN (by decide), p8]; exact (R0.1 y y0 y1).2.1
    · rw [jg_uN (by decide), p6 y y0 y1]; exact (R0.1 y y0 y1).2.2
    · rw [v94 _ (by omega), p5 s s0 s1]; exact (R0.2 s s0 s1).1.1
    · rw [p3]
      by_cases e : s = t
      · rw [if_pos e, e, jg_uH]
      · rw [if_neg e, v94 _ (by omega)]; exact (R0.2 s s0 s1).1.2.1
    · rw [p3, p4]
      by_cases e : s = t
      · rw [if_pos e, if_pos e, if_pos rfl, v94 _ (by omega), e, (R0.2 t ht.1 ht.2).1.2.2.1, o0, if_neg (by decide)]
      · rw [if_neg e, if_neg e, v94 _ (by omega)]; exact (R0.2 s s0 s1).1.2.2.1
    · rw [v94 _ (by omega), p7.zL s N (Int.le_refl _)]; exact (R0.2 s s0 s1).1.2.2.2
    · rw [p7.zL s N (Int.le_refl _)]
      refine (R0.2 s s0 s1).2.c (fun n j hn _ _ => jg_uN (by omega)) (fun u hu => ?_)
      have := (Z0 s s0 s1).1 u hu
      exact ⟨p7.l (m := 101) (by decide) this.1 this.2, p7.l (m := 102) (by decide) this.1 this.2⟩
    · rw [p7.zL s N (Int.le_refl _)]
      exact Z0 s s0 s1
  · rw [if_neg (by omega)]
    exact ⟨K, V, G, k, W, rfl, by omega, hs, hR, hz, o, rfl⟩
theorem jl154 : ∀ (r : Nat) (i : Int) (m : Nat) (K : jc_K) (V : jg_G) (k : Nat), 0 ≤ i → i + r = 90 → 5 * r < m → k + 4 * r ≤ 500 → jTb K V k → ∃ K' V', fl154_s L xs m 85 K V 1 i 0 0 0 0 0 0 = some ((K', V'), 1) ∧ jTb K' V' (k + 4 * r) := by
  intro r
  induction r with
  | zero =>
    intro i m K V k i0 ir hm hk h
    obtain ⟨m, rfl⟩ : ∃ j, m = j + 1 := ⟨m - 1, by omega⟩
    refine ⟨K, V, ?_, h⟩
    unfold fl154_s
    rw [if_pos rfl, if_pos (by omega), if_pos (Or.inr rfl)]
  | succ r ih =>
    intro i m K V k i0 ir hm hk ⟨G, N, k0, W, h1, hs, hR, hz⟩
    obtain ⟨m, rfl⟩ : ∃ j, m = j + 1 + 2 + 1 + 1 := ⟨m - 5, by omega⟩
    have bt := jl_low_b (v := jl_sh (jl_cell L xs i) 5) (n := 4) (by decide)
    have ba := jl_low_b (v := jl_cell L xs i) (n := 24) (by decide)
    have st : ∃ more, (more = 0 ∨ (more = 1 ∧ N < 180 ∧ (jzL G (jl_low (jl_sh (jl_cell L xs i) 5) 4) N).length < 14)) ∧ fl154_s L xs (m + 1 + 2 + 1 + 1) 85 K V 1 i 0 0 0 0 0 0 = fl154_s L xs (m + 1 + 2 + 1) 161 K V 1 i (jl_cell L xs i) (jl_low (jl_cell L xs i) 24) (jl_low (jl_sh (jl_cell L xs i) 5) 4) (jl_sh (jl_cell L xs i) 7) more 0 := by
      have e : fl154_s L xs (m + 1 + 2 + 1 + 1) 85 K V 1 i 0 0 0 0 0 0 = (if 180 ≤ (N : Int) then (fl154_s L xs (m + 1 + 2 + 1) 161 K V 1 i (jl_cell L xs i) (jl_low (jl_cell L xs i) 24) (jl_low (jl_sh (jl_cell L xs i) 5) 4) (jl_sh (jl_cell L xs i) 7) 0 0) else (if 0 ≤ (12 + (jl_low (jl_sh (jl_cell L xs i) 5) 4)) ∧ (12 + (jl_low (jl_sh (jl_cell L xs i) 5) 4)) < 16 then if 14 ≤ V 94 (12 + (jl_low (jl_sh (jl_cell L xs i) 5) 4)) then (fl154_s L xs (m + 1 + 2 + 1) 161 K V 1 i (jl_cell L xs i) (jl_low (jl_cell L xs i) 24) (jl_low (jl_sh (jl_cell L xs i) 5) 4) (jl_sh (jl_cell L xs i) 7) 0 0) else (fl154_s L xs (m + 1 + 2 + 1) 161 K V 1 i (jl_cell L xs i) (jl_low (jl_cell L xs i) 24) (jl_low (jl_sh (jl_cell L xs i) 5) 4) (jl_sh (jl_cell L xs i) 7) 1 0) else none)) := by
        conv => lhs; unfold fl154_s
        rw [if_pos rfl, if_neg (by omega), if_neg (by decide), if_pos i0]
        unfold jo_l
        dsimp only
        rw [(jcount hs).1, jo_bs]
      have r4 := (hR.2 _ bt.1 bt.2).1.2.2.2
      rw [e]
      by_cases n180 : 180 ≤ (N : Int)
      · rw [if_pos n180]
        exact ⟨0, Or.inl rfl, rfl⟩
      · rw [if_neg n180, if_pos (by omega)]
        by_cases c : 14 ≤ V 94 (12 + (jl_low (jl_sh (jl_cell L xs i) 5) 4))
        · rw [if_pos c]
          exact ⟨0, Or.inl rfl, rfl⟩
        · rw [if_neg c]
          exact ⟨1, Or.inr ⟨rfl, by omega, by omega⟩, rfl⟩
    obtain ⟨more, hm', st⟩ := st
    rw [st]
    generalize jl_cell L xs i = y at *
    generalize jl_low (jl_sh y 5) 4 = t at *
    generalize jl_low y 24 = act at *
    generalize jl_sh y 7 = z at *
    obtain ⟨K1, V1, G1, k1, W1, a1, a2, a3, a4, a5, a6, a7⟩ := jl161 (L := L) (xs := xs) (i := i) (y := y) (act := act) (z := z) (more := more) hs (by omega) hR hz bt (m + 1 + 2)
    rw [a1]
    obtain ⟨K2, V2, m2, b1, b2, G2, N2, k2, W2, b3, b4, b5, b6⟩ := jl185 (L := L) (xs := xs) (i := i) (y := y) (z := z) (more := more) a3 (by omega) a4 a5 bt a6 (by rw [a7]; exact hm') ba (m + 1)
    rw [b1]
    obtain ⟨m3, rfl⟩ : ∃ j, m2 = j + 1 := ⟨m2 - 1, by omega⟩
    obtain ⟨K3, c1, c2⟩ := jl490 (L := L) (xs := xs) (i := i) (z := z) (a := y) (b := act) (c := t) (d := more) b4 b5 ⟨i0, by omega⟩ m3
    rw [c1]
    obtain ⟨K', V', d1, d2⟩ := ih (i + 1) m3 K3 V2 (k + 4) (by omega) (by omega) (by omega) (by omega) ⟨G2, N2, k2, W2, by omega, c2, b5, b6⟩
    exact ⟨K', V', d1, by rw [show k + 4 * (r + 1) = k + 4 + 4 * r by omega]; exact d2⟩
end Tu
