/-! THE LAW'S OWN ROWS: locks -/
/-- what stands in the rows is what the log says -/
def jRl (V G : jg_G) (N : Nat) : Prop := (∀ y, 0 ≤ y → y < 32 → V 92 y = jzA G y N ∧ V 92 (32 + y) = G 113 (-1 - y) ∧ V 93 y = G 111 y) ∧ ∀ t, 0 ≤ t → t < 4 → (V 94 t = G 110 t ∧ V 94 (4 + t) = G 107 t ∧ V 94 (8 + t) = (if G 107 t = 1 then G 109 t else 0) ∧ V 94 (12 + t) = (jzL G t N).length) ∧ jll V G t (jzL G t N)
/-- what is to be undone is of the log, and no more than fits -/
def jRz (G : jg_G) (N : Nat) : Prop := ∀ t, 0 ≤ t → t < 4 → (∀ u ∈ jzL G t N, 1 ≤ u ∧ u ≤ (N : Int)) ∧ (jzL G t N).length ≤ 15
def jRb (V : jg_G) : Prop := ∀ t, 0 ≤ t → t < 4 → 0 ≤ V 94 (8 + t) ∧ V 94 (8 + t) ≤ 2000
/-- v undone and at its end, in the rows -/
theorem jRl.V {K : jc_K} {V G G' : jg_G} {N N' : Nat} {v : Int} (h : jRl V G N) (hz : jRz G N) (hb : jRb V) (hv : 0 ≤ v ∧ v < 4) (z : jzV G N G' N' v) : ∃ V1 V2, fl148 K V v 0 = some ((K, V1), ((jzL G v N).length : Int)) ∧ fl147 K V1 v = some ((K, V2), 0) ∧ jRl V2 G' N' ∧ jRz G' N' ∧ jRb V2 := by
  obtain ⟨c, j0, jo, hl, le, zA, zL, z9, z13⟩ := z
  obtain ⟨h1, h2⟩ := h
  obtain ⟨⟨a1, a2, a3, a4⟩, a5⟩ := h2 v hv.1 hv.2
  obtain ⟨z1, z2⟩ := hz v hv.1 hv.2
  obtain ⟨p1, p2⟩ := jzP_0 (G := G) (l := jzL G v N) (fun u hu => (z1 u hu).1) (fun y => jzA G y N)
  obtain ⟨V1, x1, x2, x3, x4, x5, x6, x7⟩ := jl148 (K := K) (G := G) (pl := 0) hv (jzL G v N) jo_N V (fun y => jzA G y N) 0 (by unfold jo_N; omega) (by omega) a4 a5 (fun y y0 y1 => (h1 y y0 y1).1) (Int.le_refl _) (by omega) (hb v hv.1 hv.2).1 (by have := (hb v hv.1 hv.2).2; omega)
  obtain ⟨V2, y1, y2⟩ := jl147 (K := K) (V := V1) hv
  have oth : ∀ s, 0 ≤ s → s < 4 → s ≠ v → jzL G' s N' = jzL G s N := fun s s0 s1 hs => jz_ot hl s0 (jo s s0 s1 hs)
  have e93 : ∀ j, V1 93 j = V 93 j := fun j => x7 93 j (by omega) (by omega)
  have e94 : ∀ j, j ≠ 12 + v → j ≠ 8 + v → V1 94 j = V 94 j := fun j a b => x7 94 j (by omega) (by omega)
  have k94 : ∀ j, ¬ (j = 4 + v ∨ j = 8 + v ∨ j = 12 + v) → 4 ≤ j → V2 94 j = V 94 j := fun j a b => by
    rw [y2, ← e94 j (by omega) (by omega)]
    unfold jle
    rw [if_neg (fun z => a z.2), if_neg (by omega), if_neg (by omega)]
  refine ⟨V1, V2, ?_, y1, ⟨fun y y0 y1' => ⟨?_, ?_, ?_⟩, fun t t0 t1 => ⟨⟨?_, ?_, ?_, ?_⟩, ?_⟩⟩, fun t t0 t1 => ?_, fun t t0 t1 => ?_⟩
  · have e : fl148 K V v 0 = fl148_3 jo_N K V v 0 0 := rfl
    rw [e, x1, p2, Int.zero_add]
  · rw [y2]
    unfold jle
    rw [if_neg (by omega), if_neg (by omega), if_neg (by omega), x2 y y0 y1', zA]
  · rw [y2]
    unfold jle
    rw [if_neg (by omega), if_neg (by omega), if_neg (by omega), x7 92 _ (by omega) (by omega), (h1 y y0 y1').2.1, z13]
  · rw [y2]
    unfold jle
    rw [if_neg (by omega), if_neg (by omega), e93, c.2.2 y y0 y1', (h1 y y0 y1').2.2]
    by_cases e : G 111 y = v
    · rw [if_pos ⟨rfl, y0, y1', e⟩, if_pos e]
    · rw [if_neg (fun z => e z.2.2.2), if_neg e]
  · rw [y2]
    unfold jle
    rw [if_neg (by omega), e94 t (by omega) (by omega), c.2.1 t t0 t1, (h2 t t0 t1).1.1]
    by_cases e : t = v ∨ G 110 t = v
    · rw [if_pos ⟨rfl, t0, t1, e⟩, if_pos e]
    · rw [if_neg (fun z => e z.2.2.2), if_neg e, if_neg (by omega)]
  · rw [c.1 t t0 t1]
    by_cases e : t = v
    · rw [if_pos e, y2, e]
      unfold jle
      rw [if_pos ⟨rfl, Or.inl rfl⟩]
    · rw [if_neg e, k94 _ (by omega) (by omega), (h2 t t0 t1).1.2.1]
  · rw [c.1 t t0 t1]
    by_cases e : t = v
    · rw [if_pos e, if_neg (by decide), y2, e]
      unfold jle
      rw [if_pos ⟨rfl, Or.inr (Or.inl rfl)⟩]
    · rw [if_neg e, k94 _ (by omega) (by omega), (h2 t t0 t1).1.2.2.1]
      by_cases o : G 107 t = 1
      · rw [if_pos o, if_pos o, z9 t t0 t1 e o]
      · rw [if_neg o, if_neg o]
  · by_cases e : t = v
    · rw [e, zL, y2]
      unfold jle
      rw [if_pos ⟨rfl, Or.inr (Or.inr rfl)⟩]
      rfl
    · rw [k94 _ (by omega) (by omega), (h2 t t0 t1).1.2.2.2, oth t t0 t1 e]
  · by_cases e : t = v
    · rw [e, zL]; trivial
    · rw [oth t t0 t1 e]
      refine (h2 t t0 t1).2.c (fun n j hn _ _ => ?_) (fun u hu => ?_)
      · rw [y2]
        unfold jle
        rw [if_neg (by omega), if_neg (by omega), if_neg (by omega), x7 n j (by omega) (by omega)]
      · have := ((hz t t0 t1).1 u hu)
        exact ⟨hl.l (m := 101) (by decide) this.1 this.2, hl.l (m := 102) (by decide) this.1 this.2⟩
  · by_cases e : t = v
    · rw [e, zL]
      exact ⟨fun u hu => absurd hu List.not_mem_nil, Nat.zero_le _⟩
    · rw [oth t t0 t1 e]
      exact ⟨fun u hu => ⟨((hz t t0 t1).1 u hu).1, by have := ((hz t t0 t1).1 u hu).2; omega⟩, (hz t t0 t1).2⟩
  · by_cases e : t = v
    · rw [y2, e]
      unfold jle
      rw [if_pos ⟨rfl, Or.inr (Or.inl rfl)⟩]
      decide
    · rw [k94 _ (by omega) (by omega)]
      exact hb t t0 t1
/-- the victim is taken -/
def jlC (m : Nat) (K : jc_K) (V : jg_G) (t key its : Int) : Option ((jc_K × jg_G) × Int) := (fl148 K V its 0).bind fun x10 => (fl147 (x10.1.1) (x10.1.2) its).bind fun x12 => if its = t then (some ((x12.1.1, x12.1.2), (-3))) else (if 0 ≤ t ∧ t < 16 then fl150_s m 5 (x12.1.1) (jg_u (x12.1.2) 94 t (-1)) t key 0 0 0 else none)
theorem jl_ring_n {K : jc_K} {V : jg_G} {t key its k i : Int} {m : Nat} (hi : ¬ 5 ≤ i) (hk : ¬ k < 0) (hkt : ¬ k = t) (hb : (0 ≤ k ∧ k < 4) ∧ (0 ≤ its ∧ its < 4)) (i0 : 0 ≤ i) : fl150_s (m + 1) 37 K V t key its k i = fl150_s m 37 K V t key (if V 94 (8 + k) < V 94 (8 + its) ∨ (V 94 (8 + k) = V 94 (8 + its) ∧ its < k) then k else its) (V 94 k) (i + 1) := by
  conv => lhs; unfold fl150_s
  rw [if_neg (by decide), if_pos rfl, if_neg hi, if_neg hk, if_neg hkt, if_pos (by omega), if_pos (by omega)]
  by_cases c1 : V 94 (8 + k) < V 94 (8 + its)
  · rw [if_pos c1, if_pos (by omega), if_pos (by omega), if_pos (Or.inl c1)]
  · rw [if_neg c1]
    by_cases c2 : V 94 (8 + k) = V 94 (8 + its)
    · rw [if_pos c2]
      by_cases c3 : k ≤ its
      · rw [if_pos c3, if_pos (by omega), if_pos (by omega), if_neg (by omega)]
      · rw [if_neg c3, if_pos (by omega), if_pos (by omega), if_pos (Or.inr ⟨c2, by omega⟩)]
    · rw [if_neg c2, if_pos (by omega), if_pos (by omega), if_neg (by omega)]
theorem jl_ring_t {K : jc_K} {V : jg_G} {t key its i : Int} {m : Nat} (ht : 0 ≤ t) : fl150_s (m + 1) 37 K V t key its t i = jlC m K V t key its := by
  conv => lhs; unfold fl150_s
  rw [if_neg (by decide), if_pos rfl]
  by_cases h : 5 ≤ i
  · rw [if_pos h, if_pos rfl]; rfl
  · rw [if_neg h, if_neg (by omega), if_pos rfl]; rfl
theorem jl_ring_e {K : jc_K} {V : jg_G} {t key its k i : Int} {m : Nat} (hk : k ≠ t) (h : k < 0 ∨ 5 ≤ i) : fl150_s (m + 1) 37 K V t key its k i = some ((K, V), -2) := by
  conv => lhs; unfold fl150_s
  rw [if_neg (by decide), if_pos rfl]
  by_cases h5 : 5 ≤ i
  · rw [if_pos h5, if_neg hk]
  · rw [if_neg h5, if_pos (by omega), if_neg hk]
section Lk
variable {K : jc_K} {t key : Int}
/-- the ring is gone along as by the log -/
theorem js_ring {V G : jg_G} (ht : 0 ≤ t ∧ t < 4) (h4 : ∀ s, 0 ≤ s → s < 4 → V 94 s = G 110 s ∧ (G 107 s = 1 → V 94 (8 + s) = G 109 s)) (hb : ∀ s, 0 ≤ s → s < 4 → -1 ≤ G 110 s ∧ G 110 s < 4) (ho : ∀ s, 0 ≤ s → s < 4 → 0 ≤ G 110 s → G 107 s = 1 ∧ G 107 (G 110 s) = 1) : ∀ (f : Nat) (i its k v : Int) (m : Nat), fo189_9 f G t its k = some (G, v) → 0 ≤ i → i + f ≤ 5 → f < m → ((0 ≤ its ∧ its < 4) ∧ G 107 its = 1) → (k = -1 ∨ ((0 ≤ k ∧ k < 4) ∧ G 107 k = 1)) → (v = -1 → fl150_s m 37 K V t key its k i = some ((K, V), -2)) ∧ (v ≠ -1 → ∃ m', m ≤ m' + f + 1 ∧ fl150_s m 37 K V t key its k i = jlC m' K V t key v) := by
  intro f
  induction f with
  | zero => intro i its k v m h; cases h
  | succ f ih =>
    intro i its k v m h i0 i5 fm hi hk
    obtain ⟨m, rfl⟩ : ∃ j, m = j + 1 := ⟨m - 1, by omega⟩
    unfold fo189_9 at h
    rcases hk with hk | ⟨hk, ok⟩
    · subst hk
      rw [if_pos rfl, if_neg (by omega)] at h
      injection h with h
      injection h with _ h
      exact ⟨fun _ => jl_ring_e (by omega) (Or.inl (by decide)), fun z => absurd h.symm z⟩
    · rw [if_neg (by omega)] at h
      by_cases e : k = t
      · rw [if_pos e] at h
        injection h with h
        injection h with _ h
        refine ⟨fun z => by omega, fun _ => ⟨m, by omega, ?_⟩⟩
        rw [e, jl_ring_t ht.1, h]
      · rw [if_neg e, if_pos hk, if_pos hi.1] at h
        have b := hb k hk.1 hk.2
        have nk : G 110 k = -1 ∨ ((0 ≤ G 110 k ∧ G 110 k < 4) ∧ G 107 (G 110 k) = 1) := by
          by_cases z : 0 ≤ G 110 k
          · exact Or.inr ⟨⟨z, b.2⟩, (ho k hk.1 hk.2 z).2⟩
          · exact Or.inl (by omega)
        have go : ∀ it : Int, (if V 94 (8 + k) < V 94 (8 + its) ∨ (V 94 (8 + k) = V 94 (8 + its) ∧ its < k) then k else its) = it → ((0 ≤ it ∧ it < 4) ∧ G 107 it = 1) → fo189_9 f G t it (G 110 k) = some (G, v) → (v = -1 → fl150_s (m + 1) 37 K V t key its k i = some ((K, V), -2)) ∧ (v ≠ -1 → ∃ m', m + 1 ≤ m' + (f + 1) + 1 ∧ fl150_s (m + 1) 37 K V t key its k i = jlC m' K V t key v) := fun it hit oit hf => by
          rw [jl_ring_n (by omega) (by omega) e ⟨hk, hi.1⟩ i0, hit, (h4 k hk.1 hk.2).1]
          obtain ⟨y1, y2⟩ := ih (i + 1) it (G 110 k) v m hf (by omega) (by omega) (by omega) oit nk
          refine ⟨y1, fun z => ?_⟩
          obtain ⟨m', q1, q2⟩ := y2 z
          exact ⟨m', by omega, q2⟩
        have e1 := (h4 k hk.1 hk.2).2 ok
        have e2 := (h4 its hi.1.1 hi.1.2).2 hi.2
        rw [e1, e2] at go
        by_cases c1 : G 109 k < G 109 its
        · rw [if_pos c1] at h
          exact go k (if_pos (Or.inl c1)) ⟨hk, ok⟩ h
        · rw [if_neg c1] at h
          by_cases c2 : G 109 k = G 109 its
          · rw [if_pos c2] at h
            by_cases c3 : k ≤ its
            · rw [if_pos c3] at h
              exact go its (if_neg (by omega)) hi h
            · rw [if_neg c3] at h
              exact go k (if_pos (Or.inr ⟨c2, by omega⟩)) ⟨hk, ok⟩ h
          · rw [if_neg c2] at h
            exact go its (if_neg (by omega)) hi h
/-- the rows lock as the log does -/
theorem js150 (ht : 0 ≤ t ∧ t < 4) (hk : 0 ≤ key ∧ key < 32) : ∀ (m f : Nat) (V G G' : jg_G) (N N' : Nat) (a : Int), jLk t key m G N G' N' a → 8 * m < f → jRl V G N → jRz G N → jRb V → jWo G → (∀ k, 0 ≤ k → k < 32 → -1 ≤ G 111 k ∧ G 111 k < 4) → (∀ s, 0 ≤ s → s < 4 → -1 ≤ G 110 s ∧ G 110 s < 4) → G 107 t = 1 → ∃ V', fl150_s f 5 K V t key 0 0 0 = some ((K, V'), a) ∧ jRl V' G' N' ∧ jRz G' N' ∧ jRb V' := by
  intro m
  induction m with
  | zero => intro f V G G' N N' a h; exact h.elim
  | succ m ih =>
    intro f V G G' N N' a h hf hR hz hb hWo h111 h110 o1
    obtain ⟨f, rfl⟩ : ∃ j, f = j + 1 := ⟨f - 1, by omega⟩
    have e93 := (hR.1 key hk.1 hk.2).2.2
    have k111 := h111 key hk.1 hk.2
    rcases h with ⟨free, e1, e2, e3⟩ | ⟨⟨n1, n2⟩, v, hv, h⟩
    · subst e3
      rw [e1, e2]
      clear e1 e2 G' N'
      have hl : jl_a G (jg_u G 111 key t) N := fun m j e => jg_uN (by omega)
      have st : fl150_s (f + 1) 5 K V t key 0 0 0 = some ((K, jg_u V 93 key t), 0) := by
        unfold fl150_s
        rw [if_pos rfl, if_pos hk, e93]
        rcases free with z | z
        · rw [if_pos (by omega)]
        · rw [if_neg (by omega), if_pos z]
      refine ⟨_, st, ⟨fun y y0 y1 => ⟨?_, ?_, ?_⟩, fun s s0 s1 => ⟨⟨?_, ?_, ?_, ?_⟩, ?_⟩⟩, fun s s0 s1 => ?_, fun s s0 s1 => ?_⟩
      · rw [jg_uN (by decide), (hR.1 y y0 y1).1]
        exact (hl.zA y N (Int.le_refl _)).symm
      · rw [jg_uN (by decide), jg_uN (by decide)]; exact (hR.1 y y0 y1).2.1
      · by_cases e : y = key
        · rw [e, jg_uH, jg_uH]
        · rw [jg_uI e, jg_uI e]; exact (hR.1 y y0 y1).2.2
      · rw [jg_uN (by decide), jg_uN (by decide)]; exact (hR.2 s s0 s1).1.1
      · rw [jg_uN (by decide), jg_uN (by decide)]; exact (hR.2 s s0 s1).1.2.1
      · rw [jg_uN (by decide), jg_uN (by decide), jg_uN (by decide)]; exact (hR.2 s s0 s1).1.2.2.1
      · rw [jg_uN (by decide), (hR.2 s s0 s1).1.2.2.2, hl.zL s N (Int.le_refl _)]
      · rw [hl.zL s N (Int.le_refl _)]
        exact (hR.2 s s0 s1).2.c (fun n j hn _ _ => jg_uN (by omega)) (fun u _ => ⟨jg_uN (by decide), jg_uN (by decide)⟩)
      · rw [hl.zL s N (Int.le_refl _)]
        exact hz s s0 s1
      · rw [jg_uN (by decide)]
        exact hb s s0 s1
    · -- held
      have ob : 0 ≤ G 111 key ∧ G 111 key < 4 := by omega
      have oo : G 107 (G 111 key) = 1 := hWo.1 key hk.1 hk.2 ob.1
      obtain ⟨G1, eG1⟩ : ∃ G1, jg_u G 110 t (G 111 key) = G1 := ⟨_, rfl⟩
      obtain ⟨V1, eV1⟩ : ∃ V1, jg_u V 94 t (G 111 key) = V1 := ⟨_, rfl⟩
      have st : fl150_s (f + 1) 5 K V t key 0 0 0 = fl150_s f 37 K V1 t key t (G 111 key) 0 := by
        conv => lhs; unfold fl150_s
        rw [if_pos rfl, if_pos hk, e93, if_neg (by omega), if_neg n2, if_pos (by omega), eV1]
      rw [st]
      have g : ∀ n j, n ≠ 110 → G1 n j = G n j := fun n j hn => by rw [← eG1]; exact jg_uN hn
      have g110t : G1 110 t = G 111 key := by rw [← eG1]; exact jg_uH
      have g110 : ∀ s, s ≠ t → G1 110 s = G 110 s := fun s hs => by rw [← eG1]; exact jg_uI hs
      have hl : jl_a G G1 N := fun m j e => g m j (by omega)
      have v94 : ∀ j, j ≠ t → V1 94 j = V 94 j := fun j hj => by rw [← eV1]; exact jg_uI hj
      have v94t : V1 94 t = G 111 key := by rw [← eV1]; exact jg_uH
      have vo : ∀ n j, n ≠ 94 → V1 n j = V n j := fun n j hn => by rw [← eV1]; exact jg_uN hn
      have hR1 : jRl V1 G1 N := by
        refine ⟨fun y y0 y1 => ⟨?_, ?_, ?_⟩, fun s s0 s1 => ⟨⟨?_, ?_, ?_, ?_⟩, ?_⟩⟩
        · rw [vo 92 _ (by decide), hl.zA y N (Int.le_refl _)]; exact (hR.1 y y0 y1).1
        · rw [vo 92 _ (by decide), g 113 _ (by decide)]; exact (hR.1 y y0 y1).2.1
        · rw [vo 93 _ (by decide), g 111 _ (by decide)]; exact (hR.1 y y0 y1).2.2
        · by_cases e : s = t
          · rw [e, v94t, g110t]
          · rw [v94 s e, g110 s e]; exact (hR.2 s s0 s1).1.1
        · rw [v94 _ (by omega), g 107 _ (by decide)]; exact (hR.2 s s0 s1).1.2.1
        · rw [v94 _ (by omega), g 107 _ (by decide), g 109 _ (by decide)]; exact (hR.2 s s0 s1).1.2.2.1
        · rw [v94 _ (by omega), hl.zL s N (Int.le_refl _)]; exact (hR.2 s s0 s1).1.2.2.2
        · rw [hl.zL s N (Int.le_refl _)]
          exact (hR.2 s s0 s1).2.c (fun n j hn _ _ => vo n j (by omega)) (fun u _ => ⟨g 101 u (by decide), g 102 u (by decide)⟩)
      have hz1 : jRz G1 N := fun s s0 s1 => by
        rw [hl.zL s N (Int.le_refl _)]
        exact hz s s0 s1
      have hb1 : jRb V1 := fun s s0 s1 => by
        rw [v94 _ (by omega)]
        exact hb s s0 s1
      have h110' : ∀ s, 0 ≤ s → s < 4 → -1 ≤ G1 110 s ∧ G1 110 s < 4 := fun s s0 s1 => by
        by_cases e : s = t
        · rw [e, g110t]; omega
        · rw [g110 s e]; exact h110 s s0 s1
      have hWo1 : jWo G1 := ⟨fun k k0 k1 h0 => by
        rw [g 111 _ (by decide)] at h0 ⊢
        rw [g 107 _ (by decide)]; exact hWo.1 k k0 k1 h0, fun s s0 s1 h0 => by
        by_cases e : s = t
        · rw [e, g110t, g 107 _ (by decide), g 107 _ (by decide)]; exact ⟨o1, oo⟩
        · rw [g110 s e] at h0 ⊢
          rw [g 107 _ (by decide), g 107 _ (by decide)]; exact hWo.2 s s0 s1 h0⟩
      rw [eG1] at hv h
      obtain ⟨r1, r2⟩ := js_ring (K := K) (key := key) (V := V1) (G := G1) ht (fun s s0 s1 => ⟨(hR1.2 s s0 s1).1.1, fun o => by rw [(hR1.2 s s0 s1).1.2.2.1, if_pos o]⟩) h110' hWo1.2 5 0 t (G 111 key) v f hv (Int.le_refl _) (by decide) (by omega) ⟨ht, by rw [g 107 _ (by decide)]; exact o1⟩ (Or.inr ⟨ob, by rw [g 107 _ (by decide)]; exact oo⟩)
      rcases h with ⟨v1, e1, e2, e3⟩ | ⟨v1, vb, G2, N2, zV, h⟩
      · rw [e1, e2, e3, r1 v1]
        exact ⟨V1, rfl, hR1, hz1, hb1⟩
      · obtain ⟨f', q1, q2⟩ := r2 v1
        obtain ⟨V2, V3, x1, x2, x3, x4, x5⟩ := hR1.V (K := K) hz1 hb1 vb zV
        rw [q2]
        unfold jlC
        rw [x1, jo_bs]
        dsimp only
        rw [x2, jo_bs]
        rcases h with ⟨e, e1, e2, e3⟩ | ⟨e, h⟩
        · rw [if_pos e, e1, e2, e3]
          exact ⟨V3, rfl, x3, x4, x5⟩
        · rw [if_neg e, if_pos (by omega)]
          dsimp only
          have c := zV.1
          have w111 : ∀ k, 0 ≤ k → k < 32 → -1 ≤ G2 111 k ∧ G2 111 k < 4 := fun k k0 k1 => by
            rw [c.2.2 k k0 k1, g 111 _ (by decide)]
            have := h111 k k0 k1
            split <;> omega
          have w110 : ∀ s, 0 ≤ s → s < 4 → -1 ≤ G2 110 s ∧ G2 110 s < 4 := fun s s0 s1 => by
            rw [c.2.1 s s0 s1]
            have := h110' s s0 s1
            split <;> omega
          have Wo2 : jWo G2 := hWo1.cl c (fun k k0 k1 => by rw [g 111 _ (by decide)]; exact (h111 k k0 k1).2) (fun s s0 s1 => (h110' s s0 s1).2)
          obtain ⟨G3, eG3⟩ : ∃ G3, jg_u G2 110 t (-1) = G3 := ⟨_, rfl⟩
          obtain ⟨V4, eV4⟩ : ∃ V4, jg_u V3 94 t (-1) = V4 := ⟨_, rfl⟩
          rw [eG3] at h
          rw [eV4]
          have k : ∀ n j, n ≠ 110 → G3 n j = G2 n j := fun n j hn => by rw [← eG3]; exact jg_uN hn
          have k110t : G3 110 t = -1 := by rw [← eG3]; exact jg_uH
          have k110 : ∀ s, s ≠ t → G3 110 s = G2 110 s := fun s hs => by rw [← eG3]; exact jg_uI hs
          have kl : jl_a G2 G3 N2 := fun m j e => k m j (by omega)
          have u94 : ∀ j, j ≠ t → V4 94 j = V3 94 j := fun j hj => by rw [← eV4]; exact jg_uI hj
          have u94t : V4 94 t = -1 := by rw [← eV4]; exact jg_uH
          have uo : ∀ n j, n ≠ 94 → V4 n j = V3 n j := fun n j hn => by rw [← eV4]; exact jg_uN hn
          refine ih f' V4 G3 G' N2 N' a h (by omega) ⟨fun y y0 y1 => ⟨?_, ?_, ?_⟩, fun s s0 s1 => ⟨⟨?_, ?_, ?_, ?_⟩, ?_⟩⟩ (fun s s0 s1 => ?_) (fun s s0 s1 => ?_) ⟨fun y y0 y1 h0 => ?_, fun s s0 s1 h0 => ?_⟩ (fun y y0 y1 => ?_) (fun s s0 s1 => ?_) ?_
          · rw [uo 92 _ (by decide), kl.zA y N2 (Int.le_refl _)]; exact (x3.1 y y0 y1).1
          · rw [uo 92 _ (by decide), k 113 _ (by decide)]; exact (x3.1 y y0 y1).2.1
          · rw [uo 93 _ (by decide), k 111 _ (by decide)]; exact (x3.1 y y0 y1).2.2
          · by_cases e : s = t
            · rw [e, u94t, k110t]
            · rw [u94 s e, k110 s e]; exact (x3.2 s s0 s1).1.1
          · rw [u94 _ (by omega), k 107 _ (by decide)]; exact (x3.2 s s0 s1).1.2.1
          · rw [u94 _ (by omega), k 107 _ (by decide), k 109 _ (by decide)]; exact (x3.2 s s0 s1).1.2.2.1
          · rw [u94 _ (by omega), kl.zL s N2 (Int.le_refl _)]; exact (x3.2 s s0 s1).1.2.2.2
          · rw [kl.zL s N2 (Int.le_refl _)]
            exact (x3.2 s s0 s1).2.c (fun n j hn _ _ => uo n j (by omega)) (fun u _ => ⟨k 101 u (by decide), k 102 u (by decide)⟩)
          · rw [kl.zL s N2 (Int.le_refl _)]
            exact x4 s s0 s1
          · rw [u94 _ (by omega)]
            exact x5 s s0 s1
          · rw [k 111 _ (by decide)] at h0 ⊢
            rw [k 107 _ (by decide)]; exact Wo2.1 y y0 y1 h0
          · by_cases e : s = t
            · rw [e, k110t] at h0; omega
            · rw [k110 s e] at h0 ⊢
              rw [k 107 _ (by decide), k 107 _ (by decide)]; exact Wo2.2 s s0 s1 h0
          · rw [k 111 _ (by decide)]; exact w111 y y0 y1
          · by_cases e : s = t
            · rw [e, k110t]; decide
            · rw [k110 s e]; exact w110 s s0 s1
          · rw [k 107 _ (by decide), c.1 t ht.1 ht.2, if_neg (fun z => e z.symm), g 107 _ (by decide)]
            exact o1
end Lk
