/-! THE LAW'S OWN ROWS: a lock comes to its end, whatever became of the class -/
def jBt (V : jg_G) : Prop := (∀ k, 0 ≤ k → k < 32 → -1 ≤ V 93 k ∧ V 93 k < 4) ∧ (∀ s, 0 ≤ s → s < 4 → -1 ≤ V 94 s ∧ V 94 s < 4) ∧ ∀ s, 0 ≤ s → s < 4 → (0 ≤ V 94 (8 + s) ∧ V 94 (8 + s) ≤ 2000) ∧ (0 ≤ V 94 (12 + s) ∧ V 94 (12 + s) ≤ 15) ∧ ∀ i, 0 ≤ i → i < V 94 (12 + s) → 0 ≤ V 96 (16 * s + i) ∧ V 96 (16 * s + i) < 32
theorem jll.i {V G : jg_G} {t : Int} : ∀ {L : List Int}, jll V G t L → ∀ i, 0 ≤ i → i < (L.length : Int) → 0 ≤ V 96 (16 * t + i) ∧ V 96 (16 * t + i) < 32
  | [], _, i, i0, i1 => by
    have : (([] : List Int).length : Int) = 0 := rfl
    omega
  | u :: l, h, i, i0, i1 => by
    have ln : (u :: l).length = l.length + 1 := List.length_cons
    by_cases e : i = l.length
    · rw [e, h.1.2.1]
      exact h.1.2.2.2
    · exact jll.i h.2 i i0 (by omega)
theorem jRl.B {V G : jg_G} {N : Nat} (h : jRl V G N) (hz : jRz G N) (hb : jRb V) (h1 : ∀ k, 0 ≤ k → k < 32 → -1 ≤ G 111 k ∧ G 111 k < 4) (h2 : ∀ s, 0 ≤ s → s < 4 → -1 ≤ G 110 s ∧ G 110 s < 4) : jBt V := by
  refine ⟨fun k k0 k1 => by rw [(h.1 k k0 k1).2.2]; exact h1 k k0 k1, fun s s0 s1 => by rw [(h.2 s s0 s1).1.1]; exact h2 s s0 s1, fun s s0 s1 => ⟨hb s s0 s1, ?_, fun i i0 i1 => ?_⟩⟩
  · rw [(h.2 s s0 s1).1.2.2.2]
    have := (hz s s0 s1).2
    omega
  · rw [(h.2 s s0 s1).1.2.2.2] at i1
    exact (h.2 s s0 s1).2.i i i0 i1
section Tt
variable {K : jc_K} {t key : Int}
theorem jt148 {v pl : Int} (hv : 0 ≤ v ∧ v < 4) : ∀ (m : Nat) (V : jg_G) (l7 : Int), 0 ≤ V 94 (12 + v) → V 94 (12 + v) < m → V 94 (12 + v) ≤ 15 → (∀ i, 0 ≤ i → i < V 94 (12 + v) → 0 ≤ V 96 (16 * v + i) ∧ V 96 (16 * v + i) < 32) → 0 ≤ l7 → l7 + V 94 (12 + v) ≤ 1000 → 0 ≤ V 94 (8 + v) → V 94 (8 + v) ≤ 100000 → ∃ V' n, fl148_3 m K V v pl l7 = some ((K, V'), n) ∧ ∀ n j, ¬ (n = 92 ∧ 0 ≤ j ∧ j < 32) → ¬ (n = 94 ∧ (j = 12 + v ∨ j = 8 + v)) → V' n j = V n j := by
  intro m
  induction m with
  | zero => intro V l7 h0 h1; omega
  | succ m ih =>
    intro V l7 h0 h1 h2 h3 h4 h5 h6 h7
    have fin : ∀ w : Int, ∀ n j, ¬ (n = 92 ∧ 0 ≤ j ∧ j < 32) → ¬ (n = 94 ∧ (j = 12 + v ∨ j = 8 + v)) → jg_u V 94 (8 + v) w n j = V n j := fun w n j _ b => by
      by_cases n94 : n = 94
      · subst n94
        exact jg_uI (fun z => b ⟨rfl, Or.inr z⟩)
      · exact jg_uN n94
    unfold fl148_3
    rw [if_pos (by omega)]
    by_cases e : V 94 (12 + v) ≤ 0
    · rw [if_pos e, if_pos (by omega), if_pos (by omega)]
      exact ⟨_, _, rfl, fin _⟩
    · rw [if_neg e, if_pos (by omega)]
      by_cases e2 : V 95 (16 * v + V 94 (12 + v) - 1) ≤ pl
      · rw [if_pos e2, if_pos (by omega), if_pos (by omega)]
        exact ⟨_, _, rfl, fin _⟩
      · have c := h3 (V 94 (12 + v) - 1) (by omega) (by omega)
        rw [if_neg e2, if_pos (by omega), if_pos (by omega), if_pos (by omega), if_pos (by omega)]
        generalize V 97 (16 * v + (V 94 (12 + v) - 1)) = w
        generalize eC : V 96 (16 * v + (V 94 (12 + v) - 1)) = C at c
        have g94 : ∀ j, j ≠ 12 + v → jg_u (jg_u V 94 (12 + v) (V 94 (12 + v) - 1)) 92 C w 94 j = V 94 j := fun j hj => by rw [jg_uN (by decide), jg_uI hj]
        have g12 : jg_u (jg_u V 94 (12 + v) (V 94 (12 + v) - 1)) 92 C w 94 (12 + v) = V 94 (12 + v) - 1 := by rw [jg_uN (by decide), jg_uH]
        obtain ⟨V', n, y1, y2⟩ := ih (jg_u (jg_u V 94 (12 + v) (V 94 (12 + v) - 1)) 92 C w) (l7 + 1) (by omega) (by omega) (by omega) (fun i i0 i1 => by
          rw [jg_uN (by decide), jg_uN (by decide)]
          exact h3 i i0 (by omega)) (by omega) (by omega) (by rw [g94 _ (by omega)]; exact h6) (by rw [g94 _ (by omega)]; exact h7)
        refine ⟨V', n, y1, fun n j a b => ?_⟩
        rw [y2 n j a b]
        by_cases n92 : n = 92
        · subst n92
          rw [jg_uI (by omega), jg_uN (by decide)]
        · rw [jg_uN n92]
          by_cases n94 : n = 94
          · subst n94
            exact jg_uI (fun z => b ⟨rfl, Or.inl z⟩)
          · exact jg_uN n94
/-- the ring comes to its end -/
theorem jt_ring {V : jg_G} (ht : 0 ≤ t ∧ t < 4) (hb : ∀ s, 0 ≤ s → s < 4 → -1 ≤ V 94 s ∧ V 94 s < 4) : ∀ (f : Nat) (i its k : Int) (m : Nat), 0 ≤ i → i + f = 5 → f < m → (0 ≤ its ∧ its < 4) → (its = t ∨ 0 ≤ V 94 its ∨ V 94 its = k) → (-1 ≤ k ∧ k < 4) → fl150_s m 37 K V t key its k i = some ((K, V), -2) ∨ ∃ m' v, m ≤ m' + f + 1 ∧ ((0 ≤ v ∧ v < 4) ∧ (v = t ∨ 0 ≤ V 94 v)) ∧ fl150_s m 37 K V t key its k i = jlC m' K V t key v := by
  intro f
  induction f with
  | zero =>
    intro i its k m i0 i5 fm hi hw hk
    obtain ⟨m, rfl⟩ : ∃ j, m = j + 1 := ⟨m - 1, by omega⟩
    by_cases e : k = t
    · rw [e]
      exact Or.inr ⟨m, its, by omega, ⟨hi, by omega⟩, jl_ring_t ht.1⟩
    · exact Or.inl (jl_ring_e e (Or.inr (by omega)))
  | succ f ih =>
    intro i its k m i0 i5 fm hi hw hk
    obtain ⟨m, rfl⟩ : ∃ j, m = j + 1 := ⟨m - 1, by omega⟩
    by_cases e : k = t
    · rw [e]
      exact Or.inr ⟨m, its, by omega, ⟨hi, by omega⟩, jl_ring_t ht.1⟩
    · by_cases k0 : k < 0
      · exact Or.inl (jl_ring_e e (Or.inl k0))
      · have kk : 0 ≤ k ∧ k < 4 := by omega
        rw [jl_ring_n (by omega) k0 e ⟨kk, hi⟩ i0]
        generalize eI : (if V 94 (8 + k) < V 94 (8 + its) ∨ (V 94 (8 + k) = V 94 (8 + its) ∧ its < k) then k else its) = it
        have oit : (0 ≤ it ∧ it < 4) ∧ (it = t ∨ 0 ≤ V 94 it ∨ V 94 it = V 94 k) := by
          rw [← eI]
          split
          · exact ⟨kk, Or.inr (Or.inr rfl)⟩
          · exact ⟨hi, by omega⟩
        rcases ih (i + 1) it (V 94 k) m (by omega) (by omega) (by omega) oit.1 oit.2 (hb k kk.1 kk.2) with y | ⟨m', v, q1, q2, q3⟩
        · exact Or.inl y
        · exact Or.inr ⟨m', v, by omega, q2, q3⟩
def jms (V : jg_G) (t : Int) : Nat := jsum (fun s => if s ≠ t ∧ 0 ≤ V 94 s then 1 else 0) 4
theorem jms_4 (V : jg_G) (t : Int) : jms V t ≤ 4 := by
  have := jsum_le (f := fun s => if s ≠ t ∧ 0 ≤ V 94 s then 1 else 0) (g := fun _ => 1) 4 (fun i _ => by
    show (if (i : Int) ≠ t ∧ 0 ≤ V 94 i then 1 else 0) ≤ 1
    split <;> decide)
  have e : jsum (fun _ => 1) 4 = 4 := rfl
  unfold jms
  omega
theorem jt150 (ht : 0 ≤ t ∧ t < 4) (hk : 0 ≤ key ∧ key < 32) : ∀ (n f : Nat) (V : jg_G), jms V t ≤ n → 8 * n + 8 < f → jBt V → ∃ V' a, fl150_s f 5 K V t key 0 0 0 = some ((K, V'), a) ∧ (∀ j, 32 ≤ j → V' 92 j = V 92 j) ∧ ∀ k, 0 ≤ k → k < 32 → -1 ≤ V' 93 k ∧ V' 93 k < 4 := by
  intro n
  induction n with
  | zero =>
    intro f V hn hf hB
    obtain ⟨f, rfl⟩ : ∃ j, f = j + 1 := ⟨f - 1, by omega⟩
    obtain ⟨b1, b2, b3⟩ := id hB
    have k93 := b1 key hk.1 hk.2
    have got : ∃ V' a, some ((K, jg_u V 93 key t), (0 : Int)) = some ((K, V'), a) ∧ (∀ j, 32 ≤ j → V' 92 j = V 92 j) ∧ ∀ k, 0 ≤ k → k < 32 → -1 ≤ V' 93 k ∧ V' 93 k < 4 := ⟨_, _, rfl, fun j _ => jg_uN (by decide), fun k k0 k1 => by
      by_cases e : k = key
      · rw [e, jg_uH]; omega
      · rw [jg_uI e]; exact b1 k k0 k1⟩
    unfold fl150_s
    rw [if_pos rfl, if_pos hk]
    by_cases c1 : V 93 key < 0
    · rw [if_pos c1]; exact got
    · rw [if_neg c1]
      by_cases c2 : V 93 key = t
      · rw [if_pos c2]; exact got
      · rw [if_neg c2, if_pos (by omega)]
        obtain ⟨V1, eV1⟩ : ∃ V1, jg_u V 94 t (V 93 key) = V1 := ⟨_, rfl⟩
        rw [eV1]
        have v94 : ∀ j, j ≠ t → V1 94 j = V 94 j := fun j hj => by rw [← eV1]; exact jg_uI hj
        have v94t : V1 94 t = V 93 key := by rw [← eV1]; exact jg_uH
        have vo : ∀ n j, n ≠ 94 → V1 n j = V n j := fun n j hn => by rw [← eV1]; exact jg_uN hn
        have none : ∀ s, 0 ≤ s → s < 4 → s ≠ t → V 94 s < 0 := fun s s0 s1 hs => by
          by_cases z : 0 ≤ V 94 s
          · have e : ((s.toNat : Nat) : Int) = s := by omega
            have := jsum_ge (f := fun s => if s ≠ t ∧ 0 ≤ V 94 s then 1 else 0) (j := s.toNat) 4 (by omega)
            rw [e] at this
            have : (if s ≠ t ∧ 0 ≤ V 94 s then 1 else 0) ≤ jms V t := this
            rw [if_pos ⟨hs, z⟩] at this
            omega
          · omega
        rcases jt_ring (K := K) (key := key) (V := V1) ht (fun s s0 s1 => by
          by_cases e : s = t
          · rw [e, v94t]; omega
          · rw [v94 s e]; exact b2 s s0 s1) 5 0 t (V 93 key) f (by decide) (by decide) (by omega) ht (Or.inl rfl) (by omega) with y | ⟨m', v, q1, ⟨q2, q3⟩, q4⟩
        · rw [y]
          exact ⟨V1, -2, rfl, fun j _ => vo 92 j (by decide), fun k k0 k1 => by rw [vo 93 k (by decide)]; exact b1 k k0 k1⟩
        · rw [q4]
          unfold jlC
          have b3v := b3 v q2.1 q2.2
          obtain ⟨V2, w, x1, x2⟩ := jt148 (K := K) (pl := 0) q2 jo_N V1 0 (by rw [v94 _ (by omega)]; exact b3v.2.1.1) (by rw [v94 _ (by omega)]; unfold jo_N; omega) (by rw [v94 _ (by omega)]; exact b3v.2.1.2) (fun i i0 i1 => by
            rw [vo 96 _ (by decide)]
            rw [v94 _ (by omega)] at i1
            exact b3v.2.2 i i0 i1) (Int.le_refl _) (by rw [v94 _ (by omega)]; omega) (by rw [v94 _ (by omega)]; exact b3v.1.1) (by rw [v94 _ (by omega)]; omega)
          have e148 : fl148 K V1 v 0 = some ((K, V2), w) := x1
          obtain ⟨V3, y1, y2⟩ := jl147 (K := K) (V := V2) q2
          rw [e148, jo_bs]
          dsimp only
          rw [y1, jo_bs]
          have vt : v = t := by
            by_cases z : v = t
            · exact z
            · have := q3.resolve_left z
              rw [v94 v z] at this
              have := none v q2.1 q2.2 z
              omega
          rw [if_pos vt]
          refine ⟨V3, -3, rfl, fun j j0 => ?_, fun k k0 k1 => ?_⟩
          · rw [y2]
            unfold jle
            rw [if_neg (by omega), if_neg (by omega), if_neg (by omega), x2 92 j (by omega) (by omega), vo 92 j (by decide)]
          · rw [y2]
            unfold jle
            rw [if_neg (by omega), if_neg (by omega), x2 93 k (by omega) (by omega), vo 93 k (by decide)]
            have := b1 k k0 k1
            split <;> omega
  | succ n ih =>
    intro f V hn hf hB
    obtain ⟨f, rfl⟩ : ∃ j, f = j + 1 := ⟨f - 1, by omega⟩
    obtain ⟨b1, b2, b3⟩ := id hB
    have k93 := b1 key hk.1 hk.2
    have got : ∃ V' a, some ((K, jg_u V 93 key t), (0 : Int)) = some ((K, V'), a) ∧ (∀ j, 32 ≤ j → V' 92 j = V 92 j) ∧ ∀ k, 0 ≤ k → k < 32 → -1 ≤ V' 93 k ∧ V' 93 k < 4 := ⟨_, _, rfl, fun j _ => jg_uN (by decide), fun k k0 k1 => by
      by_cases e : k = key
      · rw [e, jg_uH]; omega
      · rw [jg_uI e]; exact b1 k k0 k1⟩
    unfold fl150_s
    rw [if_pos rfl, if_pos hk]
    by_cases c1 : V 93 key < 0
    · rw [if_pos c1]; exact got
    · rw [if_neg c1]
      by_cases c2 : V 93 key = t
      · rw [if_pos c2]; exact got
      · rw [if_neg c2, if_pos (by omega)]
        obtain ⟨V1, eV1⟩ : ∃ V1, jg_u V 94 t (V 93 key) = V1 := ⟨_, rfl⟩
        rw [eV1]
        have v94 : ∀ j, j ≠ t → V1 94 j = V 94 j := fun j hj => by rw [← eV1]; exact jg_uI hj
        have v94t : V1 94 t = V 93 key := by rw [← eV1]; exact jg_uH
        have vo : ∀ n j, n ≠ 94 → V1 n j = V n j := fun n j hn => by rw [← eV1]; exact jg_uN hn
        rcases jt_ring (K := K) (key := key) (V := V1) ht (fun s s0 s1 => by
          by_cases e : s = t
          · rw [e, v94t]; omega
          · rw [v94 s e]; exact b2 s s0 s1) 5 0 t (V 93 key) f (by decide) (by decide) (by omega) ht (Or.inl rfl) (by omega) with y | ⟨m', v, q1, ⟨q2, q3⟩, q4⟩
        · rw [y]
          exact ⟨V1, -2, rfl, fun j _ => vo 92 j (by decide), fun k k0 k1 => by rw [vo 93 k (by decide)]; exact b1 k k0 k1⟩
        · rw [q4]
          unfold jlC
          have b3v := b3 v q2.1 q2.2
          obtain ⟨V2, w, x1, x2⟩ := jt148 (K := K) (pl := 0) q2 jo_N V1 0 (by rw [v94 _ (by omega)]; exact b3v.2.1.1) (by rw [v94 _ (by omega)]; unfold jo_N; omega) (by rw [v94 _ (by omega)]; exact b3v.2.1.2) (fun i i0 i1 => by
            rw [vo 96 _ (by decide)]
            rw [v94 _ (by omega)] at i1
            exact b3v.2.2 i i0 i1) (Int.le_refl _) (by rw [v94 _ (by omega)]; omega) (by rw [v94 _ (by omega)]; exact b3v.1.1) (by rw [v94 _ (by omega)]; omega)
          have e148 : fl148 K V1 v 0 = some ((K, V2), w) := x1
          obtain ⟨V3, y1, y2⟩ := jl147 (K := K) (V := V2) q2
          rw [e148, jo_bs]
          dsimp only
          rw [y1, jo_bs]
          have h92 : ∀ j, 32 ≤ j → V3 92 j = V 92 j := fun j j0 => by
            rw [y2]
            unfold jle
            rw [if_neg (by omega), if_neg (by omega), if_neg (by omega), x2 92 j (by omega) (by omega), vo 92 j (by decide)]
          have h93 : ∀ k, 0 ≤ k → k < 32 → -1 ≤ V3 93 k ∧ V3 93 k < 4 := fun k k0 k1 => by
            rw [y2]
            unfold jle
            rw [if_neg (by omega), if_neg (by omega), x2 93 k (by omega) (by omega), vo 93 k (by decide)]
            have := b1 k k0 k1
            split <;> omega
          by_cases vt : v = t
          · rw [if_pos vt]
            exact ⟨V3, -3, rfl, h92, h93⟩
          · rw [if_neg vt, if_pos (by omega)]
            dsimp only
            have pv := q3.resolve_left vt
            rw [v94 v vt] at pv
            -- the rows behind
            have w94 : ∀ s, 0 ≤ s → s < 4 → V3 94 s = if s = v ∨ V1 94 s = v then -1 else V1 94 s := fun s s0 s1 => by
              rw [y2]
              unfold jle
              rw [if_neg (by omega), x2 94 s (by omega) (by omega)]
              by_cases z : s = v ∨ V1 94 s = v
              · rw [if_pos ⟨rfl, s0, s1, z⟩, if_pos z]
              · rw [if_neg (fun y => z y.2.2.2), if_neg z, if_neg (by omega)]
            have w94' : ∀ s, 0 ≤ s → s < 4 → (V3 94 (8 + s) = if s = v then 0 else V 94 (8 + s)) ∧ V3 94 (12 + s) = if s = v then 0 else V 94 (12 + s) := fun s s0 s1 => by
              by_cases z : s = v
              · rw [z, if_pos rfl, if_pos rfl]
                constructor
                · rw [y2]
                  unfold jle
                  rw [if_pos ⟨rfl, Or.inr (Or.inl rfl)⟩]
                · rw [y2]
                  unfold jle
                  rw [if_pos ⟨rfl, Or.inr (Or.inr rfl)⟩]
              · rw [if_neg z, if_neg z]
                constructor
                · rw [y2]
                  unfold jle
                  rw [if_neg (by omega), if_neg (by omega), if_neg (by omega), x2 94 _ (by omega) (by omega), v94 _ (by omega)]
                · rw [y2]
                  unfold jle
                  rw [if_neg (by omega), if_neg (by omega), if_neg (by omega), x2 94 _ (by omega) (by omega), v94 _ (by omega)]
            obtain ⟨V4, eV4⟩ : ∃ V4, jg_u V3 94 t (-1) = V4 := ⟨_, rfl⟩
            rw [eV4]
            have u94 : ∀ j, j ≠ t → V4 94 j = V3 94 j := fun j hj => by rw [← eV4]; exact jg_uI hj
            have u94t : V4 94 t = -1 := by rw [← eV4]; exact jg_uH
            have uo : ∀ n j, n ≠ 94 → V4 n j = V3 n j := fun n j hn => by rw [← eV4]; exact jg_uN hn
            have lt : jms V4 t < jms V t := by
              have e : ((v.toNat : Nat) : Int) = v := by omega
              refine jsum_lt (j := v.toNat) 4 (fun i hi => ?_) (by omega) ?_
              · show (if (i : Int) ≠ t ∧ 0 ≤ V4 94 i then 1 else 0) ≤ if (i : Int) ≠ t ∧ 0 ≤ V 94 i then 1 else 0
                by_cases z : (i : Int) ≠ t ∧ 0 ≤ V4 94 i
                · have q : 0 ≤ V 94 (i : Int) := by
                    have := z.2
                    rw [u94 _ z.1, w94 i (by omega) (by omega)] at this
                    rw [v94 _ z.1] at this
                    by_cases y : (i : Int) = v ∨ V 94 i = v
                    · rw [if_pos y] at this
                      omega
                    · rw [if_neg y] at this
                      exact this
                  rw [if_pos z, if_pos ⟨z.1, q⟩]
                  exact Nat.le_refl _
                · rw [if_neg z]; exact Nat.zero_le _
              · show (if ((v.toNat : Nat) : Int) ≠ t ∧ 0 ≤ V4 94 ((v.toNat : Nat) : Int) then 1 else 0) < if ((v.toNat : Nat) : Int) ≠ t ∧ 0 ≤ V 94 ((v.toNat : Nat) : Int) then 1 else 0
                have n4 : ¬ (v ≠ t ∧ 0 ≤ V4 94 v) := fun z => by
                  have := z.2
                  rw [u94 v vt, w94 v q2.1 q2.2, if_pos (Or.inl rfl)] at this
                  omega
                rw [e, if_neg n4, if_pos ⟨vt, pv⟩]
                decide
            have B4 : jBt V4 := by
              refine ⟨fun k k0 k1 => by rw [uo 93 k (by decide)]; exact h93 k k0 k1, fun s s0 s1 => ?_, fun s s0 s1 => ?_⟩
              · by_cases z : s = t
                · rw [z, u94t]; decide
                · rw [u94 s z, w94 s s0 s1, v94 s z]
                  have := b2 s s0 s1
                  split <;> omega
              · obtain ⟨r1, r2⟩ := w94' s s0 s1
                obtain ⟨o1, o2, o3⟩ := b3 s s0 s1
                rw [u94 _ (by omega), u94 _ (by omega), r1, r2]
                refine ⟨by split <;> omega, by split <;> omega, fun i i0 i1 => ?_⟩
                rw [uo 96 _ (by decide), y2]
                unfold jle
                rw [if_neg (by omega), if_neg (by omega), if_neg (by omega), x2 96 _ (by omega) (by omega), vo 96 _ (by decide)]
                by_cases z : s = v
                · rw [if_pos z] at i1; omega
                · rw [if_neg z] at i1
                  exact o3 i i0 i1
            obtain ⟨V', a, z1, z2, z3⟩ := ih m' V4 (by omega) (by omega) B4
            exact ⟨V', a, z1, fun j j0 => by rw [z2 j j0, uo 92 j (by decide), h92 j j0], z3⟩
end Tt
