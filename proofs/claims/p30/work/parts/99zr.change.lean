/-! THE LAW: put, take, read -/
theorem jzA_b {G : jg_G} {y : Int} : ∀ n : Nat, jzF G n → -1 ≤ jzA G y n ∧ jzA G y n < 1000
  | 0, _ => by
    show -1 ≤ (-1 : Int) ∧ (-1 : Int) < 1000
    decide
  | n + 1, h => by
    have ih := jzA_b (y := y) n (h.le (by omega))
    by_cases c : G 98 ((n : Int) + 1) ≤ 1 ∧ G 101 ((n : Int) + 1) = y
    · rw [jzA_k c.1 c.2]
      exact ((h.2 n (by omega)).1 c.1).2
    · rw [jzA_o c]
      exact ih
theorem jLk.m1 {t key : Int} : ∀ (m : Nat) {G G' : jg_G} {N N' : Nat}, jLk t key m G N G' N' 0 → G 110 t = -1 → G' 110 t = -1
  | 0, _, _, _, _, h, _ => h.elim
  | m + 1, G, G', N, N', h, h0 => by
    rcases h with ⟨_, e, _, _⟩ | ⟨_, v, _, ⟨_, _, _, e⟩ | ⟨_, _, G1, N1, _, ⟨_, _, _, e⟩ | ⟨_, h⟩⟩⟩
    · rw [e, jg_uN (by decide)]; exact h0
    · exact absurd e (by decide)
    · exact absurd e (by decide)
    · exact jLk.m1 m h jg_uH
section Ch
variable {K : jc_K} {V G : jg_G} {N k : Nat} {W : jZW} {t : Int}
theorem jSt.rz (hs : jSt K G N k W) (hl : ∀ t, 0 ≤ t → t < 4 → (jzL G t N).length ≤ 15) : jRz G N := fun t t0 t1 => ⟨fun u hu => by
  obtain ⟨r, a, b, c⟩ := hs.2.2.2.2.1.1.1.zr (Nat.le_refl _) t0 u hu
  omega, hl t t0 t1⟩
theorem jSt.rb (hs : jSt K G N k W) (hk : k ≤ 512) (hR : jRl V G N) : jRb V := fun t t0 t1 => by
  rw [(hR.2 t t0 t1).1.2.2.1]
  have hN := hs.2.2.2.2.1.len (by omega) (by decide)
  by_cases o : G 107 t = 1
  · rw [if_pos o, hs.2.2.2.2.1.2.2.2.2.2.2.2.2.2 t t0 t1 o]
    have := jzn_b G t N
    omega
  · rw [if_neg o]
    decide
/-- nobody is waited for any more, in the rows and in the log -/
theorem jRl.w (hR : jRl V G N) (ht : 0 ≤ t ∧ t < 4) : jRl (jg_u V 94 t (-1)) (jg_u (jg_u G 92 0 0) 110 t (-1)) N := by
  have g : ∀ n j, n ≠ 110 → n ≠ 92 → jg_u (jg_u G 92 0 0) 110 t (-1) n j = G n j := fun n j a b => by rw [jg_uN a, jg_uN b]
  have hl : jl_a G (jg_u (jg_u G 92 0 0) 110 t (-1)) N := fun m j e => g m j (by omega) (by omega)
  refine ⟨fun y y0 y1 => ⟨?_, ?_, ?_⟩, fun s s0 s1 => ⟨⟨?_, ?_, ?_, ?_⟩, ?_⟩⟩
  · rw [jg_uN (by decide), hl.zA y N (Int.le_refl _)]; exact (hR.1 y y0 y1).1
  · rw [jg_uN (by decide), g 113 _ (by decide) (by decide)]; exact (hR.1 y y0 y1).2.1
  · rw [jg_uN (by decide), g 111 _ (by decide) (by decide)]; exact (hR.1 y y0 y1).2.2
  · by_cases e : s = t
    · rw [e, jg_uH, jg_uH]
    · rw [jg_uI e, jg_uI e, jg_uN (by decide)]; exact (hR.2 s s0 s1).1.1
  · rw [jg_uI (by omega), g 107 _ (by decide) (by decide)]; exact (hR.2 s s0 s1).1.2.1
  · rw [jg_uI (by omega), g 107 _ (by decide) (by decide), g 109 _ (by decide) (by decide)]; exact (hR.2 s s0 s1).1.2.2.1
  · rw [jg_uI (by omega), hl.zL s N (Int.le_refl _)]; exact (hR.2 s s0 s1).1.2.2.2
  · rw [hl.zL s N (Int.le_refl _)]
    exact (hR.2 s s0 s1).2.c (fun n j hn _ _ => jg_uN (by omega)) (fun u _ => ⟨g 101 u (by decide) (by decide), g 102 u (by decide) (by decide)⟩)
theorem jRz.w (hz : jRz G N) : jRz (jg_u (jg_u G 92 0 0) 110 t (-1)) N := fun s s0 s1 => by
  have hl : jl_a G (jg_u (jg_u G 92 0 0) 110 t (-1)) N := fun m j e => by rw [jg_uN (by omega), jg_uN (by omega)]
  rw [hl.zL s N (Int.le_refl _)]
  exact hz s s0 s1
/-- the rows of a change -/
def jrc (V : jg_G) (t key v r : Int) : jg_G := jg_u (jg_u (jg_u (jg_u (jg_u (jg_u V 95 (16 * t + V 94 (12 + t)) r) 96 (16 * t + V 94 (12 + t)) key) 97 (16 * t + V 94 (12 + t)) (V 92 key)) 94 (12 + t) (V 94 (12 + t) + 1)) 94 (8 + t) (V 94 (8 + t) + 1)) 92 key v
theorem jRl.ch {G' : jg_G} {N' : Nat} {key v : Int} (hR : jRl V G N) (hz : jRz G N) (ht : 0 ≤ t ∧ t < 4) (hk : 0 ≤ key ∧ key < 32) (o : G 107 t = 1) (z : jzc G N G' N' t key v) (hl : (jzL G t N).length < 15) : jRl (jrc V t key v (G' 108 t)) G' N' ∧ jRz G' N' := by
  obtain ⟨a1, ⟨r, c1, c2, c3, c4, c5, c6⟩, a3, a4, a5, a6, a7, a8⟩ := z
  obtain ⟨⟨_, _, b3, b4⟩, b5⟩ := hR.2 t ht.1 ht.2
  rw [c1]
  have e92 : ∀ j, j ≠ key → jrc V t key v r 92 j = V 92 j := fun j hj => by
    unfold jrc
    rw [jg_uI hj, jg_uN (by decide), jg_uN (by decide), jg_uN (by decide), jg_uN (by decide), jg_uN (by decide)]
  have e93 : ∀ j, jrc V t key v r 93 j = V 93 j := fun j => by
    unfold jrc
    rw [jg_uN (by decide), jg_uN (by decide), jg_uN (by decide), jg_uN (by decide), jg_uN (by decide), jg_uN (by decide)]
  have e94 : ∀ j, j ≠ 12 + t → j ≠ 8 + t → jrc V t key v r 94 j = V 94 j := fun j h1 h2 => by
    unfold jrc
    rw [jg_uN (by decide), jg_uI h2, jg_uI h1, jg_uN (by decide), jg_uN (by decide), jg_uN (by decide)]
  have e8 : jrc V t key v r 94 (8 + t) = V 94 (8 + t) + 1 := by
    unfold jrc
    rw [jg_uN (by decide), jg_uH]
  have e12 : jrc V t key v r 94 (12 + t) = V 94 (12 + t) + 1 := by
    unfold jrc
    rw [jg_uN (by decide), jg_uI (by omega), jg_uH]
  have e957 : ∀ n j, n = 95 ∨ n = 96 ∨ n = 97 → j ≠ 16 * t + V 94 (12 + t) → jrc V t key v r n j = V n j := fun n j hn hj => by
    unfold jrc
    rw [jg_uN (by omega), jg_uN (by omega), jg_uN (by omega)]
    rcases hn with e | e | e
    · subst e
      rw [jg_uN (by decide), jg_uN (by decide), jg_uI hj]
    · subst e
      rw [jg_uN (by decide), jg_uI hj, jg_uN (by decide)]
    · subst e
      rw [jg_uI hj, jg_uN (by decide), jg_uN (by decide)]
  have at95 : jrc V t key v r 95 (16 * t + V 94 (12 + t)) = r := by
    unfold jrc
    rw [jg_uN (by decide), jg_uN (by decide), jg_uN (by decide), jg_uN (by decide), jg_uN (by decide), jg_uH]
  have at96 : jrc V t key v r 96 (16 * t + V 94 (12 + t)) = key := by
    unfold jrc
    rw [jg_uN (by decide), jg_uN (by decide), jg_uN (by decide), jg_uN (by decide), jg_uH]
  have at97 : jrc V t key v r 97 (16 * t + V 94 (12 + t)) = V 92 key := by
    unfold jrc
    rw [jg_uN (by decide), jg_uN (by decide), jg_uN (by decide), jg_uH]
  have ln : ((r : Int) :: jzL G t N).length = (jzL G t N).length + 1 := List.length_cons
  have old : ∀ s, 0 ≤ s → s < 4 → ∀ u ∈ jzL G s N, G' 101 u = G 101 u ∧ G' 102 u = G 102 u := fun s s0 s1 u hu => by
    have := (hz s s0 s1).1 u hu
    exact ⟨a6.l (m := 101) (by decide) this.1 this.2, a6.l (m := 102) (by decide) this.1 this.2⟩
  refine ⟨⟨fun y y0 y1 => ⟨?_, ?_, ?_⟩, fun s s0 s1 => ⟨⟨?_, ?_, ?_, ?_⟩, ?_⟩⟩, fun s s0 s1 => ?_⟩
  · rw [a1 y]
    by_cases e : y = key
    · rw [if_pos e, e]
      unfold jrc
      exact jg_uH
    · rw [if_neg e, e92 y e]; exact (hR.1 y y0 y1).1
  · rw [e92 _ (by omega), a8]; exact (hR.1 y y0 y1).2.1
  · rw [e93, (a4 y).2.2]; exact (hR.1 y y0 y1).2.2
  · rw [e94 _ (by omega) (by omega), (a4 s).2.1]; exact (hR.2 s s0 s1).1.1
  · rw [e94 _ (by omega) (by omega), (a4 s).1]; exact (hR.2 s s0 s1).1.2.1
  · rw [(a4 s).1]
    by_cases e : s = t
    · rw [e, e8, b3, if_pos o, if_pos o, a5 t ht.1 ht.2 o, if_pos rfl]
    · rw [e94 _ (by omega) (by omega), (hR.2 s s0 s1).1.2.2.1]
      by_cases os : G 107 s = 1
      · rw [if_pos os, if_pos os, a5 s s0 s1 os, if_neg e]
      · rw [if_neg os, if_neg os]
  · by_cases e : s = t
    · rw [e, e12, c2, ln, b4]; omega
    · rw [e94 _ (by omega) (by omega), a3 s s0 s1 e]; exact (hR.2 s s0 s1).1.2.2.2
  · by_cases e : s = t
    · rw [e, c2]
      refine ⟨⟨?_, ?_, ?_, ?_⟩, b5.c (fun n j hn _ j1 => e957 n j hn (by omega)) (old t ht.1 ht.2)⟩
      · rw [← b4]; exact at95
      · rw [← b4, at96, c3]
      · rw [← b4, at97, c4]; exact (hR.1 key hk.1 hk.2).1
      · rw [c3]; exact hk
    · rw [a3 s s0 s1 e]
      have := (hz s s0 s1).2
      exact (hR.2 s s0 s1).2.c (fun n j hn j0 j1 => e957 n j hn (by omega)) (old s s0 s1)
  · by_cases e : s = t
    · rw [e, c2]
      refine ⟨fun u hu => ?_, by omega⟩
      rcases List.mem_cons.mp hu with hu | hu
      · omega
      · have := (hz t ht.1 ht.2).1 u hu
        omega
    · rw [a3 s s0 s1 e]
      refine ⟨fun u hu => ?_, (hz s s0 s1).2⟩
      have := (hz s s0 s1).1 u hu
      omega
/-- the answer of the rows, if the class has fallen -/
theorem jl150_t (hs : jSt K G N k W) (hk : k ≤ 512) (hR : jRl V G N) (hz : jRz G N) (ht : 0 ≤ t ∧ t < 4) {key : Int} (hkey : 0 ≤ key ∧ key < 32) : ∃ V' a, fl150 K V t key = some ((K, V'), a) ∧ (∀ y, 0 ≤ y → y < 32 → V' 92 (32 + y) = G 113 (-1 - y)) ∧ ∀ k, 0 ≤ k → k < 32 → -1 ≤ V' 93 k ∧ V' 93 k < 4 := by
  have hT := hs.2.2.2.2.2.2.1
  have hB := hR.B hz (hs.rb hk hR) (fun k k0 k1 => (hT.2 k k0 k1).2) (fun s s0 s1 => (hT.1 s s0 s1).2.2.2)
  have hB' : jBt (jg_u V 94 t (-1)) := by
    obtain ⟨b1, b2, b3⟩ := hB
    refine ⟨fun k k0 k1 => by rw [jg_uN (by decide)]; exact b1 k k0 k1, fun s s0 s1 => ?_, fun s s0 s1 => ?_⟩
    · by_cases e : s = t
      · rw [e, jg_uH]; decide
      · rw [jg_uI e]; exact b2 s s0 s1
    · rw [jg_uI (by omega), jg_uI (by omega)]
      refine ⟨(b3 s s0 s1).1, (b3 s s0 s1).2.1, fun i i0 i1 => ?_⟩
      rw [jg_uN (by decide)]
      exact (b3 s s0 s1).2.2 i i0 i1
  obtain ⟨V', a, y1, y2, y3⟩ := jt150 (K := K) ht hkey 4 jo_N (jg_u V 94 t (-1)) (jms_4 _ _) (by unfold jo_N; omega) hB'
  refine ⟨V', a, ?_, fun y y0 y1' => ?_, y3⟩
  · unfold fl150
    rw [if_pos (by omega)]
    exact y1
  · rw [y2 _ (by omega), jg_uN (by decide)]
    exact (hR.1 y y0 y1').2.1
/-- the answer of the rows, alive -/
theorem jl150_s (hs : jSt K G N k W) (hk : k ≤ 512) (hR : jRl V G N) (hz : jRz G N) (ht : 0 ≤ t ∧ t < 4) (o : G 107 t = 1) {key : Int} (hkey : 0 ≤ key ∧ key < 32) {Gl : jg_G} {Nl : Nat} {due : Int} (h : jLk t key 4 (jg_u (jg_u G 92 0 0) 110 t (-1)) N Gl Nl due) : ∃ V', fl150 K V t key = some ((K, V'), due) ∧ jRl V' Gl Nl ∧ jRz Gl Nl := by
  have hL := jnw (hs.2.2.2.t 0) ht
  have hb : jRb (jg_u V 94 t (-1)) := fun s s0 s1 => by
    rw [jg_uI (by omega)]
    exact hs.rb hk hR s s0 s1
  obtain ⟨V', y1, y2, y3, _⟩ := js150 (K := K) ht hkey 4 jo_N (jg_u V 94 t (-1)) _ Gl N Nl due h (by unfold jo_N; omega) (hR.w ht) hz.w hb hL.2.2.2.2.1.1 (fun k k0 k1 => (hL.2.2.2.1.2 k k0 k1).2) (fun s s0 s1 => (hL.2.2.2.1.1 s s0 s1).2.2.2) (by rw [jg_uN (by decide), jg_uN (by decide)]; exact o)
  refine ⟨V', ?_, y2, y3⟩
  unfold fl150
  rw [if_pos (by omega)]
  exact y1
end Ch
