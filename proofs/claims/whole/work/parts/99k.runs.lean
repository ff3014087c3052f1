/-! ALL CALLS: one call, a run, its counts (four calls still wanted) -/
def jcs (f : jc_K → jg_G → Int → Int → Int → Option (jc_K × jg_G)) : Prop := ∀ (K : jc_K) (G : jg_G) (k : Nat) (a b e : Int), jIn K G k → k < 512 → ∃ K' G', f K G a b e = some (K', G') ∧ jIn K' G' (k + 1)
theorem jstep {K : jc_K} {G : jg_G} {k : Nat} {c a b e : Int} (h12 : jcs js12) (h24 : jcs js24) (h25 : jcs js25) (h26 : jcs js26) (h : jIn K G k) (hk : k < 512) : ∃ K' G', jl_step c a b e K G = some (K', G') ∧ jIn K' G' (k + 1) := by
  unfold jl_step
  by_cases c0 : c = 0
  · rw [if_pos c0]
    exact jcase0 h a b e
  rw [if_neg c0]
  by_cases c1 : c = 1
  · rw [if_pos c1]
    exact jcase1 h hk a b e
  rw [if_neg c1]
  by_cases c2 : c = 2
  · rw [if_pos c2]
    exact jcase2 h hk a b e
  rw [if_neg c2]
  by_cases c3 : c = 3
  · rw [if_pos c3]
    exact jcase3 h hk a b e
  rw [if_neg c3]
  by_cases c4 : c = 4
  · rw [if_pos c4]
    exact jcase4 h a b e
  rw [if_neg c4]
  by_cases c5 : c = 5
  · rw [if_pos c5]
    exact jcase5 h hk a b e
  rw [if_neg c5]
  by_cases c6 : c = 6
  · rw [if_pos c6]
    exact jcase6 h hk a b e
  rw [if_neg c6]
  by_cases c7 : c = 7
  · rw [if_pos c7]
    exact jcase7 h hk a b e
  rw [if_neg c7]
  by_cases c8 : c = 8
  · rw [if_pos c8]
    exact jcase8 h hk a b e
  rw [if_neg c8]
  by_cases c9 : c = 9
  · rw [if_pos c9]
    exact jcase9 h hk a b e
  rw [if_neg c9]
  by_cases c10 : c = 10
  · rw [if_pos c10]
    exact jcase10 h a b e
  rw [if_neg c10]
  by_cases c11 : c = 11
  · rw [if_pos c11]
    exact jcase11 h hk a b e
  rw [if_neg c11]
  by_cases c12 : c = 12
  · rw [if_pos c12]
    exact h12 K G k a b e h hk
  rw [if_neg c12]
  by_cases c13 : c = 13
  · rw [if_pos c13]
    exact jcase13 h a b e
  rw [if_neg c13]
  by_cases c14 : c = 14
  · rw [if_pos c14]
    exact jcase14 h a b e
  rw [if_neg c14]
  by_cases c15 : c = 15
  · rw [if_pos c15]
    exact jcase15 h a b e
  rw [if_neg c15]
  by_cases c16 : c = 16
  · rw [if_pos c16]
    exact jcase16 h a b e
  rw [if_neg c16]
  by_cases c17 : c = 17
  · rw [if_pos c17]
    exact jcase17 h a b e
  rw [if_neg c17]
  by_cases c18 : c = 18
  · rw [if_pos c18]
    exact jcase18 h a b e
  rw [if_neg c18]
  by_cases c19 : c = 19
  · rw [if_pos c19]
    exact jcase19 h a b e
  rw [if_neg c19]
  by_cases c20 : c = 20
  · rw [if_pos c20]
    exact jcase20 h a b e
  rw [if_neg c20]
  by_cases c21 : c = 21
  · rw [if_pos c21]
    exact jcase21 h a b e
  rw [if_neg c21]
  by_cases c22 : c = 22
  · rw [if_pos c22]
    exact jcase22 h a b e
  rw [if_neg c22]
  by_cases c23 : c = 23
  · rw [if_pos c23]
    exact jcase23 h a b e
  rw [if_neg c23]
  by_cases c24 : c = 24
  · rw [if_pos c24]
    exact h24 K G k a b e h hk
  rw [if_neg c24]
  by_cases c25 : c = 25
  · rw [if_pos c25]
    exact h25 K G k a b e h hk
  rw [if_neg c25]
  by_cases c26 : c = 26
  · rw [if_pos c26]
    exact h26 K G k a b e h hk
  rw [if_neg c26]
  exact ⟨K, G, rfl, h.up (Nat.le_succ k)⟩
theorem jruns {L : Int} {xs : Nat → Int32} (h12 : jcs js12) (h24 : jcs js24) (h25 : jcs js25) (h26 : jcs js26) (hL : L ≤ 2048) : ∀ (m k : Nat) (K : jc_K) (G : jg_G), jIn K G k → k ≤ 512 → 512 < m + k → ∃ r, jl_runs xs L m (4 * (k : Int)) K G = some r ∧ ∃ k', k' ≤ 512 ∧ jIn r.1 r.2 k'
  | 0, k, K, G, h, h1, h2 => by omega
  | m + 1, k, K, G, h, h1, h2 => by
    unfold jl_runs
    by_cases c : L - 4 < 4 * (k : Int)
    · rw [if_pos c]
      exact ⟨_, rfl, k, h1, h⟩
    · rw [if_neg c]
      obtain ⟨K', G', r1, r2⟩ := jstep (c := jl_c xs (4 * (k : Int))) (a := jl_x xs (4 * (k : Int) + 1)) (b := jl_x xs (4 * (k : Int) + 2)) (e := jl_x xs (4 * (k : Int) + 3)) h12 h24 h25 h26 h (by omega)
      rw [r1, jo_bs, show 4 * (k : Int) + 4 = 4 * ((k + 1 : Nat) : Int) by omega]
      exact jruns h12 h24 h25 h26 hL m (k + 1) K' G' r2 (by omega) (by omega)
theorem jIn.counts {K : jc_K} {G : jg_G} {k : Nat} (h : jIn K G k) (hk : k ≤ 512) : K.1.2.1 ≤ 601024 ∧ K.1.2.2 ≤ 7293033 := by
  have d : jD K ∧ jR K k := by
    rcases h.2 with ⟨h8, N, W, hW, hL⟩ | ⟨W, hW, hF, hM⟩
    · exact hL.1.2.2.2
    · exact ⟨hF.1.2.2.2.1, hF.1.2.2.2.2.1⟩
  obtain ⟨d1, d2, d3⟩ := d.1
  obtain ⟨e1, e2⟩ := d.2
  omega
