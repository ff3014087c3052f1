/-! GO, class and reference -/
theorem jB.img {K K' : jc_K} {p : Nat} {c : jp_C} {N : Nat} (hD : jD K) (hN : N < 1100) (h : jp_k K p c) (hp : p < 92) (k : jk_b K K' N) : jp_k K' p c := by
  have nb : ∀ n, n < 120 → ¬ jo_w K N n := fun n hn z => by have := hD.own_b (by omega) z; omega
  exact k.1.k h (nb p (by omega)) (nb (p + 1) (by omega))
theorem jq_lt {G : jg_G} {p : Int} (hp : 0 ≤ p ∧ p < 24) (h : -1 ≤ fr_fo G p ∧ fr_fo G p < 4) : jq G p < 91 := by
  unfold jq
  split <;> omega
