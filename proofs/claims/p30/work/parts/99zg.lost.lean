/-! RECOVER: the third pass -/
def jLo (K : jc_K) (G : jg_G) (N x κ B w1 : Nat) (r : Int → Nat) : Prop := jY K G N x ∧ jM G N κ (w1, 0, fun j => G 113 j) B ∧ jT_z (fun z => jh G N z) ∧ jTr K G ∧ ((∀ s, 0 ≤ s → s < 4 → G 107 s = 0 ∧ G 110 s = -1) ∧ ∀ k, 0 ≤ k → k < 32 → G 111 k = -1) ∧ ∀ s, 0 ≤ s → s < 4 → G 115 s = r s ∧ jch G N s (r s) ∧ jpl G N (jt G s N) = jpl G N (r s) ∧ (0 < r s → 0 < jt G s N) ∧ jzL G s N = jzL G s (r s)
def jnx (r : Int → Nat) (s : Int) : Int := if r s = 0 then -1 else (r s : Int)
def jsm (G : jg_G) (r : Int → Nat) : Nat := jct G 0 (r 0) + jct G 1 (r 1) + jct G 2 (r 2) + jct G 3 (r 3)
theorem jsm_a {G G' : jg_G} {N : Nat} {r : Int → Nat} (hl : jl_a G G' N) (hr : ∀ s, 0 ≤ s → s < 4 → r s ≤ N) : jsm G' r = jsm G r := by
  unfold jsm
  have a0 := hr 0 (by decide) (by decide)
  have a1 := hr 1 (by decide) (by decide)
  have a2 := hr 2 (by decide) (by decide)
  have a3 := hr 3 (by decide) (by decide)
  rw [hl.ct 0 _ (by omega), hl.ct 1 _ (by omega), hl.ct 2 _ (by omega), hl.ct 3 _ (by omega)]
theorem jsm_u {G : jg_G} {r : Int → Nat} {t : Int} {r' : Nat} (ht : 0 ≤ t ∧ t < 4) (h : jct G t r' + 1 ≤ jct G t (r t)) : jsm G (jup r t r') + 1 ≤ jsm G r := by
  unfold jsm
  rcases (show t = 0 ∨ t = 1 ∨ t = 2 ∨ t = 3 by omega) with e | e | e | e
  · subst e
    rw [jupH, jupN (by decide), jupN (by decide), jupN (by decide)]; omega
  · subst e
    rw [jupH, jupN (by decide), jupN (by decide), jupN (by decide)]; omega
  · subst e
    rw [jupH, jupN (by decide), jupN (by decide), jupN (by decide)]; omega
  · subst e
    rw [jupH, jupN (by decide), jupN (by decide), jupN (by decide)]; omega
theorem jQA.lo {n : Nat} (h : n < 58 ∧ ¬ ((3 ≤ n ∧ n < 57))) : ¬ jQA n := by unfold jQA jQU jQB jQ jS_n jTn; omega
section
variable {K : jc_K} {G : jg_G} {N x κ B w1 : Nat} {r : Int → Nat} {t : Int}
/-- the log up to N is the same, t has its END -/
theorem jl_end (h12 : G 92 12 = N) : jl_a G (fr_cl (fr_no G 3 t) t) N := fun m j e => by
  rw [fr_cl_o (by omega), fr_no_o (by omega) (by omega) (by omega)]
theorem jlo_end (h : jLo K G N x κ B w1 r) (hκ : κ ≤ 513) (hB : B ≤ 223) (ht : 0 ≤ t ∧ t < 4) (rt : r t = 0) (ho : 0 < jt G t N) (h82 : jc_i K 82 t = 0) (o82 : ∀ s, 0 ≤ s → s < 4 → s ≠ t → jc_i K 82 s = jnx r s) (o2 : ∀ s, 0 ≤ s → s < 4 → s ≠ t → r s = 0 → jt G s N = 0) : ∃ K', (∀ (m : Nat) (i : Int), 0 ≤ i → i ≤ 1000 → fc92_s (m + 1) 7 K 0 1 i 0 0 0 0 = fc92_s m 7 K' 0 1 (i + 1) 0 0 0 0) ∧ jLo K' (fr_cl (fr_no G 3 t) t) (N + 1) x κ B w1 r ∧ (∀ s, 0 ≤ s → s < 4 → jc_i K' 82 s = jnx r s) ∧ (∀ s, 0 ≤ s → s < 4 → r s = 0 → jt (fr_cl (fr_no G 3 t) t) s (N + 1) = 0) ∧ jk_g jQA K K' ∧ jc_i K' 81 4 = jc_i K 81 4 := by
  obtain ⟨hY, hM, hz, hT, ⟨hc1, hc2⟩, hr⟩ := h
  have hN := hM.len hκ hB
  have h12 := hY.h12
  have n120 : 98 ≤ K.1.1 := hY.2.2.2.1.1
  have hY0 : jY (jc_ui K 82 t (-1)) G N x := hY.nx (Or.inr rfl)
  have s82 : jk_s (fun n => n = 82) K (jc_ui K 82 t (-1)) := jk_s.u rfl
  have hT0 : jTr (jc_ui K 82 t (-1)) G := hT.s (jk_g.s s82) n120 ⟨by decide, by decide, by decide⟩ (fun j => ⟨rfl, rfl, rfl⟩)
  obtain ⟨K2, b1, b2, b3, b4, b5, b6, b7, _, _, b10, b11⟩ := jended hY0 hM hN ht (by rw [(hr t ht.1 ht.2).2.2.2.2, rt]; rfl)
  have tm : jtm G N t = 2 := if_pos ho
  rw [tm, show κ + 2 - 2 = κ by omega] at b4
  have nE : ∀ n, n = 81 ∨ n = 82 → ¬ (jQ n ∨ jTn n) := fun n hn z => by unfold jQ jS_n jTn at z; omega
  have n1201 : 98 ≤ (jc_ui K 82 t (-1)).1.1 := n120
  have k2 : ∀ n, n = 81 ∨ n = 82 → ∀ s, jc_i K2 n s = jc_i (jc_ui K 82 t (-1)) n s := fun n hn s => b2.2.2.2 n s (by omega) (nE n hn)
  have hl : jl_a G (fr_cl (fr_no G 3 t) t) N := jl_end h12
  have hi : ∀ n, 112 ≤ n → ∀ j, fr_cl (fr_no G 3 t) t n j = G n j := fun n hn j => by
    rw [fr_cl_o (by omega), fr_no_o (by omega) (by omega) (by omega)]
  have o := fun (n : Nat) (j : Int) => fr_no_o (G := G) (w := 3) (t := t) (n := n) (j := j)
  have jt0 : jt (fr_cl (fr_no G 3 t) t) t (N + 1) = 0 := by
    rw [← b4.2.1 t ht.1 ht.2, fr_cl_7 (by decide), if_pos rfl]
  have b4' : jM (fr_cl (fr_no G 3 t) t) (N + 1) κ (w1, 0, fun j => fr_cl (fr_no G 3 t) t 113 j) B := by
    have e : (fun j => fr_cl (fr_no G 3 t) t 113 j) = fun j => G 113 j := funext fun j => hi 113 (by decide) j
    rw [e]; exact b4
  refine ⟨K2, fun m i i0 i1 => ?_, ⟨b3, b4', hz.same b7, b5 hT0, ⟨fun s s0 s1 => ⟨?_, ?_⟩, fun k k0 k1 => ?_⟩, fun s s0 s1 => ?_⟩, fun s s0 s1 => ?_, fun s s0 s1 hs => ?_, ?_, ?_⟩
  · conv => lhs; unfold fc92_s
    have e93 : fc93 K 0 = some (K, t) := by
      unfold fc93
      exact jk_93e (r := r) ht h82 o82 t.toNat jo_N 0 (-1) (by decide) (by omega) (by unfold jo_N; omega) (Or.inl rfl)
    rw [if_pos rfl, if_neg (by omega), e93, jo_bs]
    dsimp only
    rw [if_neg (by omega), if_pos ht, h82, if_pos (by decide), if_neg (by decide), b1, jo_bs]
    dsimp only
    rw [if_neg (by decide), if_pos (by omega)]
  · rw [fr_cl_7 (by decide), o 107 s (by omega) (by omega) (by omega), (hc1 s s0 s1).1]
    split <;> rfl
  · rw [fr_cl_10, o 110 s (by omega) (by omega) (by omega), (hc1 s s0 s1).2]
    split <;> rfl
  · rw [fr_cl_11, o 111 k (by omega) (by omega) (by omega), hc2 k k0 k1]
    split <;> rfl
  · obtain ⟨r1, r2, r3, r4, r5⟩ := hr s s0 s1
    have rN := r2.1
    have jc : jch (fr_cl (fr_no G 3 t) t) (N + 1) s (r s) := ⟨by omega, fun z => by
      rw [hl.l (m := 99) (by decide) (by omega) (by omega), hl.l (m := 98) (by decide) (by omega) (by omega)]
      exact r2.2 z⟩
    by_cases e : s = t
    · subst e
      refine ⟨(hi 115 (by decide) s).trans r1, jc, by rw [jt0, rt]; rfl, fun z => by omega, by rw [rt, jzL_e b11 (Or.inr b10)]; rfl⟩
    · have pj : ∀ y : Int, y ≤ N → jpl (fr_cl (fr_no G 3 t) t) (N + 1) y = jpl G N y := fun y hy => by
        rw [jpl_f b4.1.1.1 (N + 1) N y (by omega) (by omega) (by omega), hl.pl hM.1.1.1 N y hy]
      have jb := jt_b G s N
      refine ⟨(hi 115 (by decide) s).trans r1, jc, ?_, fun z => by rw [b6 s s0 s1 e]; exact r4 z, by rw [jzL_o (by omega), hl.zL s N (Int.le_refl _), hl.zL s (r s) (by omega), r5]⟩
      rw [b6 s s0 s1 e, pj _ (by omega), pj _ (by omega)]
      exact r3
  · rw [k2 82 (Or.inr rfl)]
    by_cases e : s = t
    · unfold jnx
      rw [e, jc_uH, if_pos rt]
    · rw [jc_uI e]; exact o82 s s0 s1 e
  · by_cases e : s = t
    · rw [e]; exact jt0
    · rw [b6 s s0 s1 e]; exact o2 s s0 s1 e hs
  · exact ((jk_g.s (S := fun n => n = 82) s82).mono (fun n e => Or.inl (Or.inr (Or.inr e)))).trans (b2.mono (fun n e => e.elim (fun e => Or.inl (Or.inl (Or.inl e))) (fun e => Or.inr e)))
  · rw [k2 81 (Or.inl rfl), jc_uN (by decide)]
def jLs (x κ B w1 u : Nat) : Prop := ∀ (m m' : Nat) (i t0 : Int) (K : jc_K) (G : jg_G) (N : Nat) (r : Int → Nat), jLo K G N x κ B w1 r → (∀ s, 0 ≤ s → s < 4 → jc_i K 82 s = jnx r s) → (∀ s, 0 ≤ s → s < 4 → r s = 0 → jt G s N = 0) → jsm G r ≤ u → t0 ≠ -1 → 0 ≤ i → i + 2 * u ≤ 1000 → 2 * u + 1100 ≤ m + N → 6 * u + 8 ≤ m' → jc_i K 81 4 = G 113 2 → 0 ≤ G 113 2 → G 113 2 + u ≤ 1000 → ∃ K' G' st, fc92_s m 7 K 0 1 i 0 0 0 0 = some (K', st) ∧ fo211_s m' 27 G t0 0 = some (G', 0) ∧ jk_g jQA K K' ∧ jc_i K' 81 4 = G' 113 2 ∧ (∀ j, j ≠ 2 → G' 113 j = G 113 j) ∧ ((st = 1 ∧ ∃ N' r', jLo K' G' N' x κ B w1 r' ∧ ∀ s, 0 ≤ s → s < 4 → jt G' s N' = 0) ∨ (st = 0 ∧ jE K' G' x ∧ jMf G' κ (w1, 0, fun j => G' 113 j) B ∧ ∀ k, 0 ≤ k → k < 32 → -1 ≤ jc_i K' 62 k ∧ jc_i K' 62 k < 4))
/-- one step was done: t ends, if it has nothing left -/
theorem jfin1 {u : Nat} (hP : jLs x κ B w1 u) (h : jLo K G N x κ B w1 r) (hκ : κ ≤ 513) (hB : B ≤ 223) (ht : 0 ≤ t ∧ t < 4) (ho : 0 < jt G t N) (h82 : jc_i K 82 t = r t) (o82 : ∀ s, 0 ≤ s → s < 4 → s ≠ t → jc_i K 82 s = jnx r s) (o2 : ∀ s, 0 ≤ s → s < 4 → s ≠ t → r s = 0 → jt G s N = 0) (hu : jsm G r ≤ u) {m m' : Nat} {i : Int} (i0 : 0 ≤ i) (i1 : i + 1 + 2 * u ≤ 1000) (f1 : 2 * u + 1100 ≤ m + N) (f2 : 6 * u + 8 ≤ m') (e81 : jc_i K 81 4 = G 113 2) (p0 : 0 ≤ G 113 2) (p1 : G 113 2 + u ≤ 1000) : ∃ K' G' st, fc92_s m 7 K 0 1 i 0 0 0 0 = some (K', st) ∧ (if r t = 0 then fo211_s m' 27 (fr_cl (fr_no G 3 t) t) t 0 else fo211_s m' 27 G t 0) = some (G', 0) ∧ jk_g jQA K K' ∧ jc_i K' 81 4 = G' 113 2 ∧ (∀ j, j ≠ 2 → G' 113 j = G 113 j) ∧ ((st = 1 ∧ ∃ N' r', jLo K' G' N' x κ B w1 r' ∧ ∀ s, 0 ≤ s → s < 4 → jt G' s N' = 0) ∨ (st = 0 ∧ jE K' G' x ∧ jMf G' κ (w1, 0, fun j => G' 113 j) B ∧ ∀ k, 0 ≤ k → k < 32 → -1 ≤ jc_i K' 62 k ∧ jc_i K' 62 k < 4)) := by
  by_cases rt : r t = 0
  · have hN := h.2.1.len hκ hB
    obtain ⟨K2, a1, a2, a3, a4, a5, a6⟩ := jlo_end h hκ hB ht rt ho (by rw [h82, rt]; rfl) o82 o2
    have g113 : ∀ j, fr_cl (fr_no G 3 t) t 113 j = G 113 j := fun j => by rw [fr_cl_o (by omega), fr_no_o (by omega) (by omega) (by omega)]
    have sm : jsm (fr_cl (fr_no G 3 t) t) r = jsm G r := jsm_a (jl_end h.1.h12) (fun s s0 s1 => (h.2.2.2.2.2 s s0 s1).2.1.1)
    obtain ⟨m, rfl⟩ : ∃ j, m = j + 1 := ⟨m - 1, by omega⟩
    obtain ⟨K', G', st, z1, z2, z3, z4, z5, z6⟩ := hP m m' (i + 1) t K2 _ (N + 1) r a2 a3 a4 (by omega) (by omega) (by omega) (by omega) (by omega) f2 (by rw [a6, g113]; exact e81) (by rw [g113]; exact p0) (by rw [g113]; exact p1)
    refine ⟨K', G', st, ?_, ?_, a5.trans z3, z4, fun j hj => (z5 j hj).trans (g113 j), z6⟩
    · rw [a1 m i i0 (by omega)]; exact z1
    · rw [if_pos rt]; exact z2
  · rw [if_neg rt]
    exact hP m m' i t K G N r h (fun s s0 s1 => by
      by_cases e : s = t
      · unfold jnx
        rw [e, if_neg rt]; exact h82
      · exact o82 s s0 s1 e) (fun s s0 s1 hs => by
      by_cases e : s = t
      · rw [e] at hs; exact absurd hs rt
      · exact o2 s s0 s1 e hs) hu (by omega) i0 (by omega) f1 f2 e81 p0 p1
end
