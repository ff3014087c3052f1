/-! AN END, A COMMIT: noted, and the transaction closed -/
theorem jhk0 {G : jg_G} {r p : Int} (h : G 105 r = 0) : jh_k G r p = -1 := by
  unfold jh_k
  rw [h, if_neg (fun z => absurd z.1 (by decide)), if_neg (fun z => absurd z.1 (by decide)), if_neg (fun z => absurd z.1 (by decide))]
theorem jB.nop {K : jc_K} {G : jg_G} {N x q : Nat} (h : jB K G N x q) (hr : jg_rec K G ((N : Int) + 1) q) (hv : jl_v G (N + 1)) (h105 : G 105 ((N : Int) + 1) = 0) : jY K G (N + 1) x := by
  obtain ⟨⟨n1, n2⟩, ⟨z1, z2⟩, lt, ⟨d1, d2⟩, ⟨q1, q2⟩, hN⟩ := h
  have ec : (((N + 1 : Nat) : Nat) : Int) = (N : Int) + 1 := by omega
  have nn : jN K G (fun p => jv G p N) (N + 1) := by
    refine n1.ref (by omega) (by omega) (by rw [n2]; omega) (fun i hi => ?_) (fun n hn j => ?_) (fun j hj => ?_) (fun m j e => ?_)
    · rw [jg_uI (by omega)]
    · rw [jg_uN (by omega)]
    · rw [jg_uN (by decide)]
    · rw [jg_uN (by omega)]
  have ev : (fun p => jv G p (N + 1)) = fun p => jv G p N := funext fun p => by
    show (if jh_k G ((N : Int) + 1) p = -1 then jv G p N else N + 1) = _
    rw [if_pos (jhk0 h105)]
  refine ⟨by rw [ev]; exact nn, ⟨by rw [z1, ec], fun r r1 r2 => ?_⟩, lt, d1, d2⟩
  by_cases er : r ≤ N
  · exact z2 r r1 er
  · have er' : r = N + 1 := by omega
    subst er'
    rw [show ((N + 1 : Nat) : Int) - 1 = N by omega, q1, ec]
    exact ⟨hr, hv⟩
theorem jh_nop {G : jg_G} {N : Nat} (h105 : G 105 ((N : Int) + 1) = 0) (p : Int) : jh G (N + 1) p = jh G N p := by
  show (if jh_k G ((N : Int) + 1) p = -1 then jh G N p else _) = _
  rw [if_pos (jhk0 h105)]
section No
variable {K : jc_K} {G : jg_G} {N x κ B : Nat} {W : jZW} {w t : Int}
theorem jnoted (hY : jY K G N x) (hM : jM G N κ W B) (hN : N ≤ 925) (hw : w = 2 ∨ w = 3) (ht : 0 ≤ t ∧ t < 4) (he : w = 3 → jzL G t N = []) : ∃ K1 q, fc20 K w t = some (K1, q) ∧ q ≠ 0 ∧ jk_g (jA_S q) K K1 ∧ 98 ≤ q ∧ jY K1 (fr_no G w t) (N + 1) x ∧ (jLg (fr_no G w t) (N + 1) ∧ jMk (fr_no G w t) (N + 1)) ∧ jl_a G (fr_no G w t) N ∧ (∀ s, 0 ≤ s → s < 4 → jt (fr_no G w t) s (N + 1) = if s = t then 0 else jt G s N) ∧ (∀ y, jcw (fr_no G w t) y (N + 1) = jcw G y N + (if w = y then 1 else 0)) ∧ (∀ z, jh (fr_no G w t) (N + 1) z = jh G N z) ∧ jP (fr_no G w t) = jP G := by
  have ec : (((N + 1 : Nat) : Nat) : Int) = (N : Int) + 1 := by omega
  have h12 := hY.h12
  obtain ⟨⟨m1, m2⟩, m3, m4, m5, m6, m7, m8, m9, m10⟩ := hM
  obtain ⟨lo, hi, rk, hT⟩ := m1.2.1 N (Nat.le_refl _)
  obtain ⟨K1, q, a1, a2, a3, a4, a5⟩ := jB.start (w := w) (t := t) hY (by omega) ⟨by omega, ht.2⟩
  have q120 := a2.2.2.2.2.1.2.1.1
  have o := fun (n : Nat) (j : Int) => fr_no_o (G := G) (w := w) (t := t) (n := n) (j := j)
  have is := fr_no_is (G := G) (w := w) (t := t) ⟨by omega, ht.2⟩
  rw [h12] at is
  simp only [h12] at o
  obtain ⟨i12, i98, i99, i100, i101, i104, i105, i108⟩ := is
  have hl : jl_a G (fr_no G w t) N := fun m j e => o m j (by omega) (by omega) (by omega)
  have hs : jd_m G (fr_no G w t) := jd_m.same (fun j _ _ => o 93 j (by omega) (by omega) (by omega))
  generalize hG1 : fr_no G w t = G1 at *
  have hh : ∀ z, jh G1 N z = jh G N z := fun z => hl.h z N (Int.le_refl _)
  have hn : ∀ z, jh G1 (N + 1) z = jh G N z := fun z => (jh_nop i105 z).trans (hh z)
  have eh : (fun z => jh G1 (N + 1) z) = fun z => jh G N z := funext hn
  have hjt : ∀ s, jt G1 s N = jt G s N := fun s => hl.t s N (Int.le_refl _)
  have jtn : ∀ s, 0 ≤ s → s < 4 → jt G1 s (N + 1) = if s = t then 0 else jt G s N := fun s _ _ => by
    show (if G1 99 ((N : Int) + 1) = s then (if G1 98 ((N : Int) + 1) = 2 ∨ G1 98 ((N : Int) + 1) = 3 then 0 else (N : Int) + 1) else jt G1 s N) = _
    rw [i99, i98, hjt]
    by_cases e : s = t
    · rw [if_pos e.symm, if_pos hw, if_pos e]
    · rw [if_neg (fun z => e z.symm), if_neg e]
  have cw : ∀ y, jcw G1 y (N + 1) = jcw G y N + (if w = y then 1 else 0) := fun y => by
    show jcw G1 y N + (if G1 98 ((N : Int) + 1) = y then 1 else 0) = _
    rw [i98, hl.cw y N (Int.le_refl _)]
  have b1 := m1.a hl (Nat.le_refl _)
  have j1 : jl_1 G1 (N + 1) := by
    unfold jl_1
    rw [ec, i98, i99, i100, i101, i104, show N + 1 - 1 = N by omega]
    refine ⟨by omega, ⟨fun _ => ht, fun z => by omega⟩, ?_, fun z => by omega, fun z => by omega, fun _ => rfl⟩
    rw [if_neg (by omega), if_neg (by omega), m3 t ht.1 ht.2, hjt]
  have j2 : jl_2 G1 (N + 1) := by
    obtain ⟨x0, x1, x2, -⟩ := m1.2.2 N (Nat.le_refl _)
    have eA : (fun y => jzA G1 y (N + 1)) = fun y => jzA G y N := funext (fun y => (jzA_o (fun z => by rw [i98] at z; omega)).trans (hl.zA y N (Int.le_refl _)))
    refine ⟨by rw [eh]; exact x0, ?_, ?_, by rw [eh, eA]; exact m1.E, by rw [eh]; exact m1.D, fun m hm => ?_⟩
    case refine_3 =>
      have em : m = N := by omega
      subst em
      refine ⟨fun z => by rw [i98] at z; omega, fun z => by rw [i98] at z; omega, fun z => by rw [i98] at z; omega, fun z => by rw [i98] at z; omega, fun z => ?_⟩
      rw [i98] at z
      rw [i99, hl.zL t _ (Int.le_refl _)]
      exact he z
    · rw [cw, cw, if_neg (by omega), if_neg (by omega)]
      have : jpd G1 (N + 1) ≤ jpd G N := jsum_le 4 (fun i hi => by
        show jpl G1 (N + 1) (jt G1 i (N + 1)) ≤ jpl G N (jt G i N)
        rw [jtn i (by omega) (by omega)]
        by_cases e : (i : Int) = t
        · rw [if_pos e]
          unfold jpl
          rw [if_pos (Int.le_refl _)]
          exact Nat.zero_le _
        · rw [if_neg e]
          have b := jt_b G i N
          rw [jpl_f b1.1 (N + 1) N _ (by omega) (by omega) (by omega), hl.pl m1.1 N _ (by omega)]
          exact Nat.le_refl _)
      omega
    · rw [eh, cw, cw, cw, if_neg (by omega), if_neg (by omega), if_neg (by omega)]
      exact x2
  have L : jLg G1 (N + 1) := m1.up hl j1 ⟨lo, hi, rk, by rw [eh]; exact hT⟩ j2
  have Mk : jMk G1 (N + 1) := fun r r0 r1 hr => by
    by_cases e : r = N + 1
    · rw [e, ec, i98] at hr
      omega
    · exact m2.a hl hs (Nat.le_refl _) r r0 (by omega) hr
  have rcd : jg_rec K1 G1 ((N : Int) + 1) q := by
    obtain ⟨y0, y1, y2, y3, y4, y5, y6, y7, y8⟩ := a4
    rw [if_neg (by omega)] at y6 i100
    refine ⟨a2.2.2.2.2.1.2, ⟨y0, by rw [y1, i98], by rw [y2, i99], by rw [y3, i101], by rw [y6, i100], by rw [y7, i104], by rw [y8, i105]⟩, fun z => by omega, fun z => by omega, fun k k0 k1 => by omega, fun z => by omega, fun z => by omega⟩
  have lv : jl_v G1 (N + 1) := by
    unfold jl_v
    rw [ec, i98, i105]
    exact ⟨by omega, by decide, fun k k0 k1 => by omega, fun z => by omega, fun z => absurd z (by decide), fun p p0 p1 => by rw [hn]; exact hT.1.1 p p0 p1⟩
  refine ⟨K1, q, a1, by omega, a3, q120, a2.nop rcd lv i105, ⟨L, Mk⟩, hl, jtn, cw, hn, ?_⟩
  exact jP_same (fun i => o 97 i (by omega) (by omega) (by omega)) (o 92 3 (by omega) (by omega) (by omega))
end No
/-- one transaction's spent calls -/
def jtm (G : jg_G) (N : Nat) (t : Int) : Nat := if 0 < jt G t N then 2 else if G 107 t = 1 then (if G 110 t = -1 then 1 else 2) else 0
theorem fr_cl_o {G : jg_G} {t : Int} {n : Nat} {j : Int} (h : n < 107 ∨ 111 < n) : fr_cl G t n j = G n j := by
  unfold fr_cl
  rw [if_neg (fun w => by have := w.1; omega), if_neg (fun w => by have := w.1; omega), if_neg (fun w => by have := w.1; omega)]
theorem fr_cl_7 {G : jg_G} {t : Int} {n : Nat} {j : Int} (h : 107 ≤ n ∧ n ≤ 109) : fr_cl G t n j = if j = t then 0 else G n j := by
  unfold fr_cl
  by_cases e : j = t
  · rw [if_pos ⟨by omega, e⟩, if_pos e]
  · rw [if_neg (fun w => e w.2), if_neg (fun w => by have := w.1; omega), if_neg (fun w => by have := w.1; omega), if_neg e]
theorem fr_cl_10 {G : jg_G} {t j : Int} : fr_cl G t 110 j = if j = t ∨ (0 ≤ j ∧ j < 4 ∧ G 110 j = t) then -1 else G 110 j := by
  unfold fr_cl
  rw [if_neg (fun w => by have := w.1; omega)]
  by_cases z : j = t ∨ (0 ≤ j ∧ j < 4 ∧ G 110 j = t)
  · rw [if_pos ⟨rfl, z⟩, if_pos z]
  · rw [if_neg (fun w => z w.2), if_neg (fun w => absurd w.1 (by decide)), if_neg z]
theorem fr_cl_11 {G : jg_G} {t j : Int} : fr_cl G t 111 j = if 0 ≤ j ∧ j < 32 ∧ G 111 j = t then -1 else G 111 j := by
  unfold fr_cl
  rw [if_neg (fun w => by have := w.1; omega), if_neg (fun w => absurd w.1 (by decide))]
  by_cases z : 0 ≤ j ∧ j < 32 ∧ G 111 j = t
  · rw [if_pos ⟨rfl, z⟩, if_pos z]
  · rw [if_neg (fun w => z w.2), if_neg z]
section Cl
variable {K : jc_K} {G : jg_G} {N x κ B : Nat} {W : jZW} {t : Int}
/-- a transaction closed -/
theorem jclosed (hY : jY K G N x) (ht : 0 ≤ t ∧ t < 4) : ∃ K', fc63 K t = some (K', 0) ∧ jk_s jTn K K' ∧ jY K' (fr_cl G t) N x := by
  obtain ⟨K', a1, a2, a3, a4, a5, a6⟩ := jk_fc63 (K := K) ht
  have o := fun (n : Nat) (j : Int) => fr_cl_o (G := G) (t := t) (n := n) (j := j)
  have hl : jl_a G (fr_cl G t) N := fun m j e => o m j (by omega)
  have hS : ∀ n, jTn n → n < 98 := fun n e => by unfold jTn at e; omega
  refine ⟨K', a1, a2, ?_, ⟨?_, hY.2.1.2.s a2 (fun n hn z => by have := hS n z; omega) hl⟩, fun s s0 s1 => ?_, hY.2.2.2.1.s a2, hY.2.2.2.2.s a2⟩
  · have n1 := (hY.1.grow (jk_g.s a2) (fun n e z => by unfold jN_k at e; unfold jTn at z; omega) hY.2.2.2.1.1).ref (G' := fr_cl G t) (Nat.le_refl _) hY.1.2.1.2.2.2.1 ((o 92 12 (by decide)).trans hY.h12) (fun i _ => o 92 i (by decide)) (fun n hn j => o n j (by omega)) (fun j _ => o 93 j (by decide)) hl
    have ev : (fun p => jv (fr_cl G t) p N) = fun p => jv G p N := funext fun p => hl.v p N (Int.le_refl _)
    rw [ev]
    exact n1
  · rw [a2.2 63 (by unfold jTn; decide)]; exact hY.2.1.1
  · rw [a4, a2.2 60 (by unfold jTn; decide), fr_cl_7 (by decide), fr_cl_7 (by decide), fr_cl_7 (by decide)]
    obtain ⟨y1, y2⟩ := hY.2.2.1 s s0 s1
    by_cases e : s = t
    · rw [if_pos e, if_pos e, if_pos e]
      exact ⟨rfl, fun z => absurd z (by decide)⟩
    · rw [if_neg e, if_neg e, if_neg e, if_neg e]
      exact ⟨y1, y2⟩
end Cl
