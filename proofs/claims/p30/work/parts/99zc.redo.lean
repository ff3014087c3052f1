/-! RECOVER: the second pass -/
theorem jN.cv {K : jc_K} {G : jg_G} {cv cv' : Int → Nat} {N : Nat} (h : jN K G cv N) (e : ∀ p, 0 ≤ p → p < 24 → cv' p = cv p) : jN K G cv' N := by
  obtain ⟨a, b, c, d, f, g⟩ := h
  refine ⟨a, b, c, fun i i0 i1 i2 => ?_, f, fun p p0 p1 hp => ?_⟩
  · have := (c.2.1 i i0 i1).2.2.1
    rw [e _ i2 this.2]
    exact d i i0 i1 i2
  · rw [e p p0 p1]
    exact g p p0 p1 hp
def jmx (a b : Nat) : Nat := if a < b then b else a
/-- the versions while the k-th page of the record r is due -/
def jcq (G : jg_G) (dv : Int → Nat) (r : Nat) (k : Int) : Int → Nat := fun p => if jh_k G r p ≠ -1 ∧ jh_k G r p < k then jmx (dv p) r else jmx (dv p) (jv G p (r - 1))
theorem jcq_0 {G : jg_G} {dv : Int → Nat} {r : Nat} : jcq G dv r 0 = fun p => jmx (dv p) (jv G p (r - 1)) := by
  funext p
  unfold jcq
  have hb := jh_k_b G r p
  rw [if_neg (fun z => by omega)]
theorem jcq_all {G : jg_G} {dv : Int → Nat} {r : Nat} (hr : 1 ≤ r) : jcq G dv r (G 105 r) = jcq G dv (r + 1) 0 := by
  rw [jcq_0]
  funext p
  unfold jcq
  have hb := jh_k_b G r p
  rw [show r + 1 - 1 = r by omega]
  by_cases c : jh_k G r p = -1
  · rw [if_neg (fun z => z.1 c)]
    obtain ⟨m, rfl⟩ : ∃ m, r = m + 1 := ⟨r - 1, by omega⟩
    have em : ((m + 1 : Nat) : Int) = (m : Int) + 1 := by omega
    rw [em] at c
    have : jv G p (m + 1) = jv G p m := if_pos c
    rw [this]
    rfl
  · rw [if_pos ⟨c, by have := hb.2.2 (by omega); omega⟩, jv_is (by omega) c]
section
variable {K0 : jc_K} {G0 : jg_G} {N : Nat} {dv : Int → Nat} {F : Int → Int}
/-- what the first pass has told of the pages -/
def jFo (K0 : jc_K) (G0 : jg_G) (N : Nat) (dv : Int → Nat) (F : Int → Int) : Prop := ∀ p, 0 ≤ p → p < 24 → (jc_i K0 84 p = F p ∧ G0 114 p = F p) ∧ (∃ f : Nat, F p = f ∧ f ≤ N ∧ jv G0 p (if f = 0 then N else f - 1) ≤ dv p) ∧ jv G0 p (dv p) = dv p ∧ dv p ≤ N
theorem jredo_k {r q : Nat} (hq : jg_rec K0 G0 r q) (hv : jl_v G0 r) (hr : 1 ≤ r ∧ r ≤ N) (hFo : jFo K0 G0 N dv F) (h0 : 98 ≤ K0.1.1) : ∀ (d : Nat) (k : Int) (K : jc_K) (G : jg_G), 0 ≤ k → k + d = G0 105 r → jN K G (jcq G0 dv r k) N → jrw G0 G → jk_s jRo K0 K → (∀ i, i ≠ 1 → jc_i K 85 i = jc_i K0 85 i) → jc_i K 85 1 = G 113 1 → (0 ≤ G 113 1 ∧ G 113 1 + d < 1000000) → jP G + d < 2000000000 → ∃ K' G', jk_s jRo K0 K' ∧ (∀ i, i ≠ 1 → jc_i K' 85 i = jc_i K0 85 i) ∧ jc_i K' 85 1 = G' 113 1 ∧ (0 ≤ G' 113 1 ∧ G' 113 1 ≤ G 113 1 + d) ∧ (((∀ m, fc57_s (m + (d + 1)) 27 K r q k = fc57_s m 5 K' ((r : Int) + 1) 0 0) ∧ (∀ (m : Nat) (l1 : Int), fo206_s (m + (d + 1)) 70 G l1 r k = fo206_s m 53 G' l1 ((r : Int) + 1) 0) ∧ jN K' G' (jcq G0 dv (r + 1) 0) N ∧ jrw G0 G' ∧ jP G' ≤ jP G + d) ∨ ((∀ m, fc57_s (m + (d + 1)) 27 K r q k = some (K', 0)) ∧ (∀ (m : Nat) (l1 : Int), fo206_s (m + (d + 3)) 70 G l1 r k = some (G', 0)) ∧ jX K' G' (jg_u G0 113 1 (G' 113 1)) ∧ G' 92 3 ≤ jP G + d)) := by
  intro d
  have hv3 := hv.2.1
  induction d with
  | zero =>
    intro k K G k0 e h w s e85 e851 b113 hP
    have hN := h.2.1.2.2.2.1
    have hq1 : jg_rec K G r q := hq.s s (fun n hn => jRo.hi hn) (w.l.a r) (by omega) hv3.2
    have e105 : G 105 r = G0 105 r := w.n (by decide) (by decide) _
    have ek : k = G0 105 r := by omega
    refine ⟨K, G, s, e85, e851, by omega, Or.inl ⟨fun m => ?_, fun m l1 => ?_, ?_, w, by omega⟩⟩
    · show fc57_s (m + 1) 27 K r q k = _
      conv => lhs; unfold fc57_s
      rw [if_neg (by decide), if_pos rfl, if_neg (show ¬ q = 0 by have := hq.1.1.1; omega), if_pos hq1.1, hq1.2.1.2.2.2.2.2.2, if_pos (by omega), if_pos (by omega)]
    · show fo206_s (m + 1) 70 G l1 r k = _
      conv => lhs; unfold fo206_s
      rw [if_neg (by decide), if_pos rfl, if_pos (by omega), if_pos (by omega), if_pos (by omega)]
    · rw [ek, jcq_all hr.1] at h
      exact h
  | succ d ih =>
    intro k K G k0 e h w s e85 e851 b113 hP
    have hN := h.2.1.2.2.2.1
    have hq1 : jg_rec K G r q := hq.s s (fun n hn => jRo.hi hn) (w.l.a r) (by omega) hv3.2
    have h120 : 98 ≤ K.1.1 := by rw [s.1.1]; exact h0
    generalize hp : G0 106 (3 * (r : Int) + k) = p
    obtain ⟨cp, ckk⟩ := hv.2.2.1 k k0 (by omega)
    rw [hp] at cp ckk
    obtain ⟨⟨F1, F2⟩, ⟨f, f1, f2, f3⟩, F4, F5⟩ := hFo p cp.1 cp.2
    have cvp : jcq G0 dv r k p = jmx (dv p) (jv G0 p (r - 1)) := by
      unfold jcq
      rw [if_neg (fun z => by omega)]
    have jle := jv_le G0 p (r - 1)
    have jvr : jv G0 p r = r := jv_is (by omega) (by rw [ckk]; omega)
    obtain ⟨K1, G1, b, u1, u2, u3, u4, u5, u6, u7⟩ := jredo_p (F := F p) h w s e851 ⟨b113.1, by omega⟩ h120 hq hv hr ⟨k0, by omega⟩ hp ⟨F1, F2, by omega⟩ (fun c _ _ r' x y => by
      rw [cvp] at c x
      have : dv p < r := by unfold jmx at c; split at c <;> omega
      have m : dv p ≤ jv G0 p (r - 1) := by
        have := jv_mono2 G0 p (n := dv p) (m := r - 1) (by omega)
        omega
      have : jmx (dv p) (jv G0 p (r - 1)) = jv G0 p (r - 1) := by
        unfold jmx
        split <;> omega
      rw [this] at x
      exact jv_none x (by omega)) (by omega)
    have s1 : jk_s jRo K0 K1 := s.trans u3
    have k1 : ∀ i, i ≠ 1 → jc_i K1 85 i = jc_i K0 85 i := fun i hi => (u4 i hi).trans (e85 i hi)
    have st57 : ∀ m, fc57_s (m + (d + 1 + 1)) 27 K r q k = (if b = 0 then (some (K1, 0)) else fc57_s (m + (d + 1)) 27 K1 r q (k + 1)) := fun m => by
      show fc57_s (m + (d + 1) + 1) 27 K r q k = _
      conv => lhs; unfold fc57_s
      rw [if_neg (by decide), if_pos rfl, if_neg (show ¬ q = 0 by have := hq.1.1.1; omega), if_pos hq1.1, hq1.2.1.2.2.2.2.2.2, if_neg (by rw [w.n (by decide) (by decide)]; omega), u1, jo_bs]
      dsimp only
      rw [if_pos (show -2147483648 ≤ k + 1 ∧ k + 1 < 2147483648 by omega)]
    rcases u7 with ⟨rfl, n1, w1, P1⟩ | ⟨rfl, g113, x1, P1⟩
    · have ecv : (if 1 ≤ F p ∧ F p ≤ r ∧ jcq G0 dv r k p < r then jcv (jcq G0 dv r k) p r else jcq G0 dv r k) = jcq G0 dv r (k + 1) := by
        have ex : ∀ x, x ≠ p → jcq G0 dv r (k + 1) x = jcq G0 dv r k x := fun x hx => by
          unfold jcq
          by_cases c : jh_k G0 r x ≠ -1 ∧ jh_k G0 r x < k
          · rw [if_pos c, if_pos ⟨c.1, by omega⟩]
          · rw [if_neg c, if_neg (fun z => ?_)]
            have hb := jh_k_b G0 r x
            have : jh_k G0 r x = k := by
              by_cases c2 : jh_k G0 r x < k
              · exact absurd ⟨z.1, c2⟩ c
              · omega
            have := (hb.2.2 (by omega)).2
            rw [show jh_k G0 r x = k by omega, hp] at this
            exact hx this.symm
        have epp : jcq G0 dv r (k + 1) p = jmx (dv p) r := by
          unfold jcq
          rw [if_pos ⟨by omega, by omega⟩]
        funext x
        by_cases c : 1 ≤ F p ∧ F p ≤ r ∧ jcq G0 dv r k p < r
        · rw [if_pos c]
          unfold jcv
          by_cases hx : x = p
          · rw [if_pos hx, hx, epp]
            have := c.2.2
            rw [cvp] at this
            unfold jmx at this ⊢
            split at this <;> split <;> omega
          · rw [if_neg hx, ex x hx]
        · rw [if_neg c]
          by_cases hx : x = p
          · rw [hx, epp, cvp]
            have dge : r ≤ dv p := by
              by_cases c1 : jcq G0 dv r k p < r
              · by_cases c2 : f = 0
                · rw [if_pos c2] at f3
                  have := jv_mono2 G0 p hr.2
                  omega
                · rw [if_neg c2] at f3
                  have fr : r < f := by
                    by_cases c3 : f ≤ r
                    · exact absurd ⟨by omega, by omega, c1⟩ c
                    · omega
                  have := jv_mono2 G0 p (n := r) (m := f - 1) (by omega)
                  omega
              · rw [cvp] at c1
                unfold jmx at c1
                split at c1 <;> omega
            unfold jmx
            rw [if_neg (by omega), if_neg (by omega)]
          · rw [ex x hx]
      rw [ecv] at n1
      obtain ⟨K', G', v1, v2, v3, v4, v5⟩ := ih (k + 1) K1 G1 (by omega) (by omega) n1 w1 s1 k1 u5 (by omega) (by omega)
      refine ⟨K', G', v1, v2, v3, by omega, ?_⟩
      rcases v5 with ⟨a1, a2, a3, a4, a5⟩ | ⟨a1, a2, a3, a4⟩
      · refine Or.inl ⟨fun m => ?_, fun m l1 => ?_, a3, a4, by omega⟩
        · rw [st57 m, if_neg (by decide)]; exact a1 m
        · show fo206_s (m + (d + 1) + 1) 70 G l1 r k = _
          rw [u2]; exact a2 m l1
      · refine Or.inr ⟨fun m => ?_, fun m l1 => ?_, a3, by omega⟩
        · rw [st57 m, if_neg (by decide)]; exact a1 m
        · show fo206_s (m + (d + 3) + 1) 70 G l1 r k = _
          rw [u2]; exact a2 m l1
    · refine ⟨K1, G1, s1, k1, u5, by omega, Or.inr ⟨fun m => ?_, fun m l1 => ?_, ?_, by omega⟩⟩
      · rw [st57 m, if_pos rfl]
      · show fo206_s (m + (d + 3) + 1) 70 G l1 r k = _
        rw [u2]
        have g7 : ¬ G1 92 7 = 0 := by rw [x1.c]; decide
        have fin : ∀ m, fo206_s (m + 1) 53 G1 l1 ((r : Int) + 1) 0 = some (G1, 0) := fun m => by
          conv => lhs; unfold fo206_s
          rw [if_pos rfl]
          by_cases z : G1 92 12 < (r : Int) + 1
          · rw [if_pos z]
          · rw [if_neg z, if_neg g7]
        show fo206_s (m + d + 2 + 1) 70 G1 l1 r (k + 1) = _
        conv => lhs; unfold fo206_s
        rw [if_neg (by decide), if_pos rfl, if_pos (by omega)]
        by_cases z : G1 105 r ≤ k + 1
        · rw [if_pos z, if_pos (by omega)]; exact fin (m + d + 1)
        · rw [if_neg z, if_neg g7, if_pos (by omega)]; exact fin (m + d + 1)
      · rw [g113]
        exact jX.t w x1
theorem jredo_r (hz : jZ K0 G0 N) (h63 : jc_i K0 63 4 = N) (h12 : G0 92 12 = N) (hFo : jFo K0 G0 N dv F) (h0 : 98 ≤ K0.1.1) (l1 : Int) : ∀ (d m m' n : Nat) (K : jc_K) (G : jg_G), n + d = N → jw2 G0 N + 5 < m + jw2 G0 n → jw2 G0 N + 5 < m' + jw2 G0 n → jN K G (jcq G0 dv (n + 1) 0) N → jrw G0 G → jk_s jRo K0 K → (∀ i, i ≠ 1 → jc_i K 85 i = jc_i K0 85 i) → jc_i K 85 1 = G 113 1 → (0 ≤ G 113 1 ∧ G 113 1 + 3 * d < 1000000) → jP G + 3 * d < 2000000000 → ∃ K' G' b, fc57_s m 5 K ((n : Int) + 1) 0 0 = some (K', b) ∧ fo206_s m' 53 G l1 ((n : Int) + 1) 0 = some (G', 0) ∧ jk_s jRo K0 K' ∧ (∀ i, i ≠ 1 → jc_i K' 85 i = jc_i K0 85 i) ∧ jc_i K' 85 1 = G' 113 1 ∧ ((b = 1 ∧ jN K' G' (jcq G0 dv (N + 1) 0) N ∧ jrw G0 G' ∧ jP G' ≤ jP G + 3 * d) ∨ (b = 0 ∧ jX K' G' (jg_u G0 113 1 (G' 113 1)) ∧ G' 92 3 ≤ jP G + 3 * d)) := by
  intro d
  induction d with
  | zero =>
    intro m m' n K G e hm hm' h w s e85 e851 b113 hP
    have en : n = N := by omega
    subst en
    obtain ⟨m, rfl⟩ : ∃ j, m = j + 1 := ⟨m - 1, by omega⟩
    obtain ⟨m', rfl⟩ : ∃ j, m' = j + 1 := ⟨m' - 1, by omega⟩
    refine ⟨K, G, 1, ?_, ?_, s, e85, e851, Or.inl ⟨rfl, h, w, by omega⟩⟩
    · unfold fc57_s
      rw [if_pos rfl, s.2 63 (by unfold jRo jS_n; omega), h63, if_pos (by omega)]
    · unfold fo206_s
      rw [if_pos rfl, h.2.1.2.2.1, if_pos (by omega)]
  | succ d ih =>
    intro m m' n K G e hm hm' h w s e85 e851 b113 hP
    have hN := h.2.1.2.2.2.1
    obtain ⟨hq, hv⟩ := hz (n + 1) (by omega) (by omega)
    have ec : ((n + 1 : Nat) : Int) = (n : Int) + 1 := by omega
    rw [show ((n + 1 : Nat) : Int) - 1 = (n : Int) by omega] at hq
    have q120 := hq.1.1.1
    have v3 := hv.2.1
    rw [ec] at v3
    have w2 : jw2 G0 (n + 1) = jw2 G0 n + 2 + (G0 105 ((n : Int) + 1)).toNat := rfl
    have w3 := jw2_mono (G := G0) (n := n + 1) d
    rw [show n + 1 + d = N by omega] at w3
    have p64 : jc_p K 64 (n : Int) = jc_p K0 64 (n : Int) := by unfold jc_p; rw [s.1.2.2]
    have e19 : fc19 K ((n : Int) + 1) = some (K, jc_p K0 64 (n : Int)) := by
      unfold fc19
      rw [if_neg (by omega), s.2 63 (by unfold jRo jS_n; omega), h63, if_neg (by omega), if_neg (by omega), if_pos (by omega), jo_lne, show (n : Int) + 1 - 1 = n by omega, p64]
    obtain ⟨K1, G1, a1, a2, a3, a4, a5⟩ := jredo_k (q := jc_p K0 64 (n : Int)) hq hv ⟨by omega, by omega⟩ hFo h0 (G0 105 ((n : Int) + 1)).toNat 0 K G (Int.le_refl _) (by rw [ec]; omega) h w s e85 e851 (by omega) (by omega)
    have c1 : fc57_s m 5 K ((n : Int) + 1) 0 0 = fc57_s (m - 1) 27 K ((n : Int) + 1) (jc_p K0 64 (n : Int)) 0 := by
      obtain ⟨m, rfl⟩ : ∃ j, m = j + 1 := ⟨m - 1, by omega⟩
      conv => lhs; unfold fc57_s
      rw [if_pos rfl, s.2 63 (by unfold jRo jS_n; omega), h63, if_neg (by omega), e19, jo_bs]
      rfl
    have c2 : fo206_s m' 53 G l1 ((n : Int) + 1) 0 = fo206_s (m' - 1) 70 G l1 ((n : Int) + 1) 0 := by
      obtain ⟨m', rfl⟩ : ∃ j, m' = j + 1 := ⟨m' - 1, by omega⟩
      conv => lhs; unfold fo206_s
      rw [if_pos rfl, h.2.1.2.2.1, if_neg (by omega), if_pos h.2.1.1]
      rfl
    rw [c1, c2]
    rw [ec] at a5
    rcases a5 with ⟨b1, b2, b3, b4, b5⟩ | ⟨b1, b2, b3, b4⟩
    · have b1 := b1 (m - 1 - ((G0 105 ((n : Int) + 1)).toNat + 1))
      have b2 := b2 (m' - 1 - ((G0 105 ((n : Int) + 1)).toNat + 1)) l1
      rw [show m - 1 - ((G0 105 ((n : Int) + 1)).toNat + 1) + ((G0 105 ((n : Int) + 1)).toNat + 1) = m - 1 by omega] at b1
      rw [show m' - 1 - ((G0 105 ((n : Int) + 1)).toNat + 1) + ((G0 105 ((n : Int) + 1)).toNat + 1) = m' - 1 by omega] at b2
      obtain ⟨K', G', b, y1, y2, y3, y4, y5, y6⟩ := ih (m - 1 - ((G0 105 ((n : Int) + 1)).toNat + 1)) (m' - 1 - ((G0 105 ((n : Int) + 1)).toNat + 1)) (n + 1) K1 G1 (by omega) (by omega) (by omega) b3 b4 a1 a2 a3 (by omega) (by omega)
      rw [ec] at y1 y2
      refine ⟨K', G', b, by rw [b1]; exact y1, by rw [b2]; exact y2, y3, y4, y5, ?_⟩
      rcases y6 with ⟨z1, z2, z3, z4⟩ | ⟨z1, z2, z3⟩
      · exact Or.inl ⟨z1, z2, z3, by omega⟩
      · exact Or.inr ⟨z1, z2, by omega⟩
    · have b1 := b1 (m - 1 - ((G0 105 ((n : Int) + 1)).toNat + 1))
      have b2 := b2 (m' - 1 - ((G0 105 ((n : Int) + 1)).toNat + 3)) l1
      rw [show m - 1 - ((G0 105 ((n : Int) + 1)).toNat + 1) + ((G0 105 ((n : Int) + 1)).toNat + 1) = m - 1 by omega] at b1
      rw [show m' - 1 - ((G0 105 ((n : Int) + 1)).toNat + 3) + ((G0 105 ((n : Int) + 1)).toNat + 3) = m' - 1 by omega] at b2
      exact ⟨K1, G1, 0, b1, b2, a1, a2, a3, Or.inr ⟨rfl, b3, by omega⟩⟩
/-- the least of the first records -/
theorem jleast (hFo : jFo K0 G0 N dv F) (h63 : jc_i K0 63 4 = N) (hN : N ≤ 1100) : ∀ (m m' : Nat) (l L : Int), 0 ≤ l → l ≤ 24 → 24 < l + m → 24 < l + m' → (1 ≤ L ∧ L ≤ (N : Int) + 1) → (∀ p, 0 ≤ p → p < l → F p ≠ 0 → L ≤ F p) → ∃ L' : Int, fc58_12 m K0 L l = some (K0, L') ∧ fo206_9 m' G0 L l = fo206_s jo_N 53 G0 L' L' 0 ∧ (1 ≤ L' ∧ L' ≤ (N : Int) + 1) ∧ ∀ p, 0 ≤ p → p < 24 → F p ≠ 0 → L' ≤ F p := by
  intro m
  induction m with
  | zero => intro m' l L h0 h1 h2; omega
  | succ m ih =>
    intro m' l L h0 h1 h2 h3 hL hp
    obtain ⟨m', rfl⟩ : ∃ j, m' = j + 1 := ⟨m' - 1, by omega⟩
    by_cases e : 24 ≤ l
    · refine ⟨L, ?_, ?_, hL, fun p p0 p1 => hp p p0 (by omega)⟩
      · unfold fc58_12
        rw [if_pos e]
      · conv => lhs; unfold fo206_9
        rw [if_pos e]
    · obtain ⟨⟨F1, F2⟩, ⟨f, f1, f2, _⟩, _⟩ := hFo l h0 (by omega)
      have go : ∀ L1, (1 ≤ L1 ∧ L1 ≤ (N : Int) + 1) → (L1 ≤ L ∧ (F l ≠ 0 → L1 ≤ F l)) → fc58_12 (m + 1) K0 L l = fc58_12 m K0 L1 (l + 1) → fo206_9 (m' + 1) G0 L l = fo206_9 m' G0 L1 (l + 1) → ∃ L' : Int, fc58_12 (m + 1) K0 L l = some (K0, L') ∧ fo206_9 (m' + 1) G0 L l = fo206_s jo_N 53 G0 L' L' 0 ∧ (1 ≤ L' ∧ L' ≤ (N : Int) + 1) ∧ ∀ p, 0 ≤ p → p < 24 → F p ≠ 0 → L' ≤ F p := fun L1 b c x y => by
        obtain ⟨L', z1, z2, z3, z4⟩ := ih m' (l + 1) L1 (by omega) (by omega) (by omega) (by omega) b (fun p p0 p1 pn => by
          by_cases z : p = l
          · rw [z] at pn ⊢; exact c.2 pn
          · have := hp p p0 (by omega) pn; omega)
        exact ⟨L', by rw [x, z1], by rw [y, z2], z3, z4⟩
      by_cases z : F l ≤ 0
      · refine go L hL ⟨Int.le_refl _, fun y => by omega⟩ ?_ ?_
        · conv => lhs; unfold fc58_12
          rw [if_neg e, if_pos (by omega), F1, if_pos z, if_pos (by omega)]
        · conv => lhs; unfold fo206_9
          rw [if_neg e, if_pos (by omega), F2, if_pos z, if_pos (by omega)]
      · by_cases z2 : L ≤ F l
        · refine go L hL ⟨Int.le_refl _, fun y => z2⟩ ?_ ?_
          · conv => lhs; unfold fc58_12
            rw [if_neg e, if_pos (by omega), F1, if_neg z, if_pos z2, if_pos (by omega)]
          · conv => lhs; unfold fo206_9
            rw [if_neg e, if_pos (by omega), F2, if_neg z, if_pos z2, if_pos (by omega)]
        · refine go (F l) (by omega) ⟨by omega, fun y => Int.le_refl _⟩ ?_ ?_
          · conv => lhs; unfold fc58_12
            rw [if_neg e, if_pos (by omega), F1, if_neg z, if_neg z2, if_pos (by omega)]
          · conv => lhs; unfold fo206_9
            rw [if_neg e, if_pos (by omega), F2, if_neg z, if_neg z2, if_pos (by omega)]
theorem jredo (h : jN K0 G0 dv N) (hz : jZ K0 G0 N) (h63 : jc_i K0 63 4 = N) (hFo : jFo K0 G0 N dv F) (h0 : 98 ≤ K0.1.1) (e851 : jc_i K0 85 1 = G0 113 1) (b113 : G0 113 1 = 0) (hw : jw2 G0 N ≤ 3900) (hP : jP G0 < 1900000000) : ∃ K' G' b, fc57 K0 = some (K', b) ∧ fo206 G0 = some (G', 0) ∧ jk_s jRo K0 K' ∧ (∀ i, i ≠ 1 → jc_i K' 85 i = jc_i K0 85 i) ∧ jc_i K' 85 1 = G' 113 1 ∧ ((b = 1 ∧ jN K' G' (fun p => jv G' p N) N ∧ jrw G0 G' ∧ jP G' ≤ jP G0 + 3 * N) ∨ (b = 0 ∧ jX K' G' (jg_u G0 113 1 (G' 113 1)) ∧ G' 92 3 ≤ jP G0 + 3 * N)) := by
  have hN := h.2.1.2.2.2.1
  have h12 := h.2.1.2.2.1
  obtain ⟨L, l1, l2, l3, l4⟩ := jleast hFo h63 hN jo_N jo_N 0 ((N : Int) + 1) (by decide) (by decide) (by decide) (by decide) (by omega) (fun p _ _ => by omega)
  have eL : L = ((L.toNat - 1 : Nat) : Int) + 1 := by omega
  have cv0 : jN K0 G0 (jcq G0 dv ((L.toNat - 1) + 1) 0) N := by
    rw [jcq_0]
    refine h.cv (fun p p0 p1 => ?_)
    obtain ⟨_, ⟨f, f1, f2, f3⟩, F4, F5⟩ := hFo p p0 p1
    have : jv G0 p (L.toNat - 1) ≤ dv p := by
      by_cases c2 : f = 0
      · rw [if_pos c2] at f3
        have := jv_mono2 G0 p (n := L.toNat - 1) (m := N) (by omega)
        omega
      · rw [if_neg c2] at f3
        have := l4 p p0 p1 (by omega)
        have := jv_mono2 G0 p (n := L.toNat - 1) (m := f - 1) (by omega)
        omega
    show jmx (dv p) (jv G0 p (L.toNat - 1 + 1 - 1)) = dv p
    rw [show L.toNat - 1 + 1 - 1 = L.toNat - 1 by omega]
    unfold jmx
    rw [if_neg (by omega)]
  have wm := jw2_mono (G := G0) (n := 0) (L.toNat - 1)
  obtain ⟨K', G', b, y1, y2, y3, y4, y5, y6⟩ := jredo_r hz h63 h12 hFo h0 L (N - (L.toNat - 1)) jo_N jo_N (L.toNat - 1) K0 G0 (by omega) (by unfold jo_N; omega) (by unfold jo_N; omega) cv0 (jrw.refl G0) jk_s.refl (fun _ _ => rfl) e851 (by omega) (by omega)
  rw [← eL] at y1 y2
  refine ⟨K', G', b, ?_, ?_, y3, y4, y5, ?_⟩
  · unfold fc57 fc58
    rw [h63, if_pos (by omega), l1, jo_bs]
    exact y1
  · unfold fo206
    rw [h12, if_pos (by omega), l2]
    exact y2
  · rcases y6 with ⟨z1, z2, z3, z4⟩ | ⟨z1, z2, z3⟩
    · refine Or.inl ⟨z1, ?_, z3, by omega⟩
      rw [jcq_0] at z2
      refine z2.cv (fun p p0 p1 => ?_)
      obtain ⟨_, _, F4, F5⟩ := hFo p p0 p1
      show jv G' p N = jmx (dv p) (jv G0 p (N + 1 - 1))
      rw [show N + 1 - 1 = N by omega, z3.l.v p N]
      have := jv_mono2 G0 p F5
      unfold jmx
      split <;> omega
    · exact Or.inr ⟨z1, z2, by omega⟩
end
