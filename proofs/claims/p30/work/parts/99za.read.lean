/-! RECOVER: the first pass as a whole -/
theorem jlm_lt (G : jg_G) : ∀ n r : Nat, jlm G n < r → r ≤ n → G 98 r ≠ 4
  | 0, r, h1, h2 => by omega
  | n + 1, r, h1, h2 => by
    unfold jlm at h1
    have ec : ((n + 1 : Nat) : Int) = (n : Int) + 1 := by omega
    by_cases e : G 98 ((n : Int) + 1) = 4
    · rw [if_pos e] at h1; omega
    · rw [if_neg e] at h1
      by_cases er : r = n + 1
      · rw [er, ec]; exact e
      · exact jlm_lt G n r h1 (by omega)
theorem jrf_ok {G : jg_G} {s : Nat} {f0 : Int → Int} {p V : Int} (h0 : ∃ f : Nat, f0 p = f ∧ f ≤ s ∧ ((jv G p (if f = 0 then s else f - 1) : Nat) : Int) ≤ V) : ∀ n : Nat, s ≤ n → ∃ f : Nat, jrf G s f0 p n = f ∧ f ≤ n ∧ ((jv G p (if f = 0 then n else f - 1) : Nat) : Int) ≤ V := by
  intro n
  induction n with
  | zero =>
    intro h
    have e : s = 0 := by omega
    subst e
    exact h0
  | succ n ih =>
    intro h
    by_cases e : s = n + 1
    · subst e
      rw [jrf_s]
      exact h0
    · obtain ⟨f, f1, f2, f3⟩ := ih (by omega)
      rw [jrf_n (by omega), f1]
      by_cases z : (f : Int) = 0 ∧ jh_k G ((n : Int) + 1) p ≠ -1
      · have fz : f = 0 := by omega
        subst fz
        rw [if_pos z]
        refine ⟨n + 1, by omega, Nat.le_refl _, ?_⟩
        rw [if_neg (by omega), show n + 1 - 1 = n by omega]
        rw [if_pos rfl] at f3
        exact f3
      · rw [if_neg z]
        refine ⟨f, rfl, by omega, ?_⟩
        by_cases fz : f = 0
        · subst fz
          rw [if_pos rfl] at f3 ⊢
          have hk : jh_k G ((n : Int) + 1) p = -1 := by
            by_cases y : jh_k G ((n : Int) + 1) p = -1
            · exact y
            · exact absurd ⟨rfl, y⟩ z
          have : jv G p (n + 1) = jv G p n := if_pos hk
          rw [this]
          exact f3
        · rw [if_neg fz] at f3 ⊢
          exact f3
def jRe2 (n : Nat) : Prop := jTn n ∨ n = 84 ∨ n = 85
theorem jrlog {K : jc_K} {G : jg_G} {N κ B : Nat} (hz : jZ K G N) (hL : jLg G N) (hMk : jMk G N) (h12 : G 92 12 = N) (h63 : jc_i K 63 4 = N) (hκ : 2 * (jcw G 2 N + jcw G 3 N) ≤ κ) (hκ2 : κ ≤ 513) (hB : jcw G 0 N + jcw G 5 N + jcw G 4 N ≤ B) (hB2 : B ≤ 223) (h62 : ∀ k, 0 ≤ k → k < 32 → -1 ≤ jc_i K 62 k ∧ jc_i K 62 k < 4) (h85 : jc_i K 85 0 = 0) (h113 : G 113 0 = 0) (hV : ∀ p, 0 ≤ p → p < 24 → 0 ≤ G 93 (67 * (5 + 2 * p) + 1)) : ∃ (K' : jc_K) (G' : jg_G) (F : Int → Int), fc53 K = some (K', 0) ∧ fo205 G = some (G', 0) ∧ jk_s jRe2 K K' ∧ (∀ t, 0 ≤ t → t < 4 → jc_i K' 58 t = 0 ∧ jc_i K' 61 t = -1 ∧ jc_i K' 59 t = jt G t N) ∧ (∀ k, 0 ≤ k → k < 32 → jc_i K' 62 k = -1) ∧ (∀ i, i ≠ 0 → jc_i K' 85 i = jc_i K 85 i) ∧ jc_i K' 85 0 = G' 113 0 ∧ jx_r G G' ∧ (∀ t, 0 ≤ t → t < 4 → G' 108 t = jt G t N) ∧ ∀ p, 0 ≤ p → p < 24 → jc_i K' 84 p = F p ∧ G' 114 p = F p ∧ ∃ f : Nat, F p = f ∧ f ≤ N ∧ ((jv G p (if f = 0 then N else f - 1) : Nat) : Int) ≤ G 93 (67 * (5 + 2 * p) + 1) := by
  obtain ⟨hw, hN⟩ := jw2_b hz hL hκ hκ2 hB hB2
  generalize hs : jlm G N = s
  have js := jlm_is G N
  rw [hs] at js
  have m0 : jb_m 0 = 0 := jb_m_e ⟨by decide, by decide⟩
  have m1 : jb_m 1 = 1 := jb_m_e ⟨by decide, by decide⟩
  generalize hb : (if s = 0 then (0 : Int) else 67 * ((54 + (3 * ((s : Int) - 1))) + 0)) = b
  have hb2 : ((s : Int) ≠ 0 → 0 ≤ b ∧ b + 28 ≤ 305118) := fun z => by rw [← hb, if_neg (by omega)]; omega
  have hb3 : s ≠ 0 → b = 67 * (54 + 3 * ((s : Int) - 1)) := fun z => by rw [← hb, if_neg z]; omega
  generalize hf : (fun p : Int => if (s : Int) = 0 then (0 : Int) else G 93 (b + 4 + p)) = f0
  have hf' : ∀ p, f0 p = if (s : Int) = 0 then (0 : Int) else G 93 (b + 4 + p) := fun p => by rw [← hf]
  have t0s : ∀ t, 0 ≤ t → t < 4 → (if (s : Int) = 0 then (0 : Int) else G 93 (b + t)) = jt G t s := fun t t0 t1 => by
    by_cases z : s = 0
    · subst z
      exact if_pos rfl
    · rw [if_neg (by omega), hb3 z]
      exact ((hMk s (by omega) js.1 (js.2 (by omega))).1 t t0 t1)
  have F0 : ∀ p, 0 ≤ p → p < 24 → ∃ f : Nat, f0 p = f ∧ f ≤ s ∧ ((jv G p (if f = 0 then s else f - 1) : Nat) : Int) ≤ G 93 (67 * (5 + 2 * p) + 1) := fun p p0 p1 => by
    rw [hf']
    by_cases z : s = 0
    · subst z
      exact ⟨0, if_pos rfl, Nat.le_refl _, hV p p0 p1⟩
    · rw [if_neg (by omega), hb3 z]
      exact (hMk s (by omega) js.1 (js.2 (by omega))).2 p p0 p1
  -- the reference
  have R : ∃ G', fo205 G = some (G', 0) ∧ jx_r G G' ∧ (∀ t, 0 ≤ t → t < 4 → G' 108 t = jt G t N) ∧ (∀ p, 0 ≤ p → p < 24 → G' 114 p = jrf G s f0 p N) ∧ G' 113 0 = (if s = 0 then 0 else 1) + ((N : Int) - s) := by
    obtain ⟨m', y⟩ := jr_5_4 h12 (by omega) N jo_N 0 (by omega) (by unfold jo_N; omega)
    have y0 : fo205 G = fo205_4 (m' + 1) G (jlm G N : Nat) ((N : Int) + 1) := y
    rw [y0, hs]
    obtain ⟨X, x1, x2, x3, x4, x5⟩ := jr_5_53 (G := G) (sI := (s : Int)) (b := b) hb2 jo_N 0 G (jx_r.refl G) (by decide) (by decide) (by decide) (fun t _ _ => by omega)
    have e4 : fo205_4 (m' + 1) G (s : Int) ((N : Int) + 1) = fo205_88 1 X s b 24 := by
      rw [← x1]
      conv => lhs; unfold fo205_4
      rw [h12, if_pos (by omega)]
      by_cases z : s = 0
      · subst z
        rw [if_pos rfl] at hb
        rw [if_pos (by omega), ← hb]
      · rw [if_neg z] at hb
        rw [if_neg (by omega), if_pos (by omega), hb]
    have e88 : fo205_88 1 X s b 24 = fo205_s jo_N 146 (jg_u X 113 0 (if s = 0 then 0 else 1)) s b ((s : Int) + 1) 0 := by
      conv => lhs; unfold fo205_88
      rw [if_pos (by decide), x4, h113]
      by_cases z : s = 0
      · rw [if_pos (by omega), if_pos (by omega), if_pos z, show (0 : Int) + 0 = 0 from rfl, m0]
      · rw [if_neg (by omega), if_pos (by omega), if_neg z, show (0 : Int) + 1 = 1 from rfl, m1]
    obtain ⟨G', z1, z2, z3, z4, z5⟩ := jr_146 (s := s) (f0 := f0) (fun r r0 r1 => (hz r r0 r1).2) hL h12 (by omega) (s : Int) b (N - s) jo_N s (jg_u X 113 0 (if s = 0 then 0 else 1)) (by omega) (Nat.le_refl _) (by unfold jo_N; omega) (x2.u (Or.inr (Or.inr ⟨rfl, rfl⟩))) (fun t t0 t1 => by rw [jg_uN (by decide), x3 t t0 t1]; exact t0s t t0 t1) (fun p p0 p1 => by rw [jg_uN (by decide), x5 p p0 p1, jrf_s, hf']) (by rw [jg_uH]; split <;> omega)
    refine ⟨G', by rw [e4, e88, z1], z2, z3, z4, ?_⟩
    rw [z5, jg_uH]
    omega
  obtain ⟨G', r1, r2, r3, r4, r5⟩ := R
  -- the class
  have clear : ∀ (m : Nat) (l : Int) (K1 : jc_K), jk_s (fun n => n = 84) K K1 → 0 ≤ l → l ≤ 24 → 24 < l + m → (∀ p, 0 ≤ p → p < l → jc_i K1 84 p = 0) → ∃ K2, fc53_2 m K1 l = fc53_2 1 K2 24 ∧ jk_s (fun n => n = 84) K K2 ∧ ∀ p, 0 ≤ p → p < 24 → jc_i K2 84 p = 0 := by
    intro m
    induction m with
    | zero => intro l K1 s h0 h1 h2; omega
    | succ m ih =>
      intro l K1 s h0 h1 h2 hp
      by_cases e : 24 ≤ l
      · have el : l = 24 := by omega
        subst el
        refine ⟨K1, ?_, s, hp⟩
        unfold fc53_2
        rw [if_pos e, if_pos e]
      · obtain ⟨K2, y1, y2, y3⟩ := ih (l + 1) (jc_ui K1 84 l 0) (s.trans (jk_s.u rfl)) (by omega) (by omega) (by omega) (fun p p0 p1 => by
          by_cases z : p = l
          · rw [z, jc_uH]
          · rw [jc_uI z]; exact hp p p0 (by omega))
        refine ⟨K2, ?_, y2, y3⟩
        rw [← y1]
        conv => lhs; unfold fc53_2
        rw [if_neg e, if_pos (by omega), if_pos (by omega)]
  obtain ⟨K1, a1, a2, a3⟩ := clear jo_N 0 K jk_s.refl (by decide) (by decide) (by decide) (fun p _ _ => by omega)
  obtain ⟨K2, b1, b2, b3, b4⟩ := jk_fc64 (K := K1) (fun k k0 k1 => by rw [a2.2 62 (by decide)]; exact h62 k k0 k1)
  have s2 : jk_s jRe2 K K2 := (a2.mono (fun n e => Or.inr (Or.inl e))).trans (b2.mono (fun n e => Or.inl e))
  have hiT : ∀ n, 98 ≤ n → ¬ jRe2 n := fun n hn z => by unfold jRe2 jTn at z; omega
  have z2 : jZ K2 G N := hz.s s2 hiT (jl_a.refl G N)
  have k63 : jc_i K2 63 4 = N := (s2.2 63 (by unfold jRe2 jTn; omega) 4).trans h63
  have k84 : ∀ p, 0 ≤ p → p < 24 → jc_i K2 84 p = 0 := fun p p0 p1 => by rw [b2.2 84 (by unfold jTn; omega)]; exact a3 p p0 p1
  have k85 : ∀ i, jc_i K2 85 i = jc_i K 85 i := fun i => by rw [b2.2 85 (by unfold jTn; omega), a2.2 85 (by decide)]
  have e54 : fc54 K2 = some (K2, if 2 ≤ s then (s : Int) else 1) := by
    unfold fc54
    rw [k63, jk_54 (by omega) z2 k63 N jo_N (Nat.le_refl _) (by unfold jo_N; omega), hs]
  have c1 : fc53 K = (fc19 K2 (if 2 ≤ s then (s : Int) else 1)).bind fun x6 => if x6.2 = 0 then (fc53_61 jo_N (x6.1) (if 2 ≤ s then (s : Int) else 1) (x6.2) (if 2 ≤ s then (s : Int) else 1)) else (if jc_rc (x6.1) (x6.2) then if jc_i (x6.1) (x6.2) 1 = 4 then ((fc55 (x6.1) (x6.2)).bind fun x11 => fc53_61 jo_N (x11.1) (if 2 ≤ s then (s : Int) else 1) (x6.2) (if 2 ≤ s then (s : Int) else 1)) else (fc53_61 jo_N (x6.1) (if 2 ≤ s then (s : Int) else 1) (x6.2) (if 2 ≤ s then (s : Int) else 1)) else none) := by
    unfold fc53
    rw [a1]
    conv => lhs; unfold fc53_2
    rw [if_pos (by decide), b1, jo_bs]
    dsimp only
    rw [e54, jo_bs]
  have C : ∃ K', fc53 K = some (K', 0) ∧ jk_s jRd K2 K' ∧ (∀ t, 0 ≤ t → t < 4 → jc_i K' 59 t = jt G t N) ∧ (∀ p, 0 ≤ p → p < 24 → jc_i K' 84 p = jrf G s f0 p N) ∧ jc_i K' 85 0 = (if s = 0 then 0 else 1) + ((N : Int) - s) ∧ ∀ i, i ≠ 0 → jc_i K' 85 i = jc_i K2 85 i := by
    rw [c1]
    by_cases z : s = 0
    · -- from the beginning
      subst z
      have run : ∀ l2, ∃ K', fc53_61 jo_N K2 1 l2 1 = some (K', 0) ∧ jk_s jRd K2 K' ∧ (∀ t, 0 ≤ t → t < 4 → jc_i K' 59 t = jt G t N) ∧ (∀ p, 0 ≤ p → p < 24 → jc_i K' 84 p = jrf G 0 f0 p N) ∧ jc_i K' 85 0 = (if (0 : Nat) = 0 then 0 else 1) + ((N : Int) - ((0 : Nat) : Int)) ∧ ∀ i, i ≠ 0 → jc_i K' 85 i = jc_i K2 85 i := fun l2 => by
        obtain ⟨K', d1, d2, d3, d4, d5, d6⟩ := jk_5361 (s := 0) (f0 := f0) (l1 := 1) (l2 := l2) hL (by omega) N jo_N 0 K2 (by omega) (Nat.le_refl _) (by unfold jo_N; omega) z2 k63 (fun t t0 t1 => (b3 t t0 t1).2.1) (fun p p0 p1 => by
          rw [k84 p p0 p1]
          show 0 = f0 p
          rw [hf', if_pos (by omega)]) (by rw [k85, h85]; omega)
        refine ⟨K', d1, d2, d3, d4, ?_, d6⟩
        rw [d5, k85, h85, if_pos rfl]
        omega
      rw [if_neg (by decide)]
      by_cases n0 : N = 0
      · have e19 : fc19 K2 1 = some (K2, 0) := by
          unfold fc19
          rw [if_neg (by decide), k63, if_pos (by omega)]
        rw [e19, jo_bs]
        dsimp only
        rw [if_pos rfl]
        exact run 0
      · obtain ⟨hq, _⟩ := z2 1 (Nat.le_refl _) (by omega)
        rw [show ((1 : Nat) : Int) - 1 = 0 from rfl] at hq
        have q120 := hq.1.1.1
        have e19 : fc19 K2 1 = some (K2, jc_p K2 64 0) := by
          unfold fc19
          rw [if_neg (by decide), k63, if_neg (by omega), if_neg (by decide), if_pos (by decide), jo_lne]
          rfl
        have k4 : ¬ jc_i K2 (jc_p K2 64 0) 1 = 4 := by
          rw [hq.2.1.2.1]
          exact jlm_lt G N 1 (by omega) (by omega)
        rw [e19, jo_bs]
        dsimp only
        rw [if_neg (show ¬ jc_p K2 64 0 = 0 by omega), if_pos hq.1, if_neg k4]
        exact run _
    · -- from a MARK
      have k4 := js.2 (by omega)
      obtain ⟨hq, hv⟩ := z2 s (by omega) js.1
      have q120 := hq.1.1.1
      have es : (if 2 ≤ s then (s : Int) else 1) = s := by split <;> omega
      have e19 : ∀ K3 : jc_K, jc_i K3 63 4 = N → jc_p K3 64 ((s : Int) - 1) = jc_p K2 64 ((s : Int) - 1) → fc19 K3 s = some (K3, jc_p K2 64 ((s : Int) - 1)) := fun K3 x y => by
        unfold fc19
        rw [if_neg (by omega), x, if_neg (by omega), if_neg (by omega), if_pos (by omega), jo_lne, y]
      obtain ⟨K3, d1, d2, d3, d4⟩ := jk_55 hq k4
      have s3 : jk_s jRd K2 K3 := d2.mono (fun n e => by unfold jRd; omega)
      have z3 : jZ K3 G N := z2.s s3 (fun n hn => jRd.hi hn) (jl_a.refl G N)
      have k63' : jc_i K3 63 4 = N := (s3.2 63 (by unfold jRd; omega) 4).trans k63
      have p64 : jc_p K3 64 ((s : Int) - 1) = jc_p K2 64 ((s : Int) - 1) := by unfold jc_p; rw [s3.1.2.2]
      obtain ⟨hq3, hv3⟩ := z3 s (by omega) js.1
      rw [p64] at hq3
      have hl := hL.1 s (by omega) js.1
      obtain ⟨K4, f1, f2, f3, f4⟩ := jk_56 hq3 hv3 hl (by omega)
      have w99 : G 99 s = -1 := hl.2.1.2 (by omega)
      have w105 : G 105 s = 0 := by
        have := hv.2.1.1
        by_cases y : 0 < G 105 s
        · have := hv.2.2.2.2.1 y (by omega); omega
        · omega
      have e85 : jc_i K4 85 0 = 0 := by rw [f2.2 85 (by decide), d2.2 85 (by decide), k85, h85]
      have s5 : jk_s jRd K3 (jc_ui K4 85 0 1) := (f2.mono (fun n e => by unfold jRd; omega)).trans (jk_s.u (Or.inr (Or.inr rfl)))
      rw [es, e19 K2 k63 rfl, jo_bs]
      dsimp only
      rw [if_neg (show ¬ jc_p K2 64 ((s : Int) - 1) = 0 by omega), if_pos hq.1, hq.2.1.2.1, if_pos k4, d1, jo_bs]
      dsimp only
      have st : fc53_61 jo_N K3 s (jc_p K2 64 ((s : Int) - 1)) s = fc53_61 3999 (jc_ui K4 85 0 1) s (jc_p K2 64 ((s : Int) - 1)) ((s : Int) + 1) := by
        show fc53_61 (3999 + 1) K3 s (jc_p K2 64 ((s : Int) - 1)) s = _
        conv => lhs; unfold fc53_61
        rw [k63', if_neg (by omega), e19 K3 k63' p64, jo_bs]
        dsimp only
        rw [if_neg (show ¬ jc_p K2 64 ((s : Int) - 1) = 0 by omega), f1, jo_bs]
        dsimp only
        rw [if_pos (by omega), e85, show (0 : Int) + 1 = 1 from rfl, m1]
      rw [st]
      obtain ⟨K', g1, g2, g3, g4, g5, g6⟩ := jk_5361 (s := s) (f0 := f0) (l1 := (s : Int)) (l2 := jc_p K2 64 ((s : Int) - 1)) hL (by omega) (N - s) 3999 s (jc_ui K4 85 0 1) (by omega) (Nat.le_refl _) (by omega) (z3.s s5 (fun n hn => jRd.hi hn) (jl_a.refl G N)) ((s5.2 63 (by unfold jRd; omega) 4).trans k63') (fun t t0 t1 => by
        rw [jc_uN (by decide), f3 t t0 t1, if_neg (by omega), d3 t t0 t1, ← hb3 z]
        have := t0s t t0 t1
        rw [if_neg (by omega)] at this
        exact this) (fun p p0 p1 => by
        rw [jc_uN (by decide), f4 p p0 p1, if_neg (fun y => y.2 (jhk0 w105)), d4 p p0 p1, jrf_s, hf', if_neg (by omega), ← hb3 z]) (by rw [jc_uH]; omega)
      refine ⟨K', g1, (s3.trans s5).trans g2, g3, g4, ?_, fun i hi => ?_⟩
      · rw [g5, jc_uH, if_neg z]
        omega
      · rw [g6 i hi, jc_uI hi, f2.2 85 (by decide), d2.2 85 (by decide)]
  obtain ⟨K', d1, d2, d3, d4, d5, d6⟩ := C
  refine ⟨K', G', fun p => jrf G s f0 p N, d1, r1, s2.trans (d2.mono (fun n e => by unfold jRd at e; unfold jRe2 jTn; omega)), fun t t0 t1 => ⟨?_, ?_, d3 t t0 t1⟩, fun k k0 k1 => ?_, fun i hi => ?_, by rw [d5, r5], r2, r3, fun p p0 p1 => ⟨d4 p p0 p1, r4 p p0 p1, jrf_ok (F0 p p0 p1) N js.1⟩⟩
  · rw [d2.2 58 (by unfold jRd; omega)]; exact (b3 t t0 t1).1
  · rw [d2.2 61 (by unfold jRd; omega)]; exact (b3 t t0 t1).2.2
  · rw [d2.2 62 (by unfold jRd; omega)]; exact b4 k k0 k1
  · rw [d6 i hi, k85]
