/-! RECOVER, its last part: what was lost -/
def jrk4 (K : jc_K) : Option (jc_K × (Int ⊕ Nat)) := (fc91 K).bind fun x17 => (fc92 (x17.1) 0 1).bind fun x19 => if x19.2 = 0 then ((fc140 (jc_ui (x19.1) 85 2 (jc_i (x19.1) 81 4)) (-4)).bind fun x26 => some (x26.1, .inl (x26.2))) else ((fc64 (jc_ui (x19.1) 85 2 (jc_i (x19.1) 81 4)) ).bind fun x23 => some (jc_ui (x23.1) 2 8 0, .inl (0)))
def jrg4 (G : jg_G) : Option (jg_G × Int) := (fo211 G).bind fun x13 => if (x13.1) 92 7 = 0 then (some (x13.1, 0)) else (some (x13.1, (-4)))
/-- cleared, alive -/
def jCl (G : jg_G) (N : Nat) : Prop := ((∀ t, 0 ≤ t → t < 4 → G 107 t = 0 ∧ G 110 t = -1) ∧ ∀ k, 0 ≤ k → k < 32 → G 111 k = -1) ∧ ∀ t, 0 ≤ t → t < 4 → jt G t N = 0
/-- both are at their end, and agree -/
def jDn (x : Option (jc_K × (Int ⊕ Nat))) (y : Option (jg_G × Int)) (k : Nat) (g : jg_G) : Prop := ∃ K' G' v, x = some (K', .inl v) ∧ y = some (G', v) ∧ (∀ j, j < 0 → G' 113 j = g 113 j) ∧ ((v = 0 ∧ ∃ N' W', jSt K' G' N' (k + 1) W' ∧ jCl G' N') ∨ (v = -4 ∧ G' 92 7 ≠ 0 ∧ ∃ W', jSf K' G' (k + 1) W'))
theorem jDn.mono {x : Option (jc_K × (Int ⊕ Nat))} {y : Option (jg_G × Int)} {k : Nat} {g g' : jg_G} (h : jDn x y k g) (e : ∀ j, j < 0 → g 113 j = g' 113 j) : jDn x y k g' := by
  obtain ⟨K', G', v, a, b, c, d⟩ := h
  exact ⟨K', G', v, a, b, fun j hj => (c j hj).trans (e j hj), d⟩
theorem jlv9 {K K' : jc_K} {G : jg_G} {N k : Nat} {w : Nat} {S : Nat → Prop} (hY : jY K G N k) (hM : jM G N k (w, 0, fun j => G 113 j) 223) (hz : jT_z (fun z => jh G N z)) (hC : (∀ t, 0 ≤ t → t < 4 → G 107 t = 0 ∧ G 110 t = -1) ∧ ∀ k, 0 ≤ k → k < 32 → G 111 k = -1) (hj : ∀ t, 0 ≤ t → t < 4 → jt G t N = 0) (s : jk_s S K K') (hS : ∀ n, S n → n = 2 ∨ n = 58 ∨ n = 59 ∨ n = 61 ∨ n = 62 ∨ n = 85) (h58 : ∀ t, 0 ≤ t → t < 4 → jc_i K' 58 t = 0 ∧ jc_i K' 59 t = 0 ∧ jc_i K' 61 t = -1) (h62 : ∀ k, 0 ≤ k → k < 32 → jc_i K' 62 k = -1) (h2 : jc_i K' 2 8 = 0) (hP : jPs K' G) (hw : w ≤ 9000 * (k + 1)) : jSt K' G N (k + 1) (w, 0, fun j => G 113 j) := by
  obtain ⟨y1, ⟨y2, y3⟩, y4, y5, y6⟩ := hY
  have nS : ∀ n, S n → n < 98 ∧ n ≠ 63 := fun n e => by
    have := hS n e
    omega
  have hN : jN K' G (fun p => jv G p N) N := y1.grow (jk_g.s s) (fun n h e => by
    have := hS n e
    unfold jN_k at h
    omega) y5.1
  have hY' : jY K' G N k := by
    refine ⟨hN, ⟨?_, y3.s s (fun n h e => ?_) (jl_a.refl G N)⟩, fun t t0 t1 => ⟨?_, fun z => ?_⟩, y5.s s, y6.s s⟩
    · rw [s.2 63 (fun e => (nS 63 e).2 rfl) 4]; exact y2
    · have := nS n e
      omega
    · rw [(h58 t t0 t1).2.1, hM.2.1 t t0 t1, hj t t0 t1]
    · rw [(hC.1 t t0 t1).1] at z
      exact absurd z (by decide)
  refine ⟨hP, h2, hw, ⟨hY'.le (by omega), hM.le (by omega) (Nat.le_refl _), hz, ⟨fun t t0 t1 => ?_, fun k k0 k1 => ?_⟩, ⟨⟨fun k k0 k1 z => ?_, fun s s0 s1 z => ?_⟩, fun _ => 0, fun s s0 s1 z => ?_⟩, fun s s0 s1 _ => hj s s0 s1⟩⟩
  · have a := h58 t t0 t1
    have b := hC.1 t t0 t1
    rw [a.1, a.2.2, b.1, b.2]
    exact ⟨rfl, Or.inl rfl, rfl, by decide, by decide⟩
  · rw [h62 k k0 k1, hC.2 k k0 k1]
    exact ⟨rfl, by decide, by decide⟩
  · rw [hC.2 k k0 k1] at z
    exact absurd z (by decide)
  · rw [(hC.1 s s0 s1).2] at z
    exact absurd z (by decide)
  · rw [(hC.1 s s0 s1).2] at z
    exact absurd z (by decide)
theorem jrc4 {K : jc_K} {G : jg_G} {N k : Nat} {W : jZW} (hY : jY K G N k) (hM : jM G N k W 223) (W2 : W.2.1 = 0) (hz : jT_z (fun z => jh G N z)) (hT : jTr K G) (hC : (∀ t, 0 ≤ t → t < 4 → G 107 t = 0 ∧ G 110 t = -1) ∧ ∀ k, 0 ≤ k → k < 32 → G 111 k = -1) (hP : jPs K G) (h113 : G 113 2 = 0) (hk : k < 512) (hW : W.1 ≤ 9000 * (k + 1)) : jDn (jrk4 K) (jrg4 G) k G := by
  obtain ⟨K5, a1, a2, a3⟩ := jk_91 (K := K)
  obtain ⟨G5, b1, b2, b3⟩ := jr_2112 (G := G)
  have n120 : 98 ≤ K.1.1 := hY.2.2.2.1.1
  have n1205 : 98 ≤ K5.1.1 := by rw [a2.1.1]; exact n120
  have hg : ∀ n, n < 112 → ∀ j, G5 n j = G n j := fun n hn j => b2 n (by omega) j
  have g113 : ∀ j, G5 113 j = G 113 j := fun j => b2 113 (by decide) j
  have hl : jl_a G G5 N := fun m j e => hg m (by omega) j
  obtain ⟨r, hr⟩ : ∃ r : Int → Nat, ∀ t, 0 ≤ t → t < 4 → jt G t N = r t ∧ jch G N t (r t) := ⟨fun t => (jt G t N).toNat, fun t t0 t1 => by
    obtain ⟨c, c1, c2, _⟩ := jch.of hM.1.1 (Nat.le_refl _) t0
    have e : (jt G t N).toNat = c := by rw [c1]; rfl
    show jt G t N = ((jt G t N).toNat : Int) ∧ jch G N t (jt G t N).toNat
    rw [e]
    exact ⟨c1, c2⟩⟩
  have hY5 : jY K5 G N k := hY.f (hY.1.grow (jk_g.s a2) (fun n h e => by
    unfold jN_k at h
    omega) n120) a2 (fun n e => by omega) (jw_f.refl G)
  have hY6 : jY (jc_ui K5 81 4 0) G5 N k := (hY5.nx (Or.inl rfl)).hi hg
  have hM5 : jM G5 N k (W.1, 0, fun j => G5 113 j) 223 := by
    rw [← W2]; exact hM.hi hg (fun j _ => g113 j)
  have hT5 : jTr (jc_ui K5 81 4 0) G5 := ((hT.s (jk_g.s a2) n120 ⟨by decide, by decide, by decide⟩ (fun j => ⟨rfl, rfl, rfl⟩)).s (jk_g.s (S := fun n => n = 81) (jk_s.u rfl)) n1205 ⟨by decide, by decide, by decide⟩ (fun j => ⟨rfl, rfl, rfl⟩)).hi hg
  have L : jLo (jc_ui K5 81 4 0) G5 N k k 223 W.1 r := by
    refine ⟨hY6, hM5, hz.same (fun z => hl.h z N (Int.le_refl _)), hT5, ⟨fun s s0 s1 => ?_, fun j j0 j1 => ?_⟩, fun s s0 s1 => ?_⟩
    · rw [hg 107 (by decide), hg 110 (by decide)]
      exact hC.1 s s0 s1
    · rw [hg 111 (by decide)]
      exact hC.2 j j0 j1
    · obtain ⟨r1, r2⟩ := hr s s0 s1
      rw [b3 s s0 s1, hM.2.1 s s0 s1, hl.t s N (Int.le_refl _), r1]
      refine ⟨rfl, ⟨r2.1, fun z => ?_⟩, rfl, fun z => by omega, by rw [jzL_jt N, hl.t s N (Int.le_refl _), r1]; rfl⟩
      rw [hg 99 (by decide), hg 98 (by decide)]
      exact r2.2 z
  have sm : jsm G5 r ≤ 223 := by
    have q := jct_sum G5 N
    have q0 := jct_mono (G := G5) (t := 0) (hr 0 (by decide) (by decide)).2.1
    have q1 := jct_mono (G := G5) (t := 1) (hr 1 (by decide) (by decide)).2.1
    have q2 := jct_mono (G := G5) (t := 2) (hr 2 (by decide) (by decide)).2.1
    have q3 := jct_mono (G := G5) (t := 3) (hr 3 (by decide) (by decide)).2.1
    have q4 := hM5.2.2.2.2.1
    unfold jsm
    omega
  have k5 : ∀ n, n ≠ 81 → n ≠ 82 → ∀ j, jc_i (jc_ui K5 81 4 0) n j = jc_i K n j := fun n h1 h2 j => by
    rw [jc_uN h1]; exact a2.2 n h2 j
  obtain ⟨K6, G6, st, c1, c2, c3, c4, c5, c6⟩ := jlos (x := k) (κ := k) (B := 223) (w1 := W.1) (by omega) (by decide) (by omega) 223 jo_N jo_N 0 0 (jc_ui K5 81 4 0) G5 N r L (fun s s0 s1 => by
    rw [jc_uN (by decide), a3 s s0 s1, (hY.2.2.1 s s0 s1).1, hM.2.1 s s0 s1, (hr s s0 s1).1]
    unfold jnx
    by_cases z : r s = 0
    · rw [if_pos z, if_pos (by omega)]
    · rw [if_neg z, if_neg (by omega)]) (fun s s0 s1 z => by
    rw [hl.t s N (Int.le_refl _), (hr s s0 s1).1, z]; rfl) sm (by decide) (by decide) (by decide) (by unfold jo_N; omega) (by unfold jo_N; omega) (by rw [jc_uH, g113, h113]) (by rw [g113, h113]; decide) (by rw [g113, h113]; decide)
  have e92 : fc92 K5 0 1 = some (K6, st) := c1
  have e211 : fo211 G = some (G6, 0) := b1.trans c2
  have n1206 : 98 ≤ K6.1.1 := Nat.le_trans n1205 c3.1
  have k685 : ∀ j, jc_i K6 85 j = jc_i K 85 j := fun j => by
    rw [c3.2.2.2 85 j (by show 85 < K5.1.1; omega) (fun z => by unfold jQA jQU jQB jQ jS_n jTn at z; omega)]
    exact k5 85 (by decide) (by decide) j
  have P7 : jPs (jc_ui K6 85 2 (jc_i K6 81 4)) G6 := fun j j0 j1 => by
    by_cases e : j = 2
    · rw [e, jc_uH]; exact c4
    · rw [jc_uI e, k685, hP j j0 j1, c5 j e, g113]
  unfold jrk4 jrg4
  rw [a1, e211, jo_bs, jo_bs]
  dsimp only
  rw [e92, jo_bs]
  dsimp only
  rcases c6 with ⟨es, N', r', L', hj⟩ | ⟨es, hE, hMf, h62⟩
  · obtain ⟨l1, l2, l3, l4, l5, l6⟩ := L'
    obtain ⟨K8, d1, d2, d3, d4⟩ := jk_fc64 (K := jc_ui K6 85 2 (jc_i K6 81 4)) (fun j j0 j1 => by
      rw [jc_uN (by decide)]
      have := l4.2 j j0 j1
      omega)
    rw [if_neg (by omega), d1, if_pos l1.h7, jo_bs]
    refine ⟨jc_ui K8 2 8 0, G6, 0, rfl, rfl, fun j hj => (c5 j (by omega)).trans (g113 j), Or.inl ⟨rfl, N', (W.1, 0, fun j => G6 113 j), ?_, l5, hj⟩⟩
    have s85 : jk_s (fun n => n = 2 ∨ n = 58 ∨ n = 59 ∨ n = 61 ∨ n = 62 ∨ n = 85) K6 (jc_ui K6 85 2 (jc_i K6 81 4)) := jk_s.u (by decide)
    have s8 : jk_s (fun n => n = 2 ∨ n = 58 ∨ n = 59 ∨ n = 61 ∨ n = 62 ∨ n = 85) K6 (jc_ui K8 2 8 0) := (s85.trans (d2.mono (fun n e => by unfold jTn at e; omega))).trans (jk_s.u (by decide))
    refine jlv9 l1 l2 l3 l5 hj s8 (fun n e => e) (fun t t0 t1 => ?_) (fun j j0 j1 => ?_) jc_uH (fun j j0 j1 => ?_) hW
    · rw [jc_uN (by decide), jc_uN (by decide), jc_uN (by decide)]
      exact d3 t t0 t1
    · rw [jc_uN (by decide)]
      exact d4 j j0 j1
    · rw [jc_uN (by decide), d2.2 85 (by unfold jTn; decide) j]
      exact P7 j j0 j1
  · have h62' : ∀ j, 0 ≤ j → j < 32 → -1 ≤ jc_i (jc_ui K6 85 2 (jc_i K6 81 4)) 62 j ∧ jc_i (jc_ui K6 85 2 (jc_i K6 81 4)) 62 j < 4 := fun j j0 j1 => by
      rw [jc_uN (by decide)]
      exact h62 j j0 j1
    have hE7 : jE (jc_ui K6 85 2 (jc_i K6 81 4)) G6 k := hE.s (S := fun n => n = 85) (jk_s.u rfl) (fun n e => by omega) (by
      rw [jc_uN (by decide)]
      exact hE.2.2.1.2.1)
    obtain ⟨K8, d1, d2⟩ := jrcf hE7 hMf hW rfl h62' P7
    rw [if_pos es, d1, if_neg hE.h7, jo_bs]
    exact ⟨K8, G6, -4, rfl, rfl, fun j hj => (c5 j (by omega)).trans (g113 j), Or.inr ⟨rfl, hE.h7, _, d2⟩⟩
