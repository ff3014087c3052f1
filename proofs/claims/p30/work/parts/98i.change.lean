/-! A KEY CHANGED, AN UNDO MADE, with all that holds -/
theorem jMf.mk2 {K' : jc_K} {G' : jg_G} {N x κ B : Nat} {W : jZW} (A : jLg G' (N + 1) ∧ jMk G' (N + 1)) (P : jph0 G' (N + 1) ≤ κ) (C : jcw G' 0 (N + 1) + jcw G' 5 (N + 1) + jcw G' 4 (N + 1) ≤ B) (hE : jE K' G' x) (h12 : G' 92 12 ≤ (N : Int) + 1) (h3 : G' 92 3 ≤ (W.1 : Int) + 3300) (hg : jgz W G') (hPx : jPx G' (N + 1)) : jMf G' κ W B := by
  have h0 : 0 ≤ G' 92 13 := hE.1.2.1.2.2.1.1
  have he := hE.2.1.2.1
  have le : (G' 92 12).toNat ≤ N + 1 := by omega
  refine ⟨(G' 92 12).toNat, by omega, ⟨A.1.le le, A.2.a (jl_a.refl G' _) (jd_m.refl G') le⟩, ?_, ?_, h3, hg, hPx _ le (Or.inr (by omega))⟩
  · have := jph0_mono (G := G') (n := (G' 92 12).toNat) (N + 1 - (G' 92 12).toNat) (fun r r0 r1 => A.1.1 r r0 (by omega))
    rw [show (G' 92 12).toNat + (N + 1 - (G' 92 12).toNat) = N + 1 by omega] at this
    omega
  · have a0 := jcw_mono2 G' 0 le
    have a5 := jcw_mono2 G' 5 le
    have a4 := jcw_mono2 G' 4 le
    omega
/-- a CHANGE or UNDO of t: what is touched is locked -/
theorem jHo.lf {G G' : jg_G} {N : Nat} {t key : Int} (h : jHo G N) (hl : jl_a G G' N) (g7 : ∀ s, G' 107 s = G 107 s) (g11 : ∀ k, G' 111 k = G 111 k) (f98 : G' 98 ((N : Int) + 1) ≤ 1) (f99 : G' 99 ((N : Int) + 1) = t) (f101 : G' 101 ((N : Int) + 1) = key) (hk : G 107 t = 1 → G 111 key = t) (g9 : G' 109 t = jb_m (G 109 t + 1) ∧ ∀ i, i ≠ t → G' 109 i = G 109 i) (hN : N ≤ 1100) : jHo G' (N + 1) := by
  refine ⟨fun y s y0 y1 s0 s1 h7 hq => ?_, fun s s0 s1 h7 => ?_⟩
  · rw [g7] at h7
    rw [g11]
    by_cases e : s = t
    · by_cases e2 : y = key
      · rw [e, e2]
        exact hk (by rw [← e]; exact h7)
      · rw [jpp_k (f99.trans e.symm) f98, if_neg (fun z => e2 (z.symm.trans f101)), hl.pp y s N (Int.le_refl _)] at hq
        exact h.1 y s y0 y1 s0 s1 h7 hq
    · rw [jpp_o (fun z => e (z.symm.trans f99)), hl.pp y s N (Int.le_refl _)] at hq
      exact h.1 y s y0 y1 s0 s1 h7 hq
  · rw [g7] at h7
    have h9 := h.2 s s0 s1 h7
    have b := jzn_b G s N
    by_cases e : s = t
    · rw [jzn_k (f99.trans e.symm) f98, hl.zn s N (Int.le_refl _), ← h9, e, g9.1]
      rw [e] at h9 b
      exact jb_m_e ⟨by omega, by omega⟩
    · rw [jzn_o (fun z => e (z.symm.trans f99)), hl.zn s N (Int.le_refl _), g9.2 s e]
      exact h9
theorem jph0_of {G' G : jg_G} {N κ : Nat} (h : 2 * (jcw G' 2 N + jcw G' 3 N) + jsum (fun s => if 0 < jt G' s N then 2 else if G 107 s = 1 then (if G 110 s = -1 then 1 else 2) else 0) 4 ≤ κ) : jph0 G' N ≤ κ := by
  have := jsum_le (f := fun s => if 0 < jt G' s N then 2 else 0) (g := fun s => if 0 < jt G' s N then 2 else if G 107 s = 1 then (if G 110 s = -1 then 1 else 2) else 0) 4 (fun i hi => by
    show (if 0 < jt G' i N then 2 else 0) ≤ (if 0 < jt G' i N then 2 else _)
    split
    · exact Nat.le_refl _
    · exact Nat.zero_le _)
  unfold jph0
  omega
section Ch
variable {K : jc_K} {G : jg_G} {N x κ B L : Nat} {W : jZW} {t key v : Int}
theorem jM_change (hY : jY K G N x) (hM : jM G N κ W B) (hκ : κ + 1 ≤ 513) (hB : B + 1 ≤ 223) (hW : W.1 ≤ 2000000000) (ht : 0 ≤ t ∧ t < 4) (hx : 0 ≤ key ∧ key < 32) (hv : -1 ≤ v ∧ v < 1000) (hw : jW K G N key L) (hL : L < 24) (hz : jT_z (fun z => jh G N z)) (ho : G 107 t = 1 ∨ 0 < jt G t N) (hlk : G 107 t = 1 → G 111 key = t) (hot : ∀ s, 0 ≤ s → s < 4 → s ≠ t → jpp G key s N = -2) : ∃ K' G' b, fc144 K t key v = some (K', b) ∧ fo192 G t key v = some (G', 0) ∧ jk_g jQ K K' ∧ ((b = 1 ∧ jA9 K' G G' N (N + 1) x (κ + 1) W (B + 1) ∧ jS_h (fun z => jh G' (N + 1) z) (fun j => G' 112 j) L ∧ (v ≠ -1 → 0 < (jh G' (N + 1) (G' 112 L)).2.1) ∧ (∀ s, 0 ≤ s → s < 4 → s ≠ t → jt G' s (N + 1) = jt G s N) ∧ G' 98 ((N : Int) + 1) = 0 ∧ G' 99 ((N : Int) + 1) = t ∧ G' 101 ((N : Int) + 1) = key ∧ G' 103 ((N : Int) + 1) = v ∧ G' 108 t = (N : Int) + 1) ∨ (b = 0 ∧ jE K' G' x ∧ jMf G' (κ + 1) W (B + 1) ∧ G' 92 29 = G 92 29)) := by
  have hN := hM.len (by omega) (by omega)
  have hP := hM.2.2.2.2.2.1
  obtain ⟨K', G', b, a1, a2, a3, a4⟩ := jc_change hY (by omega) ht hx hv hw hL hM.2.2.1 (by omega)
  obtain ⟨⟨w1, w2⟩, w3, w4, w5, w6⟩ := hw
  obtain ⟨lo, hi, rk, hT⟩ := hM.1.1.2.1 N (Nat.le_refl _)
  have lb := (w3 L (by omega) (Int.le_refl _)).2
  have vb := jp_v_b (hT.1.1 (G 112 L) lb.1 lb.2) w6 key
  refine ⟨K', G', b, a1, a2, a3, ?_⟩
  rcases a4 with ⟨e, y1, y2, y3, ⟨y4, y5, y6, y7, y8⟩, y9⟩ | ⟨e, y1, ⟨y2, y3, y4, y5, y6, y7, y29, y30, y31⟩, y8⟩
  · obtain ⟨l1, l2, l3, l4, l5, l6⟩ := jlf hM y2.1.1 y2.2.2.2.2 y4 (Or.inl rfl) ht hx hv (fun _ => by rw [y9]; exact vb) (fun z => absurd z (by decide)) hz w4 (fun j j0 j1 => (w3 j j0 j1).2) w5 w6 ho (fun _ => y9) hot (fun z => absurd z (by decide))
    have e112 : (fun j => G' 112 j) = fun j => G 112 j := funext y7
    refine Or.inl ⟨e, ⟨y1, y2, ⟨l1, fun s s0 s1 => ?_, fun k k0 k1 => ?_, ?_, by rw [if_pos rfl] at l3; exact l3, ?_, ⟨(y2.2.1 0 (by decide) (by decide) (by decide) (by decide) (by decide) (by decide) (by decide) (by decide)).trans hM.2.2.2.2.2.2.1.1, fun j => (y2.2.2.1 113 (by decide) j).trans (hM.2.2.2.2.2.2.1.2 j)⟩, hM.2.2.2.2.2.2.2.1.up y2.1.1 y2.2.2.2.1 (by rw [y4.1]; decide) (fun j => y2.2.2.1 113 (by decide) j), hM.2.2.2.2.2.2.2.2.lf y2.1.1 (fun s => y2.2.2.1 107 (by decide) s) (fun k => y2.2.2.1 111 (by decide) k) (by rw [y4.1]; decide) y4.2.1 y4.2.2.2.1 hlk y6 (by have := hM.len (by omega) (by omega); omega)⟩, y7, y8⟩, by rw [e112]; exact l5, fun vn => by rw [y7]; exact l6 vn, fun s s0 s1 hs => by rw [l4 s s0 s1, if_neg hs], y4.1, y4.2.1, y4.2.2.2.1, y4.2.2.2.2.1, y5.1⟩
    · rw [l4 s s0 s1]
      by_cases z : s = t
      · rw [if_pos z, z]; exact y5.1
      · rw [if_neg z, y5.2 s z]; exact hM.2.1 s s0 s1
    · rw [y2.2.2.1 111 (by omega)]; exact hM.2.2.1 k k0 k1
    · unfold jph
      have e : jsum (fun s => if 0 < jt G' s (N + 1) then 2 else if G' 107 s = 1 then (if G' 110 s = -1 then 1 else 2) else 0) 4 = jsum (fun s => if 0 < jt G' s (N + 1) then 2 else if G 107 s = 1 then (if G 110 s = -1 then 1 else 2) else 0) 4 := jsum_e 4 (fun i hi => by
        show (if 0 < jt G' i (N + 1) then 2 else if G' 107 i = 1 then (if G' 110 i = -1 then 1 else 2) else 0) = _
        rw [y2.2.2.1 107 (by omega), y2.2.2.1 110 (by omega)])
      rw [e]
      refine Nat.le_trans l2 ?_
      split <;> omega
    · have : (((N + 1 : Nat) : Nat) : Int) = (N : Int) + 1 := by omega
      omega
  · obtain ⟨l1, l2, l3, _⟩ := jlf hM y3 y4 y6 (Or.inl rfl) ht hx hv (fun _ => by rw [y7]; exact vb) (fun z => absurd z (by decide)) hz w4 (fun j j0 j1 => (w3 j j0 j1).2) w5 w6 ho (fun _ => y7) hot (fun z => absurd z (by decide))
    rw [if_pos rfl] at l3
    refine Or.inr ⟨e, y1, jMf.mk2 l1 (jph0_of (G := G) (Nat.le_trans l2 ?_)) l3 y1 y5 (by omega) ⟨y30.trans hM.2.2.2.2.2.2.1.1, fun j => (y31 j).trans (hM.2.2.2.2.2.2.1.2 j)⟩ (hM.2.2.2.2.2.2.2.1.up y3 y2 (by rw [y6.1]; decide) y31), y29⟩
    split <;> omega
theorem jM_undo {R : Nat} {was : Int} (hY : jY K G N x) (hM : jM G N κ W B) (hκ : κ ≤ 513) (hB : B ≤ 223) (hW : W.1 ≤ 2000000000) (ht : 0 ≤ t ∧ t < 4) (hR : 1 ≤ R ∧ R ≤ N) (h98 : G 98 R = 0) (h99 : G 99 R = t) (hpl : jpl G N (jt G t N) = jpl G N (G 100 R) + 1) (hw : jW K G N (G 101 R) L) (hL : L < 24) (hz : jT_z (fun z => jh G N z)) (ho : 0 < jt G t N) (hzl : ∃ l, jzL G t N = (R : Int) :: l) : ∃ K1 K' G' b, fc95 K (jc_p K 64 ((R : Int) - 1)) = some (K1, 1) ∧ fc80 K1 (jc_i K1 63 4) = some (K', b) ∧ fo174 (ju_g G ((N : Int) + 1) t R (G 101 R) (G 102 R) was (G 112 L)) ((N : Int) + 1) = some (G', 0) ∧ jk_g jQ K K' ∧ ((b = 1 ∧ jA9 K' G G' N (N + 1) x κ W B ∧ jS_h (fun z => jh G' (N + 1) z) (fun j => G' 112 j) L ∧ G' 98 ((N : Int) + 1) = 1 ∧ G' 104 ((N : Int) + 1) = R ∧ (∀ s, 0 ≤ s → s < 4 → jt G' s (N + 1) = if s = t then (N : Int) + 1 else jt G s N) ∧ G' 99 ((N : Int) + 1) = t ∧ G' 101 ((N : Int) + 1) = G 101 R ∧ G' 103 ((N : Int) + 1) = G 102 R) ∨ (b = 0 ∧ jE K' G' x ∧ jMf G' κ W B ∧ G' 92 29 = G 92 29)) := by
  have hN := hM.len hκ hB
  have hP := hM.2.2.2.2.2.1
  have jR := hM.1.1.1 R hR.1 hR.2
  have v102 := jR.2.2.2.1 h98
  have vR := (hY.2.1.2 R hR.1 hR.2).2.2.2.2.1 (by rw [h98]; decide)
  obtain ⟨K1, K', G', b, a0, a1, a2, a3, a4⟩ := jc_undo (was := was) hY (by omega) ht hR h98 h99 v102 hw hL hM.2.2.1 (by omega)
  obtain ⟨⟨w1, w2⟩, w3, w4, w5, w6⟩ := hw
  have hu : jUn G N t R := ⟨R, rfl, hR.1, hR.2, h98, h99, hpl⟩
  have tch : jpp G (G 101 R) t N ≠ -2 := by
    obtain ⟨l, hl⟩ := hzl
    exact (jz_key ht.1 N hM.1.1.F R (by rw [hl]; exact List.mem_cons_self)).2
  have hot : ∀ s, 0 ≤ s → s < 4 → s ≠ t → jpp G (G 101 R) s N = -2 := fun s s0 s1 hs => (jz_sem vR.1 N hM.1.1.F).1 t s ht.1 ht.2 s0 s1 (fun z => hs z.symm) tch
  have hlk : G 107 t = 1 → G 111 (G 101 R) = t := fun h7 => hM.2.2.2.2.2.2.2.2.1 (G 101 R) t vR.1.1 vR.1.2 ht.1 ht.2 h7 tch
  refine ⟨K1, K', G', b, a0, a1, a2, a3, ?_⟩
  rcases a4 with ⟨e, y1, y2, y3, ⟨y4, y5, y6, y7, y8⟩⟩ | ⟨e, y1, ⟨y2, y3, y4, y5, y6, y29, y30, y31⟩, y8⟩
  · obtain ⟨l1, l2, l3, l4, l5, _⟩ := jlf hM y2.1.1 y2.2.2.2.2 y4 (Or.inr rfl) ht vR.1 v102 (fun z => absurd z (by decide)) (fun _ => hu) hz w4 (fun j j0 j1 => (w3 j j0 j1).2) w5 w6 (Or.inr ho) (fun z => absurd z (by decide)) hot (fun _ => ⟨rfl, rfl, hzl⟩)
    have e112 : (fun j => G' 112 j) = fun j => G 112 j := funext y7
    refine Or.inl ⟨e, ⟨y1, y2, ⟨l1, fun s s0 s1 => ?_, fun k k0 k1 => ?_, ?_, by rw [if_neg (by decide)] at l3; exact l3, ?_, ⟨(y2.2.1 0 (by decide) (by decide) (by decide) (by decide) (by decide) (by decide) (by decide) (by decide)).trans hM.2.2.2.2.2.2.1.1, fun j => (y2.2.2.1 113 (by decide) j).trans (hM.2.2.2.2.2.2.1.2 j)⟩, hM.2.2.2.2.2.2.2.1.up y2.1.1 y2.2.2.2.1 (by rw [y4.1]; decide) (fun j => y2.2.2.1 113 (by decide) j), hM.2.2.2.2.2.2.2.2.lf y2.1.1 (fun s => y2.2.2.1 107 (by decide) s) (fun k => y2.2.2.1 111 (by decide) k) (by rw [y4.1]; decide) y4.2.1 y4.2.2.2.1 hlk y6 (by have := hM.len (by omega) (by omega); omega)⟩, y7, y8⟩, by rw [e112]; exact l5, y4.1, y4.2.2.2.2.2.1, l4, y4.2.1, y4.2.2.2.1, y4.2.2.2.2.1⟩
    · rw [l4 s s0 s1]
      by_cases z : s = t
      · rw [if_pos z, z]; exact y5.1
      · rw [if_neg z, y5.2 s z]; exact hM.2.1 s s0 s1
    · rw [y2.2.2.1 111 (by omega)]; exact hM.2.2.1 k k0 k1
    · unfold jph
      have e : jsum (fun s => if 0 < jt G' s (N + 1) then 2 else if G' 107 s = 1 then (if G' 110 s = -1 then 1 else 2) else 0) 4 = jsum (fun s => if 0 < jt G' s (N + 1) then 2 else if G 107 s = 1 then (if G 110 s = -1 then 1 else 2) else 0) 4 := jsum_e 4 (fun i hi => by
        show (if 0 < jt G' i (N + 1) then 2 else if G' 107 i = 1 then (if G' 110 i = -1 then 1 else 2) else 0) = _
        rw [y2.2.2.1 107 (by omega), y2.2.2.1 110 (by omega)])
      rw [e]
      rw [if_pos ho] at l2
      omega
    · have : (((N + 1 : Nat) : Nat) : Int) = (N : Int) + 1 := by omega
      omega
  · obtain ⟨l1, l2, l3, _⟩ := jlf hM y3 y4 y6 (Or.inr rfl) ht vR.1 v102 (fun z => absurd z (by decide)) (fun _ => hu) hz w4 (fun j j0 j1 => (w3 j j0 j1).2) w5 w6 (Or.inr ho) (fun z => absurd z (by decide)) hot (fun _ => ⟨rfl, rfl, hzl⟩)
    rw [if_neg (by decide)] at l3
    rw [if_pos ho] at l2
    exact Or.inr ⟨e, y1, jMf.mk2 l1 (jph0_of (G := G) (by omega)) l3 y1 y5 (by omega) ⟨y30.trans hM.2.2.2.2.2.2.1.1, fun j => (y31 j).trans (hM.2.2.2.2.2.2.1.2 j)⟩ (hM.2.2.2.2.2.2.2.1.up y3 y2 (by rw [y6.1]; decide) y31), y29⟩
end Ch
