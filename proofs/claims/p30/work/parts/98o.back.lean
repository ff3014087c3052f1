/-! AN END, all of it -/
section En
variable {K : jc_K} {G : jg_G} {N x κ B : Nat} {W : jZW} {t : Int}
theorem jph_tm (G : jg_G) (N : Nat) : jph G N = 2 * (jcw G 2 N + jcw G 3 N) + jsum (jtm G N) 4 := rfl
theorem jtm_sum (ht : 0 ≤ t ∧ t < 4) : jsum (fun s => if s = t then 0 else jtm G N s) 4 + jtm G N t = jsum (jtm G N) 4 := by
  have e : ((t.toNat : Nat) : Int) = t := by omega
  refine jsum_u (j := t.toNat) (d := jtm G N t) ?_ 4 (by omega) (fun i hi hj => ?_)
  · rw [e]
    show (if t = t then 0 else _) + _ = _
    rw [if_pos rfl]
    exact Nat.zero_add _
  · show (if (i : Int) = t then 0 else jtm G N i) = _
    rw [if_neg (by omega)]
theorem jtm_le {G' : jg_G} {N' : Nat} {s : Int} (h1 : jt G' s N' = jt G s N) (h2 : G' 107 s = G 107 s) (h3 : G' 110 s = G 110 s ∨ G' 110 s = -1) : jtm G' N' s ≤ jtm G N s := by
  unfold jtm
  rw [h1, h2]
  rcases h3 with e | e
  · rw [e]
    exact Nat.le_refl _
  · rw [e, if_pos rfl]
    split
    · exact Nat.le_refl _
    · split
      · split <;> decide
      · exact Nat.le_refl _
theorem jclosedM (hY : jY K G N x) (hL : jLg G N ∧ jMk G N) (h108 : ∀ s, 0 ≤ s → s < 4 → s ≠ t → G 108 s = jt G s N) (hjt : jt G t N = 0) (hh : ∀ k, 0 ≤ k → k < 32 → -1 ≤ G 111 k ∧ G 111 k < 4) (hk : 2 * (jcw G 2 N + jcw G 3 N) + jsum (fun s => if s = t then 0 else jtm G N s) 4 ≤ κ) (hc : jcw G 0 N + jcw G 5 N + jcw G 4 N ≤ B) (hP : jP G ≤ W.1 + 3 * N ∧ jgz W G) (ht : 0 ≤ t ∧ t < 4) (hPx : jPx G N) (hHo : jHx G N t) : ∃ K', fc63 K t = some (K', 0) ∧ jk_s jTn K K' ∧ jY K' (fr_cl G t) N x ∧ jM (fr_cl G t) N κ W B := by
  obtain ⟨K', a1, a2, a3⟩ := jclosed hY ht
  have o := fun (n : Nat) (j : Int) => fr_cl_o (G := G) (t := t) (n := n) (j := j)
  have hl : jl_a G (fr_cl G t) N := fun m j e => o m j (by omega)
  have hd : jd_m G (fr_cl G t) := jd_m.same (fun j _ _ => o 93 j (by decide))
  refine ⟨K', a1, a2, a3, ⟨hL.1.a hl (Nat.le_refl _), hL.2.a hl hd (Nat.le_refl _)⟩, fun s s0 s1 => ?_, fun k k0 k1 => ?_, ?_, ?_, ?_, ?_⟩
  · rw [fr_cl_7 (by decide), hl.t s N (Int.le_refl _)]
    by_cases e : s = t
    · rw [if_pos e, e, hjt]
    · rw [if_neg e]; exact h108 s s0 s1 e
  · rw [fr_cl_11]
    have := hh k k0 k1
    split <;> omega
  · rw [jph_tm, hl.cw 2 N (Int.le_refl _), hl.cw 3 N (Int.le_refl _)]
    have := jsum_le (f := jtm (fr_cl G t) N) (g := fun s => if s = t then 0 else jtm G N s) 4 (fun i hi => by
      show jtm (fr_cl G t) N i ≤ (if (i : Int) = t then 0 else jtm G N i)
      by_cases e : (i : Int) = t
      · rw [if_pos e]
        unfold jtm
        rw [hl.t _ N (Int.le_refl _), fr_cl_7 (by decide), if_pos e, e, hjt, if_neg (by decide), if_neg (by decide)]
        exact Nat.le_refl _
      · rw [if_neg e]
        refine jtm_le (hl.t _ N (Int.le_refl _)) (by rw [fr_cl_7 (by decide), if_neg e]) ?_
        rw [fr_cl_10]
        split
        · exact Or.inr rfl
        · exact Or.inl rfl)
    omega
  · rw [hl.cw 0 N (Int.le_refl _), hl.cw 5 N (Int.le_refl _), hl.cw 4 N (Int.le_refl _)]
    exact hc
  · have : jP (fr_cl G t) = jP G := jP_same (fun i => o 97 i (by decide)) (o 92 3 (by decide))
    rw [this]
    exact hP.1
  · refine ⟨⟨(o 92 0 (by decide)).trans hP.2.1, fun j => (o 113 j (by decide)).trans (hP.2.2 j)⟩, hPx.same hl (Int.le_of_eq (o 92 13 (by decide)).symm) (fun j => o 113 j (by decide)), fun y s y0 y1 s0 s1 h7 hq => ?_, fun s s0 s1 h7 => ?_⟩
    · rw [fr_cl_7 (by decide)] at h7
      rw [hl.pp y s N (Int.le_refl _)] at hq
      by_cases e : s = t
      · rw [if_pos e] at h7; omega
      · rw [if_neg e] at h7
        have := hHo.1 y s y0 y1 s0 s1 e h7 hq
        rw [fr_cl_11, if_neg (by omega)]
        exact this
    · rw [fr_cl_7 (by decide)] at h7 ⊢
      rw [hl.zn s N (Int.le_refl _)]
      by_cases e : s = t
      · rw [if_pos e] at h7; omega
      · rw [if_neg e] at h7 ⊢
        exact hHo.2 s s0 s1 e h7
/-- what one has spent that waits for nobody -/
def jbs (G : jg_G) (N : Nat) (u : Int) : Nat := if 0 < jt G u N then 2 else if G 107 u = 1 then 1 else 0
theorem jtm2_sum {u : Int} (ht : 0 ≤ t ∧ t < 4) (hu : 0 ≤ u ∧ u < 4) (hne : u ≠ t) : jsum (fun s => if s = t then 0 else if s = u then jbs G N u else jtm G N s) 4 + jtm G N u = jsum (fun s => if s = t then 0 else jtm G N s) 4 + jbs G N u := by
  have e : ((u.toNat : Nat) : Int) = u := by omega
  have a := jsum_u (f := fun s => if s = t then 0 else if s = u then 0 else jtm G N s) (g := fun s => if s = t then 0 else if s = u then jbs G N u else jtm G N s) (j := u.toNat) (d := jbs G N u) (by
    rw [e]
    show (if u = t then 0 else if u = u then 0 else _) + _ = (if u = t then 0 else if u = u then jbs G N u else _)
    rw [if_neg hne, if_pos rfl, if_neg hne, if_pos rfl]
    exact Nat.zero_add _) 4 (by omega) (fun i h1 h2 => by
    show (if (i : Int) = t then 0 else if (i : Int) = u then 0 else jtm G N i) = (if (i : Int) = t then 0 else if (i : Int) = u then jbs G N u else jtm G N i)
    have : ¬ (i : Int) = u := by omega
    rw [if_neg this, if_neg this])
  have b := jsum_u (f := fun s => if s = t then 0 else if s = u then 0 else jtm G N s) (g := fun s => if s = t then 0 else jtm G N s) (j := u.toNat) (d := jtm G N u) (by
    rw [e]
    show (if u = t then 0 else if u = u then 0 else _) + _ = (if u = t then 0 else jtm G N u)
    rw [if_neg hne, if_pos rfl, if_neg hne]
    exact Nat.zero_add _) 4 (by omega) (fun i h1 h2 => by
    show (if (i : Int) = t then 0 else if (i : Int) = u then 0 else jtm G N i) = (if (i : Int) = t then 0 else jtm G N i)
    have : ¬ (i : Int) = u := by omega
    rw [if_neg this])
  omega
theorem jph_cl2 {u : Int} (hjt : jt G t N = 0) (ht : 0 ≤ t ∧ t < 4) (hu : 0 ≤ u ∧ u < 4) (hne : u ≠ t) (hw : G 110 u = t) : jph (fr_cl G t) N + jtm G N u ≤ 2 * (jcw G 2 N + jcw G 3 N) + jsum (fun s => if s = t then 0 else jtm G N s) 4 + jbs G N u := by
  have o := fun (n : Nat) (j : Int) => fr_cl_o (G := G) (t := t) (n := n) (j := j)
  have hl : jl_a G (fr_cl G t) N := fun m j e => o m j (by omega)
  rw [jph_tm, hl.cw 2 N (Int.le_refl _), hl.cw 3 N (Int.le_refl _)]
  have s2 := jtm2_sum (G := G) (N := N) ht hu hne
  have := jsum_le (f := jtm (fr_cl G t) N) (g := fun s => if s = t then 0 else if s = u then jbs G N u else jtm G N s) 4 (fun i hi => by
    show jtm (fr_cl G t) N i ≤ (if (i : Int) = t then 0 else if (i : Int) = u then jbs G N u else jtm G N i)
    by_cases e : (i : Int) = t
    · rw [if_pos e]
      unfold jtm
      rw [hl.t _ N (Int.le_refl _), fr_cl_7 (by decide), if_pos e, e, hjt, if_neg (by decide), if_neg (by decide)]
      exact Nat.le_refl _
    · rw [if_neg e]
      by_cases e2 : (i : Int) = u
      · rw [if_pos e2]
        unfold jtm jbs
        rw [hl.t _ N (Int.le_refl _), fr_cl_7 (by decide), if_neg e, fr_cl_10, e2, if_pos (show u = t ∨ (0 ≤ u ∧ u < 4 ∧ G 110 u = t) from Or.inr ⟨hu.1, hu.2, hw⟩), if_pos rfl]
        exact Nat.le_refl _
      · rw [if_neg e2]
        refine jtm_le (hl.t _ N (Int.le_refl _)) (by rw [fr_cl_7 (by decide), if_neg e]) ?_
        rw [fr_cl_10]
        split
        · exact Or.inr rfl
        · exact Or.inl rfl)
  omega
/-- an END -/
theorem jended (hY : jY K G N x) (hM : jM G N κ W B) (hN : N ≤ 925) (ht : 0 ≤ t ∧ t < 4) (he : jzL G t N = []) : ∃ K', fc96 K t = some (K', 1) ∧ jk_g (fun n => jQ n ∨ jTn n) K K' ∧ jY K' (fr_cl (fr_no G 3 t) t) (N + 1) x ∧ jM (fr_cl (fr_no G 3 t) t) (N + 1) (κ + 2 - jtm G N t) W B ∧ (jTr K G → jTr K' (fr_cl (fr_no G 3 t) t)) ∧ (∀ s, 0 ≤ s → s < 4 → s ≠ t → jt (fr_cl (fr_no G 3 t) t) s (N + 1) = jt G s N) ∧ (∀ z, jh (fr_cl (fr_no G 3 t) t) (N + 1) z = jh G N z) ∧ (∀ u, 0 ≤ u → u < 4 → u ≠ t → G 110 u = t → jph (fr_cl (fr_no G 3 t) t) (N + 1) + jtm G N u ≤ κ + 2 - jtm G N t + jbs G N u) ∧ jl_a G (fr_cl (fr_no G 3 t) t) N ∧ fr_cl (fr_no G 3 t) t 98 ((N : Int) + 1) = 3 ∧ fr_cl (fr_no G 3 t) t 99 ((N : Int) + 1) = t := by
  obtain ⟨K1, q, a1, a2, a3, a4, a5, a6, a7, a8, a9, a10, a11⟩ := jnoted (w := 3) hY hM hN (Or.inr rfl) ht (fun _ => he)
  have h12 := hY.h12
  have o := fun (n : Nat) (j : Int) => fr_no_o (G := G) (w := 3) (t := t) (n := n) (j := j)
  have is := (fr_no_is (G := G) (w := 3) (t := t) ⟨by omega, ht.2⟩)
  have e108 : ∀ s, s ≠ t → fr_no G 3 t 108 s = G 108 s := fun s hs => o 108 s (by omega) (by omega) (by omega)
  have tm : ∀ s, 0 ≤ s → s < 4 → s ≠ t → jtm (fr_no G 3 t) (N + 1) s = jtm G N s := fun s s0 s1 hs => by
    unfold jtm
    rw [a8 s s0 s1, if_neg hs, o 107 s (by omega) (by omega) (by omega), o 110 s (by omega) (by omega) (by omega)]
  have sm := jtm_sum (G := G) (N := N) ht
  have k5 := hM.2.2.2.1
  rw [jph_tm] at k5
  have px : jPx (fr_no G 3 t) (N + 1) := hM.2.2.2.2.2.2.2.1.up a7 (Int.le_of_eq (o 92 13 (by omega) (by omega) (by omega)).symm) (by rw [← h12, is.2.1]; decide) (fun j => o 113 j (by omega) (by omega) (by omega))
  have ho : jHx (fr_no G 3 t) (N + 1) t := ⟨fun y s y0 y1 s0 s1 hs h7 hq => by
    rw [o 107 s (by omega) (by omega) (by omega)] at h7
    rw [jpp_o (by rw [← h12, is.2.2.1]; exact fun z => hs z.symm), a7.pp y s N (Int.le_refl _)] at hq
    rw [o 111 y (by omega) (by omega) (by omega)]
    exact hM.2.2.2.2.2.2.2.2.1 y s y0 y1 s0 s1 h7 hq, fun s s0 s1 hs h7 => by
    rw [o 107 s (by omega) (by omega) (by omega)] at h7
    rw [jzn_o (by rw [← h12, is.2.2.1]; exact fun z => hs z.symm), a7.zn s N (Int.le_refl _), o 109 s (by omega) (by omega) (by omega)]
    exact hM.2.2.2.2.2.2.2.2.2 s s0 s1 h7⟩
  obtain ⟨K2, b1, b2, b3, b4⟩ := jclosedM (κ := κ + 2 - jtm G N t) (B := B) (W := W) a5 a6 (fun s s0 s1 hs => by rw [e108 s hs, a8 s s0 s1, if_neg hs]; exact hM.2.1 s s0 s1) (by rw [a8 t ht.1 ht.2, if_pos rfl]) (fun k k0 k1 => by rw [o 111 k (by omega) (by omega) (by omega)]; exact hM.2.2.1 k k0 k1) (by
    rw [a9, a9, if_neg (by decide), if_pos rfl]
    have : jsum (fun s => if s = t then 0 else jtm (fr_no G 3 t) (N + 1) s) 4 = jsum (fun s => if s = t then 0 else jtm G N s) 4 := jsum_e 4 (fun i hi => by
      show (if (i : Int) = t then 0 else jtm (fr_no G 3 t) (N + 1) i) = (if (i : Int) = t then 0 else jtm G N i)
      by_cases e : (i : Int) = t
      · rw [if_pos e, if_pos e]
      · rw [if_neg e, if_neg e, tm i (by omega) (by omega) e])
    rw [this]
    omega) (by
    rw [a9, a9, a9, if_neg (by decide), if_neg (by decide), if_neg (by decide)]
    exact hM.2.2.2.2.1) ⟨by rw [a11]; have := hM.2.2.2.2.2.1; omega, ⟨(o 92 0 (by omega) (by omega) (by omega)).trans hM.2.2.2.2.2.2.1.1, fun j => (o 113 j (by omega) (by omega) (by omega)).trans (hM.2.2.2.2.2.2.1.2 j)⟩⟩ ht px ho
  have g1 : jk_g (fun n => jQ n ∨ jTn n) K K1 := a3.mono (fun n e => by unfold jA_S at e; unfold jQ; omega)
  have o2 := fun (n : Nat) (j : Int) => fr_cl_o (G := fr_no G 3 t) (t := t) (n := n) (j := j)
  have hl2 : jl_a (fr_no G 3 t) (fr_cl (fr_no G 3 t) t) ((N + 1 : Nat) : Int) := fun m j e => o2 m j (by omega)
  refine ⟨K2, ?_, g1.trans ((jk_g.s b2).mono (fun n e => Or.inr e)), b3, b4, fun hT => ?_, fun s s0 s1 hs => ?_, fun z => ?_, fun u u0 u1 hu hw => ?_, fun m j e => (o2 m j (by omega)).trans (a7 m j e), by rw [o2 98 _ (by decide), ← h12, is.2.1], by rw [o2 99 _ (by decide), ← h12, is.2.2.1]⟩
  · unfold fc96
    rw [a1, jo_bs]
    dsimp only
    rw [if_neg a2, b1, jo_bs]
  · refine jTr.fin (K := K1) (hT.s a3 hY.2.2.2.1.1 (by unfold jA_S; omega) (fun j => ⟨o 107 j (by omega) (by omega) (by omega), o 110 j (by omega) (by omega) (by omega), o 111 j (by omega) (by omega) (by omega)⟩)) ht b1
  · rw [hl2.t s (N + 1) (Int.le_refl _), a8 s s0 s1, if_neg hs]
  · rw [hl2.h z (N + 1) (Int.le_refl _), a10]
  · have c := jph_cl2 (G := fr_no G 3 t) (N := N + 1) (u := u) (by rw [a8 t ht.1 ht.2, if_pos rfl]) ht ⟨u0, u1⟩ hu (by rw [o 110 u (by omega) (by omega) (by omega)]; exact hw)
    have e3 : jsum (fun s => if s = t then 0 else jtm (fr_no G 3 t) (N + 1) s) 4 = jsum (fun s => if s = t then 0 else jtm G N s) 4 := jsum_e 4 (fun i hi => by
      show (if (i : Int) = t then 0 else jtm (fr_no G 3 t) (N + 1) i) = (if (i : Int) = t then 0 else jtm G N i)
      by_cases e : (i : Int) = t
      · rw [if_pos e, if_pos e]
      · rw [if_neg e, if_neg e, tm i (by omega) (by omega) e])
    have e4 : jbs (fr_no G 3 t) (N + 1) u = jbs G N u := by
      unfold jbs
      rw [a8 u u0 u1, if_neg hu, o 107 u (by omega) (by omega) (by omega)]
    rw [a9, a9, if_neg (by decide), if_pos rfl, e3, e4, tm u u0 u1 hu] at c
    omega
end En
/-! GOING BACK, for one transaction -/
theorem jt_is {G : jg_G} {t : Int} : ∀ n : Nat, 0 < jt G t n → G 99 (jt G t n) = t ∧ G 98 (jt G t n) ≠ 2 ∧ G 98 (jt G t n) ≠ 3
  | 0, h => absurd h (by show ¬ (0 : Int) < 0; decide)
  | n + 1, h => by
    have e : jt G t (n + 1) = if G 99 ((n : Int) + 1) = t then (if G 98 ((n : Int) + 1) = 2 ∨ G 98 ((n : Int) + 1) = 3 then 0 else (n : Int) + 1) else jt G t n := rfl
    rw [e] at h ⊢
    by_cases c : G 99 ((n : Int) + 1) = t
    · rw [if_pos c] at h ⊢
      by_cases c2 : G 98 ((n : Int) + 1) = 2 ∨ G 98 ((n : Int) + 1) = 3
      · rw [if_pos c2] at h; exact absurd h (by decide)
      · rw [if_neg c2]
        exact ⟨c, fun z => c2 (Or.inl z), fun z => c2 (Or.inr z)⟩
    · rw [if_neg c] at h ⊢
      exact jt_is n h
/-- a record of t that can be gone back to -/
def jch (G : jg_G) (N : Nat) (t : Int) (r : Nat) : Prop := r ≤ N ∧ (0 < r → G 99 r = t ∧ (G 98 r = 0 ∨ G 98 r = 1))
theorem jch.of {G : jg_G} {N n : Nat} {t : Int} (h : jLg G N) (hn : n ≤ N) (ht : 0 ≤ t) : ∃ r : Nat, jt G t n = r ∧ jch G N t r ∧ r ≤ n := by
  have b := jt_b G t n
  refine ⟨(jt G t n).toNat, by omega, ⟨by omega, fun z => ?_⟩, by omega⟩
  have e : (((jt G t n).toNat : Nat) : Int) = jt G t n := by omega
  obtain ⟨x1, x2, x3⟩ := jt_is (G := G) (t := t) n (by omega)
  rw [e]
  have j := h.1 (jt G t n).toNat (by omega) (by omega)
  have j1 := j.1
  have j2 := j.2.1
  rw [e] at j1 j2
  refine ⟨x1, ?_⟩
  by_cases z4 : 4 ≤ G 98 (jt G t n)
  · have := j2.2 z4
    omega
  · omega
theorem jch.ah {G : jg_G} {N r : Nat} {t : Int} (h : jLg G N) (ht : 0 ≤ t) (hr : 1 ≤ r) (hN : r ≤ N) (h99 : G 99 r = t) : ∃ r' : Nat, G 100 r = r' ∧ jch G N t r' ∧ r' < r := by
  have j := h.1 r hr hN
  have e := j.2.2.1
  rw [h99, if_neg (by omega)] at e
  obtain ⟨r', a, b, c⟩ := jch.of (n := r - 1) h (by omega) ht
  exact ⟨r', e.trans a, b, by omega⟩
theorem jpl_un {G : jg_G} {N r : Nat} (h : jLg G N) (hr : 1 ≤ r) (hN : r ≤ N) : jpl G N r = if G 98 r = 0 then jpl G N (G 100 r) + 1 else if G 98 r = 1 then jpl G N (G 100 (G 104 r)) else jpl G N (G 100 r) := by
  have j := h.1 r hr hN
  have a := j.ah hr
  obtain ⟨M, rfl⟩ : ∃ M, N = M + 1 := ⟨N - 1, by omega⟩
  have f := fun (y : Int) (hy : y ≤ M) => jpl_f h.1 M (M + 1) y hy (by omega) (by omega)
  show (if (r : Int) ≤ 0 then 0 else if G 98 r = 0 then jpl G M (G 100 r) + 1 else if G 98 r = 1 then jpl G M (G 100 (G 104 r)) else jpl G M (G 100 r)) = _
  rw [if_neg (by omega), f (G 100 r) (by omega)]
  by_cases k0 : G 98 r = 0
  · rw [if_pos k0, if_pos k0]
  · rw [if_neg k0, if_neg k0]
    by_cases k1 : G 98 r = 1
    · rw [if_pos k1, if_pos k1]
      obtain ⟨u, u1, u2, u3, u4, u5⟩ := j.2.2.2.2.1 k1
      have au := (h.1 u u2 (by omega)).ah u2
      rw [u1, f (G 100 u) (by omega)]
    · rw [if_neg k1, if_neg k1]
theorem fc93_o {K : jc_K} {v pl : Int} (hv : 0 ≤ v ∧ v < 4) (hn : 0 ≤ jc_i K 82 v) (ho : ∀ s, 0 ≤ s → s < 4 → s ≠ v → jc_i K 82 s = -1) : ∀ (m : Nat) (l f : Int), 0 ≤ l → l ≤ 4 → 4 < l + m → (l ≤ v → f = -1) → (v < l → f = v) → fc93_4 m K pl f l = some (K, v)
  | 0, l, f, h0, h1, h2, _, _ => by omega
  | m + 1, l, f, h0, h1, h2, h3, h4 => by
    unfold fc93_4
    by_cases e : 4 ≤ l
    · rw [if_pos e, h4 (by omega)]
    · rw [if_neg e, if_pos ⟨h0, by omega⟩]
      by_cases el : l = v
      · subst el
        rw [if_neg (by omega)]
        by_cases c : pl < jc_i K 82 l
        · rw [if_pos c, if_pos (h3 (Int.le_refl _)), if_pos (by omega)]
          exact fc93_o hv hn ho m (l + 1) l (by omega) (by omega) (by omega) (fun z => by omega) (fun _ => rfl)
        · rw [if_neg c]
      · rw [if_pos (ho l h0 (by omega) el), if_pos (by omega)]
        exact fc93_o hv hn ho m (l + 1) f (by omega) (by omega) (by omega) (fun z => h3 (by omega)) (fun z => h4 (by omega))
theorem fc93_n {K : jc_K} {pl : Int} (ho : ∀ s, 0 ≤ s → s < 4 → jc_i K 82 s = -1) : ∀ (m : Nat) (l : Int), 0 ≤ l → l ≤ 4 → 4 < l + m → fc93_4 m K pl (-1) l = some (K, -1)
  | 0, l, h0, h1, h2 => by omega
  | m + 1, l, h0, h1, h2 => by
    unfold fc93_4
    by_cases e : 4 ≤ l
    · rw [if_pos e]
    · rw [if_neg e, if_pos ⟨h0, by omega⟩, if_pos (ho l h0 (by omega)), if_pos (by omega)]
      exact fc93_n ho m (l + 1) (by omega) (by omega) (by omega)
