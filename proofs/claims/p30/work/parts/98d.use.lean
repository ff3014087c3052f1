/-! A PAGE USED, A KEY FOUND, with all that holds -/
section Fs
variable {K K' : jc_K} {G G' : jg_G} {N x κ B : Nat} {W : jZW}
theorem jY.f {S : Nat → Prop} (h : jY K G N x) (hN : jN K' G' (fun p => jv G p N) N) (s : jk_s S K K') (hS : ∀ n, S n → n < 98 ∧ n ≠ 59 ∧ n ≠ 60 ∧ n ≠ 63) (w : jw_f G G') : jY K' G' N x := by
  have hv : (fun p => jv G' p N) = fun p => jv G p N := funext (fun p => w.l.v p N)
  refine ⟨by rw [hv]; exact hN, ⟨?_, h.2.1.2.s s (fun n hn z => by have := hS n z; omega) (w.l.a N)⟩, fun t t0 t1 => ?_, h.2.2.2.1.s s, h.2.2.2.2.s s⟩
  · rw [s.2 63 (fun z => (hS _ z).2.2.2 rfl)]; exact h.2.1.1
  · obtain ⟨a, b⟩ := h.2.2.1 t t0 t1
    rw [s.2 59 (fun z => (hS _ z).2.1 rfl), s.2 60 (fun z => (hS _ z).2.2.1 rfl), w.1 108 (by decide) (by decide), w.1 107 (by decide) (by decide), w.1 109 (by decide) (by decide)]
    exact ⟨a, b⟩
theorem jM.f (h : jM G N κ W B) (w : jw_f G G') (hP : jP G' ≤ jP G) : jM G' N κ W B := by
  obtain ⟨⟨m1, m2⟩, m3, m4, m5, m6, m7, m8, m9, m10⟩ := h
  have hl := w.l.a N
  refine ⟨⟨m1.a hl (Nat.le_refl _), m2.a hl w.2.2.2.2 (Nat.le_refl _)⟩, fun t t0 t1 => ?_, fun k k0 k1 => ?_, ?_, ?_, by omega, ⟨(w.2.2.1 0 (by decide) (by decide) (by decide) (by decide) (by decide) (by decide) (by decide)).trans m8.1, fun j => (w.1 113 (by decide) (by decide) j).trans (m8.2 j)⟩, m9.same hl w.2.2.2.1 (fun j => w.1 113 (by decide) (by decide) j), m10.up (fun t _ _ h => by rw [← w.1 107 (by decide) (by decide)]; exact h) (fun k _ _ => w.1 111 (by decide) (by decide) k) (fun y t _ _ _ _ h => by rw [hl.pp y t N (Int.le_refl _)] at h; exact h) (fun t _ _ _ h9 => by rw [w.1 109 (by decide) (by decide), hl.zn t N (Int.le_refl _)]; exact h9)⟩
  · rw [w.1 108 (by decide) (by decide), hl.t t N (Int.le_refl _)]; exact m3 t t0 t1
  · rw [w.1 111 (by decide) (by decide)]; exact m4 k k0 k1
  · have e : jph G' N = jph G N := by
      unfold jph
      rw [hl.cw 2 N (Int.le_refl _), hl.cw 3 N (Int.le_refl _)]
      congr 1
      refine jsum_e 4 (fun i hi => ?_)
      show (if 0 < jt G' i N then 2 else if G' 107 i = 1 then (if G' 110 i = -1 then 1 else 2) else 0) = _
      rw [hl.t i N (Int.le_refl _), w.1 107 (by decide) (by decide), w.1 110 (by decide) (by decide)]
    rw [e]; exact m5
  · rw [hl.cw 0 N (Int.le_refl _), hl.cw 5 N (Int.le_refl _), hl.cw 4 N (Int.le_refl _)]; exact m6
theorem jMf.fx (hM : jM G N κ W B) (hκ : κ ≤ 513) (hB : B ≤ 223) (h12 : G 92 12 = N) (hP : G' 92 3 ≤ jP G) (hx : jXf K' G' G) : jMf G' κ W B := by
  have hlen := hM.len hκ hB
  obtain ⟨⟨m1, m2⟩, m3, m4, m5, m6, m7, m8, m9, m10⟩ := hM
  obtain ⟨a, X, G1, e, b, c, d⟩ := hx
  have b92 : ∀ i, i ≠ 29 → G' 92 i = G1 92 i := fun i hi => b 92 i (by decide) (Or.inr hi)
  have g12 : G' 92 12 = X 92 13 := by rw [b92 12 (by decide), e]; simp [fr_fw, fr_fa, fr_fi, fr_f0, jg_u]
  have g13 : G' 92 13 = X 92 13 := by rw [b92 13 (by decide), e]; simp [fr_fw, fr_fa, fr_fi, fr_f0, jg_u]
  have x12 : X 92 12 = G 92 12 := c.2.2.1 12 (by decide) (by decide) (by decide) (by decide) (by decide) (by decide) (by decide)
  have h0 : 0 ≤ G' 92 13 := a.2.1.2.2.1.1
  have le : (G' 92 12).toNat ≤ N := by omega
  have hl : jl_a G G' (G' 92 12).toNat := fun m j e' => by
    rw [b m j (by omega) (Or.inl (by omega)), e]
    rw [(jl_s.fw X).a (G' 92 12).toNat m j e']
    exact c.l.a _ m j e'
  have hd : jd_m G G' := c.2.2.2.2.trans (jd_m.same (fun j _ _ => by rw [b 93 j (by decide) (Or.inl (by decide)), e]; exact (fr_fw_k X).2 93 (by decide) j))
  have c13 := c.2.2.2.1
  have h113 : ∀ j, G' 113 j = G 113 j := fun j => by rw [b 113 j (by decide) (Or.inl (by decide)), e, (fr_fw_k X).2 113 (by decide), c.1 113 (by decide) (by decide)]
  refine ⟨(G' 92 12).toNat, by omega, ⟨m1.a hl le, m2.a hl hd le⟩, ?_, ?_, by omega, ?_, m9.cut hl le (by omega) h113⟩
  · rw [hl.ph0 (Int.le_refl _)]
    have := jph0_mono (G := G) (n := (G' 92 12).toNat) (N - (G' 92 12).toNat) (fun r r0 r1 => m1.1 r r0 (by omega))
    rw [show (G' 92 12).toNat + (N - (G' 92 12).toNat) = N by omega] at this
    have := jph0_le G N
    omega
  · rw [hl.cw 0 _ (Int.le_refl _), hl.cw 5 _ (Int.le_refl _), hl.cw 4 _ (Int.le_refl _)]
    have a0 := jcw_mono2 G 0 le
    have a5 := jcw_mono2 G 5 le
    have a4 := jcw_mono2 G 4 le
    omega
  · refine ⟨?_, fun j => ?_⟩
    · rw [b92 0 (by decide), e, (fr_fw_k X).1 0 (by decide) (by decide) (by decide) (by decide), c.2.2.1 0 (by decide) (by decide) (by decide) (by decide) (by decide) (by decide) (by decide)]
      exact m8.1
    · rw [b 113 j (by decide) (Or.inl (by decide)), e, (fr_fw_k X).2 113 (by decide), c.1 113 (by decide) (by decide)]
      exact m8.2 j
theorem jE.fx {S : Nat → Prop} (hY : jY K G N x) (hM : jM G N κ W B) (hκ : κ ≤ 513) (hB : B ≤ 223) (s : jk_s S K K') (hS : ∀ n, S n → n < 98 ∧ n ≠ 63) (hx : jXf K' G' G) : jE K' G' x := by
  have h12 : G 92 12 = N := hY.1.2.1.2.2.1
  have := hM.len hκ hB
  exact jE.of hY.2.1.2 (by omega) (by omega) (by rw [hY.2.1.1]; omega) hY.2.2.2.1 hY.2.2.2.2 hM.2.2.1 s hS hx (fun f f0 f1 => (hY.1.2.2.1.2.1 f f0 f1).2.2.2)
theorem jM_use {p : Int} (hY : jY K G N x) (hM : jM G N κ W B) (hκ : κ ≤ 513) (hB : B ≤ 223) (hW : W.1 ≤ 2000000000) (hp : 0 ≤ p ∧ p < 24) : ∃ K' G' b, fc5 K p = some (K', b) ∧ fo168 G p = some (G', 0) ∧ jk_s jS_n K K' ∧ ((b = 1 ∧ jY K' G' N x ∧ jM G' N κ W B ∧ jw_s G G' ∧ 0 ≤ fr_fo G' p) ∨ (b = 0 ∧ jE K' G' x ∧ jMf G' κ W B)) := by
  have hN := hM.len hκ hB
  have hP := hM.2.2.2.2.2.1
  obtain ⟨K', G', b, a1, a2, a3, a4⟩ := jN_use hY.1 hp (by omega)
  have hS : ∀ n, jS_n n → n < 98 ∧ n ≠ 59 ∧ n ≠ 60 ∧ n ≠ 63 := fun n hn => by unfold jS_n at hn; omega
  refine ⟨K', G', b, a1, a2, a3, ?_⟩
  rcases a4 with ⟨e, y1, y2, y3, y4⟩ | ⟨e, y1, y2⟩
  · exact Or.inl ⟨e, hY.f y1 a3 hS y2.f, hM.f y2.f y3, y2, y4⟩
  · exact Or.inr ⟨e, jE.fx hY hM hκ hB a3 (fun n hn => by have := hS n hn; omega) y1.f, jMf.fx hM hκ hB hY.1.2.1.2.2.1 y2 y1.f⟩
theorem jM_find {key : Int} (hY : jY K G N x) (hM : jM G N κ W B) (hκ : κ ≤ 513) (hB : B ≤ 223) (hW : W.1 ≤ 2000000000) (hk : 0 ≤ key ∧ key < 32) (hz : ∀ q, 0 ≤ q → q < 24 → (jh G N q).1 = 2 → 0 < (jh G N q).2.1) : ∃ K' G' b, fc71 K key = some (K', b) ∧ fo175 G key = some (G', 0) ∧ jk_s jF_n K K' ∧ ((b = 1 ∧ jY K' G' N x ∧ jM G' N κ W B ∧ jw_f G G' ∧ ∃ L, jW K' G' N key L ∧ L < 24) ∨ (b = 0 ∧ jE K' G' x ∧ jMf G' κ W B)) := by
  have hN := hM.len hκ hB
  have hP := hM.2.2.2.2.2.1
  obtain ⟨lo, hi, rk, hT⟩ := hM.1.1.2.1 N (Nat.le_refl _)
  obtain ⟨K', G', b, a1, a2, a3, a4⟩ := jN_find (x := key) ⟨by omega, by omega⟩ hT.1 hz hY.1 (fun q => rfl) hY.2.2.2.1.1 hT.1.2.1 (by omega)
  have hS : ∀ n, jF_n n → n < 98 ∧ n ≠ 59 ∧ n ≠ 60 ∧ n ≠ 63 := fun n hn => by unfold jF_n jS_n at hn; omega
  refine ⟨K', G', b, a1, a2, a3, ?_⟩
  rcases a4 with ⟨e, y1, y2, y3, L, y4⟩ | ⟨e, y1, y2⟩
  · refine Or.inl ⟨e, hY.f y1 a3 hS y2, hM.f y2 y3, y2, L, y4, ?_⟩
    have hh : ∀ z, jh G' N z = jh G N z := fun z => y2.l.h N z
    obtain ⟨w1, w2, w3, w4, w5⟩ := y4
    refine jT_way (P := fun j => G' 112 j) (rk := rk) (fun j j0 j1 => (w2 j j0 j1).2) (fun j j0 j1 => ?_)
    obtain ⟨k2, k, kc, ke⟩ := w4 j j0 j1
    rw [hh] at k2 kc ke
    have := (hT.1.2.2.1 (G' 112 j) k ⟨(w2 j j0 (by omega)).2, k2, kc.1.1, kc.1.2⟩).2.1
    rw [show jT_c (fun z => jh G N z) (G' 112 j) k = G' 112 (j + 1) from ke] at this
    exact this
  · exact Or.inr ⟨e, jE.fx hY hM hκ hB a3 (fun n hn => by have := hS n hn; omega) y1, jMf.fx hM hκ hB hY.1.2.1.2.2.1 y2 y1⟩
end Fs
