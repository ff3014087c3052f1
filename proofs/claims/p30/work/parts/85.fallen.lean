/-! FALLEN, class and reference, ahead of the class's own fall -/
def jE (K : jc_K) (G : jg_G) (x : Nat) : Prop := (jdc K G (G 92 13) ∧ jdn K G ∧ jb_r (G 92 5)) ∧ (G 92 7 = 1 ∧ G 92 12 = G 92 13 ∧ G 92 8 = 0 ∧ (∀ f, 0 ≤ f → f < 4 → G 95 f = -1 ∧ G 96 f = 0 ∧ G 97 f = 0) ∧ (∀ t, 0 ≤ t → t < 4 → G 107 t = 0 ∧ G 108 t = 0 ∧ G 109 t = 0 ∧ G 110 t = -1) ∧ ∀ k, 0 ≤ k → k < 32 → G 111 k = -1) ∧ (jZ K G (G 92 13).toNat ∧ G 92 13 ≤ jc_i K 63 4 ∧ G 92 13 ≤ 1100) ∧ jD K ∧ jR K x ∧ ∀ f : Int, 0 ≤ f → f < 4 → jc_pg K (71 + 2 * f.toNat)
theorem fr_fw_is {X : jg_G} (hh : ∀ k, 0 ≤ k → k < 32 → -1 ≤ X 111 k ∧ X 111 k < 4) : fr_fw X 92 12 = X 92 13 ∧ fr_fw X 92 13 = X 92 13 ∧ fr_fw X 92 8 = 0 ∧ (∀ f, 0 ≤ f → f < 4 → fr_fw X 95 f = -1 ∧ fr_fw X 96 f = 0 ∧ fr_fw X 97 f = 0) ∧ (∀ t, 0 ≤ t → t < 4 → fr_fw X 107 t = 0 ∧ fr_fw X 108 t = 0 ∧ fr_fw X 109 t = 0 ∧ fr_fw X 110 t = -1) ∧ ∀ k, 0 ≤ k → k < 32 → fr_fw X 111 k = -1 := by
  refine ⟨by simp [fr_fw, fr_fa, fr_fi, fr_f0, jg_u], by simp [fr_fw, fr_fa, fr_fi, fr_f0, jg_u], by simp [fr_fw, fr_fa, fr_fi, fr_f0, jg_u], fun f f0 f1 => ⟨?_, ?_, ?_⟩, fun t t0 t1 => ⟨?_, ?_, ?_, ?_⟩, fun k k0 k1 => ?_⟩
  · simp [fr_fw, fr_fa, fr_fi, fr_f0, jg_u, f0, f1]
  · simp [fr_fw, fr_fa, fr_fi, fr_f0, jg_u, f0, f1]
  · simp [fr_fw, fr_fa, fr_fi, fr_f0, jg_u, f0, f1]
  · simp [fr_fw, fr_fa, fr_fi, fr_f0, jg_u, t0, t1]
  · simp [fr_fw, fr_fa, fr_fi, fr_f0, jg_u, t0, t1]
  · simp [fr_fw, fr_fa, fr_fi, fr_f0, jg_u, t0, t1]
  · simp [fr_fw, fr_fa, fr_fi, fr_f0, jg_u, t0, t1]
  · have := hh k k0 k1
    simp [fr_fw, fr_fa, fr_fi, fr_f0, jg_u, k0, k1]
    omega
theorem jE.of {K K' : jc_K} {G G' : jg_G} {M x : Nat} {S : Nat → Prop} (hz : jZ K G M) (hM : G 92 12 ≤ M) (hM2 : M ≤ 1100) (h63 : G 92 12 ≤ jc_i K 63 4) (hD : jD K) (hR : jR K x) (hh : ∀ k, 0 ≤ k → k < 32 → -1 ≤ G 111 k ∧ G 111 k < 4) (s : jk_s S K K') (hS : ∀ n, S n → n < 98 ∧ n ≠ 63) (h : jXf K' G' G) (hf : ∀ f : Int, 0 ≤ f → f < 4 → jc_pg K (71 + 2 * f.toNat)) : jE K' G' x := by
  obtain ⟨a, X, G1, e, b, c, d⟩ := h
  have hX : ∀ k, 0 ≤ k → k < 32 → -1 ≤ X 111 k ∧ X 111 k < 4 := fun k k0 k1 => by rw [c.1 111 (by decide) (by decide)]; exact hh k k0 k1
  obtain ⟨f1, f2, f3, f4, f5, f6⟩ := fr_fw_is hX
  rw [← e] at f1 f2 f3 f4 f5 f6
  have x12 : X 92 12 = G 92 12 := c.2.2.1 12 (by decide) (by decide) (by decide) (by decide) (by decide) (by decide) (by decide)
  have b92 : ∀ i, i ≠ 29 → G' 92 i = G1 92 i := fun i hi => b 92 i (by decide) (Or.inr hi)
  have g13 : G' 92 13 = X 92 13 := (b92 13 (by decide)).trans f2
  have hl : jl_a G G' (G' 92 13).toNat := fun m j e' => by
    rw [b m j (by omega) (Or.inl (by omega)), e]
    rw [(jl_s.fw X).a (G' 92 13).toNat m j e']
    exact c.l.a _ m j e'
  have h0 : 0 ≤ G' 92 13 := a.2.1.2.2.1.1
  refine ⟨a, ⟨?_, ?_, ?_, fun f f0 f1 => ?_, fun t t0 t1 => ?_, fun k k0 k1 => ?_⟩, ⟨?_, ?_, by omega⟩, hD.s s, hR.s s, fun f f0 f1 => s.pg (hf f f0 f1)⟩
  · rw [b92 7 (by decide), e]; exact fr_fw7 X
  · rw [b92 12 (by decide), f1, g13]
  · rw [b92 8 (by decide), f3]
  · rw [b 95 f (by decide) (Or.inl (by decide)), b 96 f (by decide) (Or.inl (by decide)), b 97 f (by decide) (Or.inl (by decide))]; exact f4 f f0 f1
  · rw [b 107 t (by decide) (Or.inl (by decide)), b 108 t (by decide) (Or.inl (by decide)), b 109 t (by decide) (Or.inl (by decide)), b 110 t (by decide) (Or.inl (by decide))]; exact f5 t t0 t1
  · rw [b 111 k (by decide) (Or.inl (by decide))]; exact f6 k k0 k1
  · have zz : jZ K G (G' 92 13).toNat := fun r r1 r2 => hz r r1 (by omega)
    exact zz.s s (fun n hn z => by have := hS n z; omega) hl
  · rw [s.2 63 (fun z => (hS _ z).2 rfl)]; omega
/-- the class's own things change in a record in building -/
theorem jB.s {K K' : jc_K} {G G' : jg_G} {N x q : Nat} {S : Nat → Prop} (h : jB K G N x q) (s : jk_s S K K') (hS : ∀ n, S n → jo_w K N n) (g : jr_b G G' ((N : Int) + 1)) : jB K' G' N x q := by
  have pp : ∀ n j, jc_p K' n j = jc_p K n j := fun n j => by unfold jc_p; rw [s.1.2.2]
  refine h.step ⟨(jk_g.s s).mono hS, fun n hn => Or.inl ?_⟩ (h.2.2.2.1.1.s s) (h.2.2.2.1.2.s s) (s.rc h.2.2.2.2.1.2) g
  unfold jo_w at *
  simp only [pp] at hn
  exact hn
theorem jB.own {K : jc_K} {G : jg_G} {N x q : Nat} (h : jB K G N x q) : jo_w K N q ∧ jo_w K N (q + 1) ∧ jo_w K N (q + 2) := by
  have e := h.2.2.2.2.1.1
  have q120 := h.2.2.2.2.1.2.1.1
  exact ⟨⟨by omega, Or.inl (Or.inl e.symm)⟩, ⟨by omega, Or.inl (Or.inr (Or.inl (by rw [e])))⟩, ⟨by omega, Or.inl (Or.inr (Or.inr (by rw [e])))⟩⟩
