/-! WHAT A LOOK MAY WRITE: the committed keys, the walk's things -/
section
variable {K K' : jc_K} {G G' : jg_G} {k : Nat}
theorem jLv.v {N x κ B : Nat} {W : jZW} (h : jLv K G N x κ W B) (hg : ∀ n, ¬ (n = 112 ∨ 114 ≤ n) → ∀ j, G' n j = G n j) : jLv K G' N x κ W B := by
  obtain ⟨hY, hM, hz, hT, ⟨hWo, ρ, hρ⟩, hcl⟩ := h
  have hg2 : ∀ n j, ¬ (n = 110 ∨ n = 111 ∨ (n = 92 ∧ j = 0) ∨ 112 ≤ n) → G' n j = G n j := fun n j h => hg n (by omega) j
  have hl : jl_a G G' N := fun m j e => hg m (by omega) j
  have n : ∀ n, n < 112 ∨ n = 113 → ∀ j, G' n j = G n j := fun n hn j => hg n (by omega) j
  have ph : jph G' N = jph G N := by
    rw [jph_tm, jph_tm, hl.cw 2 N (Int.le_refl _), hl.cw 3 N (Int.le_refl _)]
    congr 1
    refine jsum_e 4 (fun i hi => ?_)
    unfold jtm
    rw [hl.t _ N (Int.le_refl _), n 107 (by decide), n 110 (by decide)]
  refine ⟨hY.g hg2, hM.g hg2 (fun k k0 k1 => by rw [n 111 (by decide)]; exact hM.2.2.1 k k0 k1) (by rw [ph]; exact hM.2.2.2.1) ⟨(n 92 (by decide) 0).trans hM.2.2.2.2.2.2.1.1, fun j => (n 113 (by decide) j).trans (hM.2.2.2.2.2.2.1.2 j)⟩ (Nat.le_refl _) (fun _ _ _ => n 113 (by decide) _) (fun _ _ _ _ _ _ _ _ h => by rw [n 111 (by decide)]; exact h), hz.same (fun z => hl.h z N (Int.le_refl _)), ⟨fun s s0 s1 => ?_, fun k k0 k1 => ?_⟩, ⟨⟨fun k k0 k1 h0 => ?_, fun s s0 s1 h0 => ?_⟩, ρ, fun s s0 s1 h0 => ?_⟩, fun s s0 s1 h0 => ?_⟩
  · rw [n 107 (by decide), n 110 (by decide)]; exact hT.1 s s0 s1
  · rw [n 111 (by decide)]; exact hT.2 k k0 k1
  · rw [n 111 (by decide)] at h0 ⊢
    rw [n 107 (by decide)]; exact hWo.1 k k0 k1 h0
  · rw [n 110 (by decide)] at h0 ⊢
    rw [n 107 (by decide), n 107 (by decide)]; exact hWo.2 s s0 s1 h0
  · rw [n 110 (by decide)] at h0 ⊢
    exact hρ s s0 s1 h0
  · rw [n 107 (by decide)] at h0
    rw [hl.t s N (Int.le_refl _)]; exact hcl s s0 s1 h0
def jSw (n : Nat) : Prop := n = 65 ∨ (86 ≤ n ∧ n < 92)
theorem jIn.w (h : jIn K G k) (s : jk_s jSw K K') (hg : ∀ n, ¬ (n = 112 ∨ 114 ≤ n) → ∀ j, G' n j = G n j) : jIn K' G' k := by
  have ki : ∀ n, ¬ (n = 65 ∨ (86 ≤ n ∧ n < 92)) → ∀ i, jc_i K' n i = jc_i K n i := fun n hn i => s.2 n hn i
  refine ⟨fun j j0 j1 => by rw [ki 85 (by decide), hg 113 (by decide)]; exact h.1 j j0 j1, ?_⟩
  rcases h.2 with ⟨h8, N, W, hW, hL⟩ | ⟨W, hW, hF, hM⟩
  · have n120 : 98 ≤ K.1.1 := hL.1.2.2.2.1.1
    have hY1 : jY K' G N k := hL.1.f (hL.1.1.grow (jk_g.s s) (fun n e z => by unfold jN_k at e; unfold jSw at z; omega) n120) s (fun n e => by unfold jSw at e; omega) (jw_f.refl G)
    have hL1 : jLv K' G N k k W 223 := hL.f hY1 hL.2.1 hL.2.2.1 (jk_g.s s) ⟨by unfold jSw; omega, by unfold jSw; omega, by unfold jSw; omega⟩ (fun _ => ⟨rfl, rfl, rfl⟩) (fun _ _ _ _ => rfl)
    exact Or.inl ⟨(ki 2 (by decide) 8).trans h8, N, W, hW, hL1.v hg⟩
  · obtain ⟨f1, f2, f3, f4, f5, f6, f7⟩ := hF
    have hg2 : ∀ n j, ¬ ((n = 92 ∧ j = 0) ∨ 112 ≤ n) → G' n j = G n j := fun n j e => hg n (by omega) j
    have h63 : G 92 13 ≤ jc_i K' 63 4 := by
      rw [ki 63 (by decide)]
      exact f1.2.2.1.2.1
    have e1 : jE K' G' k := (f1.s s (fun n e => by unfold jSw at e; omega) h63).g hg2
    refine Or.inr ⟨W, hW, ⟨e1, (ki 2 (by decide) 8).trans f2, by rw [ki 63 (by decide), hg 92 (by decide)]; exact f3, fun f f0 f1 => by rw [ki 68 (by decide), ki 69 (by decide), ki 70 (by decide)]; exact f4 f f0 f1, by rw [ki 66 (by decide)]; exact f5, fun t t0 t1 => by rw [ki 58 (by decide), ki 59 (by decide), ki 61 (by decide)]; exact f6 t t0 t1, fun k k0 k1 => by rw [ki 62 (by decide)]; exact f7 k k0 k1⟩, hM.g hg2 ?_ (Nat.le_refl _) (fun _ _ _ => hg 113 (by decide) _)⟩
    obtain ⟨n, _, _, _, _, _, f, _⟩ := hM
    exact ⟨(hg 92 (by decide) 0).trans f.1, fun j => (hg 113 (by decide) j).trans (f.2 j)⟩
/-- what the log is, alive or fallen: M records stand, D of them durable -/
theorem jIn.log (h : jIn K G k) : ∃ M : Nat, G 92 12 = M ∧ M ≤ 1100 ∧ jc_i K 63 4 = M ∧ jZ K G M ∧ jLg G M ∧ 0 ≤ G 92 13 ∧ G 92 13 ≤ M ∧ jc_i K 3 8 = G 92 13 := by
  have hv := h.view.1.1
  rcases h.2 with ⟨h8, N, W, hW, hL⟩ | ⟨W, hW, hF, hM⟩
  · have hN := hL.1.1
    exact ⟨N, hN.2.1.2.2.1, hN.2.1.2.2.2.1, hL.1.2.1.1, hL.1.2.1.2, hL.2.1.1.1, hN.1.2.1.2.2.1.1, hN.2.1.2.2.2.2, hv⟩
  · obtain ⟨n, a, ⟨b1, _⟩, _⟩ := hM
    obtain ⟨f1, f2, f3, _⟩ := hF
    have e : G 92 12 = G 92 13 := f1.2.1.2.1
    have en : (G 92 13).toNat = n := by omega
    have z := f1.2.2.1.1
    rw [en] at z
    have := f1.2.2.1.2.2
    exact ⟨n, a, by omega, by rw [f3]; exact a, z, b1, by omega, by omega, hv⟩
theorem jSt.w {N : Nat} {W : jZW} (h : jSt K G N k W) (s : jk_s jSw K K') : jSt K' G N k W := by
  have ki : ∀ n, ¬ (n = 65 ∨ (86 ≤ n ∧ n < 92)) → ∀ i, jc_i K' n i = jc_i K n i := fun n hn i => s.2 n hn i
  obtain ⟨hP, h8, hW, hL⟩ := h
  have n120 : 98 ≤ K.1.1 := hL.1.2.2.2.1.1
  have hY1 : jY K' G N k := hL.1.f (hL.1.1.grow (jk_g.s s) (fun n e z => by unfold jN_k at e; unfold jSw at z; omega) n120) s (fun n e => by unfold jSw at e; omega) (jw_f.refl G)
  exact ⟨fun j j0 j1 => by rw [ki 85 (by decide)]; exact hP j j0 j1, (ki 2 (by decide) 8).trans h8, hW, hL.f hY1 hL.2.1 hL.2.2.1 (jk_g.s s) ⟨by unfold jSw; omega, by unfold jSw; omega, by unfold jSw; omega⟩ (fun _ => ⟨rfl, rfl, rfl⟩) (fun _ _ _ _ => rfl)⟩
end
