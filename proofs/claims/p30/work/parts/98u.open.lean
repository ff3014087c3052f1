/-! CALLS OF TRANSACTIONS: ends of calls; open, place -/
def jQX (n : Nat) : Prop := jQA n ∨ jQF n
theorem jQX_n : ¬ jQX 2 ∧ ¬ jQX 85 := by
  constructor <;> (intro h; unfold jQX jQA jQU jQB jQF jF_n jQ jS_n jTn at h; omega)
def jSt (K : jc_K) (G : jg_G) (N k : Nat) (W : jZW) : Prop := jPs K G ∧ jc_i K 2 8 = 0 ∧ W.1 ≤ 9000 * k ∧ jLv K G N k k W 223
/-- fallen -/
def jSf (K : jc_K) (G : jg_G) (k : Nat) (W : jZW) : Prop := jPs K G ∧ W.1 ≤ 9000 * k ∧ jFl K G k ∧ jMf G k W 223
section Fi
variable {K K' : jc_K} {G G' : jg_G} {N N' k : Nat} {W : jZW}
theorem jfinA (hs : jSt K G N k W) (g : jk_g jQX K K') (h : jLv K' G' N' k (k + 1) (W.1, 0, W.2.2) 223) : jSt K' G' N' (k + 1) (W.1, 0, W.2.2) := by
  obtain ⟨h1, h2, h3, h4⟩ := hs
  have n120 : 98 ≤ K.1.1 := h4.1.2.2.2.1.1
  have gz := h.2.1.2.2.2.2.2.2.1
  have gz0 := h4.2.1.2.2.2.2.2.2.1
  refine ⟨fun j j0 j1 => ?_, ?_, by show W.1 ≤ _; omega, h.le (by omega) (Nat.le_refl _) (Nat.le_refl _)⟩
  · rw [g.2.2.2 85 j (by omega) jQX_n.2, gz.2 j, h1 j j0 j1]
    exact gz0.2 j
  · rw [g.2.2.2 2 8 (by omega) jQX_n.1]; exact h2
theorem jfinF (hs : jSt K G N k W) (g : jk_g jQX K K') (hE : jE K' G' k) (hM : jMf G' (k + 1) (W.1, 0, W.2.2) 223) (h62 : ∀ k, 0 ≤ k → k < 32 → -1 ≤ jc_i K' 62 k ∧ jc_i K' 62 k < 4) : ∃ K2, fc140 K' (-4) = some (K2, -4) ∧ jSf K2 G' (k + 1) (W.1, 0, W.2.2) := by
  obtain ⟨h1, h2, h3, h4⟩ := hs
  have n120 : 98 ≤ K.1.1 := h4.1.2.2.2.1.1
  have gz0 := h4.2.1.2.2.2.2.2.2.1
  have gz : jgz (W.1, 0, W.2.2) G' := by
    obtain ⟨n, _, _, _, _, _, f, _⟩ := hM
    exact f
  obtain ⟨K2, a1, a2, a3⟩ := jtold_f hE h62
  refine ⟨K2, a1, fun j j0 j1 => ?_, by show W.1 ≤ _; omega, a2.le (by omega), hM⟩
  rw [a3, g.2.2.2 85 j (by omega) jQX_n.2, gz.2 j, h1 j j0 j1]
  exact gz0.2 j
/-- committed values stay -/
theorem jSt.v (hs : jSt K G N k W) : ∀ j, G 113 j = W.2.2 j := hs.2.2.2.2.1.2.2.2.2.2.2.1.2
theorem jSf.v (hs : jSf K G k W) : ∀ j, G 113 j = W.2.2 j := by
  obtain ⟨_, _, _, n, _, _, _, _, _, f, _⟩ := hs
  exact f.2
theorem jSt.t {t : Int} (hs : jSt K G N k W) (ht : 0 ≤ t ∧ t < 4) : jc_i K 58 t = G 107 t ∧ (G 107 t = 0 ∨ G 107 t = 1) := ⟨(hs.2.2.2.2.2.2.1.1 t ht.1 ht.2).1, (hs.2.2.2.2.2.2.1.1 t ht.1 ht.2).2.1⟩
theorem jwt_e (h : jWt G) (hg : ∀ j, G' 107 j = G 107 j ∧ G' 110 j = G 110 j ∧ G' 111 j = G 111 j) : jWt G' := by
  obtain ⟨⟨a, b⟩, ρ, c⟩ := h
  refine ⟨⟨fun k k0 k1 h0 => ?_, fun s s0 s1 h0 => ?_⟩, ρ, fun s s0 s1 h0 => ?_⟩
  · rw [(hg k).2.2] at h0 ⊢
    rw [(hg _).1]; exact a k k0 k1 h0
  · rw [(hg s).2.1] at h0 ⊢
    rw [(hg s).1, (hg _).1]; exact b s s0 s1 h0
  · rw [(hg s).2.1] at h0 ⊢
    exact c s s0 s1 h0
theorem jV.tr {M : Nat} (h : jV G G' N M) : ∀ j, G' 107 j = G 107 j ∧ G' 110 j = G 110 j ∧ G' 111 j = G 111 j := fun j => ⟨h.2.2.1 107 (by decide) j, h.2.2.1 110 (by decide) j, h.2.2.1 111 (by decide) j⟩
end Fi
theorem jt1 {t : Int} (h1 : ¬ t < 0) (h2 : t < 4) : 0 ≤ t ∧ t < 4 := ⟨by omega, h2⟩
