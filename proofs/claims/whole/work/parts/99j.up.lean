/-! ONE CALL MORE, WHERE NOTHING IS CALLED -/
theorem jIn.up {K : jc_K} {G : jg_G} {k k' : Nat} (h : jIn K G k) (hk : k ≤ k') : jIn K G k' := by
  refine ⟨h.1, ?_⟩
  rcases h.2 with ⟨h8, N, W, hW, hL⟩ | ⟨W, hW, hF, hM⟩
  · exact Or.inl ⟨h8, N, W, Nat.le_trans hW (by omega), hL.le hk hk (Nat.le_refl _)⟩
  · exact Or.inr ⟨W, Nat.le_trans hW (by omega), hF.le hk, hM.le hk (Nat.le_refl _)⟩
