/-! A RECORD BUILT IS DONE -/
theorem jB.done {K : jc_K} {G : jg_G} {N x q : Nat} (h : jB K G N x q) (hr : jg_rec K G ((N : Int) + 1) q) (hv : jl_v G (N + 1)) (hP : jP G + G 105 ((N : Int) + 1) < 2147483647) : ∃ K' G' b, fc80 K (jc_i K 63 4) = some (K', b) ∧ fo174 G ((N : Int) + 1) = some (G', 0) ∧ jk_s jS_n K K' ∧ ((b = 1 ∧ jY K' G' (N + 1) x ∧ jw_s G G' ∧ jP G' ≤ jP G + G 105 ((N : Int) + 1)) ∨ (b = 0 ∧ jX K' G' G ∧ G' 92 3 ≤ jP G + G 105 ((N : Int) + 1))) := by
  obtain ⟨⟨n1, n2⟩, ⟨z1, z2⟩, lt, ⟨d1, d2⟩, ⟨q1, q2⟩, hN⟩ := h
  have ec : (((N + 1 : Nat) : Nat) : Int) = (N : Int) + 1 := by omega
  have nn : jN K G (fun p => jv G p N) (N + 1) := by
    refine n1.ref (by omega) (by omega) (by rw [n2]; omega) (fun i hi => ?_) (fun n hn j => ?_) (fun j hj => ?_) (fun m j e => ?_)
    · rw [jg_uI (by omega)]
    · rw [jg_uN (by omega)]
    · rw [jg_uN (by decide)]
    · rw [jg_uN (by omega)]
  have nj : jN K G (jcp G (N + 1) 0) (N + 1) := by rw [jcp_0]; exact nn
  have h3 : G 105 ((N : Int) + 1) ≤ 3 := by have := hv.2.1.2; rw [ec] at this; exact this
  have h0 : 0 ≤ G 105 ((N : Int) + 1) := by have := hv.2.1.1; rw [ec] at this; exact this
  obtain ⟨K', G', b, y1, y2, y3, y4⟩ := jN_perform (r := N + 1) (q := q) (by omega) jo_N 0 K G nj (by rw [ec]; exact hr) hv (Int.le_refl _) (by rw [ec]; exact h0) (by rw [ec]; unfold jo_N; omega) (by rw [ec]; omega)
  rw [ec] at y1 y2 y4
  refine ⟨K', G', b, ?_, y2, y3, ?_⟩
  · unfold fc80 fc19
    rw [z1, if_neg (by omega), if_neg (by omega), if_neg (by omega), if_pos ⟨by omega, by omega⟩, jo_lne, show (N : Int) + 1 - 1 = N by omega, q1, jo_bs]
    dsimp only
    have q120 := q2.1.1
    rw [if_neg (by omega)]
    exact y1
  · rcases y4 with ⟨e, a, b', c⟩ | ⟨e, a, c⟩
    · refine Or.inl ⟨e, ⟨?_, ⟨?_, ?_⟩, fun t t0 t1 => ?_, d1.s y3, d2.s y3⟩, b', by omega⟩
      · rw [show (fun p => jv G' p (N + 1)) = fun p => jv G p (N + 1) from funext fun p => b'.l.v p (N + 1)]
        exact a
      · rw [y3.2 63 (by unfold jS_n; omega), z1, ec]
      · have hS : ∀ n, 98 ≤ n → ¬ jS_n n := fun n hn z => by unfold jS_n at z; omega
        have zz := z2.s y3 hS (b'.l.a N)
        intro r r1 r2
        by_cases er : r ≤ N
        · exact zz r r1 er
        · have er' : r = N + 1 := by omega
          subst er'
          rw [show ((N + 1 : Nat) : Int) - 1 = N by omega, show jc_p K' 64 N = q by unfold jc_p; rw [y3.1.2.2]; exact q1]
          refine ⟨?_, hv.a (b'.l.a _) (by omega)⟩
          rw [ec]
          exact hr.s y3 hS (b'.l.a _) (by omega) h3
      · rw [y3.2 59 (by unfold jS_n; omega), y3.2 60 (by unfold jS_n; omega), b'.1 108 (by decide), b'.1 109 (by decide), b'.1 107 (by decide)]
        exact lt t t0 t1
    · exact Or.inr ⟨e, a, by omega⟩
