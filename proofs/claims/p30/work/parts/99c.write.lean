/-! WRITE -/
section Wr
variable {K : jc_K} {G : jg_G} {N k : Nat} {W : jZW}
theorem jQXd : ∀ n, (3 ≤ n ∧ n < 57) ∨ n = 70 → jQX n := fun n e => by unfold jQX jQF jF_n jS_n; omega
theorem jwrite (hs : jSt K G N k W) (hk : k < 512) {a : Int} (ha : 0 ≤ a ∧ a < 24) : ∃ K' c G', fc116 K a = some (K', .inl c) ∧ ((c = -4 ∧ jSf K' G' (k + 1) (W.1, 0, W.2.2) ∧ G' 92 6 = 0) ∨ (0 ≤ c ∧ jSt K' G' N (k + 1) (W.1, 0, W.2.2) ∧ jzs G N G' N)) := by
  have hW : W.1 ≤ 2000000000 := by have := hs.2.2.1; omega
  have ca := hs.2.2.2.1.1.2.2.1
  have e2 := jk_fc2 ca ha.1
  have h7 : G 92 7 = 0 := hs.2.2.2.1.h7
  have f0 : jf6 G (jg_u G 92 0 0) := (jf6.refl G).u (Or.inr (by decide))
  have z0 : jzs G N (jg_u G 92 0 0) N := jzs.t0
  have hL := hs.2.2.2.t 0
  have r := fr_fo_r G a
  have st0 : fc116 K a = ((fc8 K a).bind fun x4 => if x4.2 = 0 then (some (x4.1, .inl (0))) else ((fc9 (x4.1) a).bind fun x7 => if x7.2 = 0 then ((fc140 (x7.1) (-4)).bind fun x10 => some (x10.1, .inl (x10.2))) else ((fc140 (x7.1) 1).bind fun x12 => some (x12.1, .inl (x12.2))))) := by
    unfold fc116
    rw [if_neg (by omega), if_pos ha.2, if_pos hs.2.1]
  rw [st0]
  by_cases c : fr_fo G a = -1
  · have e8 : fc8 K a = some (K, 0) := by
      unfold fc8
      rw [e2, jo_bs]
      dsimp only
      rw [if_pos (by omega)]
    rw [e8, jo_bs]
    dsimp only
    rw [if_pos rfl]
    exact ⟨K, 0, jg_u G 92 0 0, rfl, Or.inr ⟨by decide, hs.t0, z0⟩⟩
  have hf : 0 ≤ fr_fo G a ∧ fr_fo G a < 4 := ⟨by omega, r.2.1⟩
  have e95 : G 95 (fr_fo G a) = a := r.2.2 (by omega)
  obtain ⟨⟨u1, u2, u3⟩, _⟩ := ca.2.1 _ hf.1 hf.2
  have f97 : G 97 (fr_fo G a) = 0 ∨ 0 < G 97 (fr_fo G a) := by
    rcases (hs.2.2.2.1.1.2.2.2.1 _ hf.1 hf.2 (by rw [e95]; exact ha.1)).2.2.2 with z | ⟨d1, z, z1, _⟩
    · exact Or.inl z.1
    · exact Or.inr (by omega)
  have e8 : fc8 K a = if G 97 (fr_fo G a) ≤ 0 then some (K, 0) else some (K, 1) := by
    unfold fc8
    rw [e2, jo_bs]
    dsimp only
    rw [if_neg (by omega), if_neg (by omega), if_pos hf, u3]
  rw [e8]
  by_cases z : G 97 (fr_fo G a) = 0
  · rw [if_pos (show G 97 (fr_fo G a) ≤ 0 by omega), jo_bs]
    dsimp only
    rw [if_pos rfl]
    exact ⟨K, 0, jg_u G 92 0 0, rfl, Or.inr ⟨by decide, hs.t0, z0⟩⟩
  rw [if_neg (show ¬ G 97 (fr_fo G a) ≤ 0 by omega), jo_bs]
  dsimp only
  rw [if_neg (show ¬ (1 : Int) = 0 by decide)]
  generalize hfo : fr_fo G a = f at *
  have e95' : jg_u G 92 0 0 95 f = a := by rw [jg_uN (by decide)]; exact e95
  have e97' : 0 < jg_u G 92 0 0 97 f := by rw [jg_uN (by decide)]; omega
  generalize jg_u G 92 0 0 = G0 at *
  have hN := hL.2.1.len (by omega) (by decide)
  have m7 : jP G0 ≤ W.1 + 3 * N := hL.2.1.2.2.2.2.2.1
  have pge := jP_ge G0
  have wf : ∀ i, 0 ≤ i → i < 4 → 0 < G0 97 i → G0 92 3 + 1 ≤ jP G0 := fun i i0 i1 hi => by
    unfold jP
    obtain rfl | rfl | rfl | rfl : i = 0 ∨ i = 1 ∨ i = 2 ∨ i = 3 := by omega
    all_goals
      repeat' split
      all_goals omega
  obtain ⟨K1, G1, b1, r1, r2, r3, r4⟩ := jN_write hL.1.1 hf (by rw [e95']; exact ha.1) (by omega)
  have f1 : jf6 G G1 := f0.trans (f6_167 _ _ _ r2)
  rw [e95'] at r1
  have s1 : jk_s (fun n => (3 ≤ n ∧ n < 57) ∨ n = 70) K K1 := r3.mono (fun n e => Or.inl e)
  have s2 : jk_s (fun n => (3 ≤ n ∧ n < 57) ∨ n = 70) K (jc_ui K1 70 f 0) := s1.trans (jk_s.u (Or.inr rfl))
  have e9 : fc9 K a = if b1 = 0 then some (K1, 0) else some (jc_ui K1 70 f 0, 1) := by
    unfold fc9
    rw [e2, jo_bs]
    dsimp only
    rw [if_neg (by omega), if_pos hf.2, if_pos hf, r1, jo_bs]
  rw [e9]
  rcases r4 with ⟨eb, y, w, y95, y96, y97, y97', y3, y8⟩ | ⟨eb, X, y3⟩
  · have eP : jP G1 ≤ jP G0 := by
      have q0 := y97' 0
      have q1 := y97' 1
      have q2 := y97' 2
      have q3 := y97' 3
      unfold jP
      rw [y3]
      obtain rfl | rfl | rfl | rfl : f = 0 ∨ f = 1 ∨ f = 2 ∨ f = 3 := by omega
      · rw [y97, q1 (by decide), q2 (by decide), q3 (by decide), if_pos rfl, if_neg (show ¬ G0 97 0 = 0 by omega)]
        omega
      · rw [y97, q0 (by decide), q2 (by decide), q3 (by decide), if_pos (show (0 : Int) = 0 from rfl), if_neg (show ¬ G0 97 1 = 0 by omega)]
        omega
      · rw [y97, q0 (by decide), q1 (by decide), q3 (by decide), if_pos (show (0 : Int) = 0 from rfl), if_neg (show ¬ G0 97 2 = 0 by omega)]
        omega
      · rw [y97, q0 (by decide), q1 (by decide), q2 (by decide), if_pos (show (0 : Int) = 0 from rfl), if_neg (show ¬ G0 97 3 = 0 by omega)]
        omega
    have hY : jY (jc_ui K1 70 f 0) G1 N k := hL.1.f y s2 (fun n e => by omega) w.f
    have g : jk_g jQX K (jc_ui K1 70 f 0) := (jk_g.s s2).mono jQXd
    have hl : jl_a G0 G1 N := w.l.a N
    rw [if_neg (show ¬ b1 = 0 by omega), jo_bs]
    dsimp only
    rw [if_neg (show ¬ (1 : Int) = 0 by decide), jtold_a (show (1 : Int) ≠ -4 by decide), jo_bs]
    have z1 := jfinA (N' := N) hs g ((hL.f hY (hL.2.1.f w.f eP) (hL.2.2.1.same (fun z => hl.h z N (Int.le_refl _))) (jk_g.s s2) (by decide) w.f.tr (fun s _ _ _ => hl.t s N (Int.le_refl _))).le (Nat.le_refl _) (Nat.le_succ _) (Nat.le_refl _))
    exact ⟨_, 1, G1, rfl, Or.inr ⟨by decide, z1, z0.trans (jzs.f w.f)⟩⟩
  · have E : jE K1 G1 k := jE.fx hL.1 hL.2.1 (by omega) (by decide) s1 (fun n e => by omega) X.f
    have M : jMf G1 k (W.1, 0, W.2.2) 223 := jMf.fx hL.2.1 (by omega) (by decide) hL.1.h12 (by have := wf f hf.1 hf.2 e97'; omega) X.f
    rw [if_pos eb, jo_bs]
    dsimp only
    rw [if_pos rfl]
    obtain ⟨K2, z1, z2⟩ := jfinF hs ((jk_g.s s1).mono jQXd) E (M.le (Nat.le_succ _) (Nat.le_refl _)) (fun j j0 j1 => by
      rw [s1.2 62 (by decide), (hL.2.2.2.1.2 j j0 j1).1]
      exact (hL.2.2.2.1.2 j j0 j1).2)
    rw [z1, jo_bs]
    exact ⟨K2, -4, G1, rfl, Or.inl ⟨rfl, z2, f1.2.1 h7 E.h7⟩⟩
end Wr
