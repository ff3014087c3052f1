/-! ONE TRANSACTION UNDONE, or gone back with -/
def jQA (n : Nat) : Prop := jQU n ∨ jTn n
theorem jk_fc90_l (v : Int) (hv : 0 ≤ v ∧ v < 4) : ∀ (m : Nat) (l : Int) (K : jc_K), 0 ≤ l → l ≤ 4 → 4 < l + m → (∀ s, 0 ≤ s → s < l → jc_i K 82 s = if s = v then jc_i K 59 v else -1) → ∃ K', fc90_2 m K v l = some (K', 0) ∧ jk_s (fun n => n = 82) K K' ∧ ∀ s, 0 ≤ s → s < 4 → jc_i K' 82 s = if s = v then jc_i K 59 v else -1
  | 0, l, K, h0, h1, h2, _ => by omega
  | m + 1, l, K, h0, h1, h2, h3 => by
    unfold fc90_2
    by_cases e : 4 ≤ l
    · rw [if_pos e]
      exact ⟨K, rfl, jk_s.refl, fun s s0 s1 => h3 s s0 (by omega)⟩
    · rw [if_neg e]
      have st : ∀ w : Int, w = (if l = v then jc_i K 59 v else -1) → ∃ K', fc90_2 m (jc_ui K 82 l w) v (l + 1) = some (K', 0) ∧ jk_s (fun n => n = 82) K K' ∧ ∀ s, 0 ≤ s → s < 4 → jc_i K' 82 s = if s = v then jc_i K 59 v else -1 := fun w hw => by
        obtain ⟨K', a1, a2, a3⟩ := jk_fc90_l v hv m (l + 1) (jc_ui K 82 l w) (by omega) (by omega) (by omega) (fun s s0 s1 => by
          rw [jc_uN (n := 82) (m := 59) (by decide)]
          by_cases z : s = l
          · rw [z, jc_uH, hw]
          · rw [jc_uI z]; exact h3 s s0 (by omega))
        exact ⟨K', a1, (jk_s.u (S := fun n => n = 82) rfl).trans a2, fun s s0 s1 => by rw [a3 s s0 s1, jc_uN (n := 82) (m := 59) (by decide)]⟩
      by_cases c : l = v
      · rw [if_pos c, if_pos ⟨h0, by omega⟩, if_pos (by omega)]
        exact st _ (by rw [if_pos c, c])
      · rw [if_neg c, if_pos ⟨h0, by omega⟩, if_pos (by omega)]
        exact st _ (by rw [if_neg c])
theorem jk_fc90 {K : jc_K} {v : Int} (hv : 0 ≤ v ∧ v < 4) : ∃ K', fc90 K v = some (K', 0) ∧ jk_s (fun n => n = 82) K K' ∧ ∀ s, 0 ≤ s → s < 4 → jc_i K' 82 s = if s = v then jc_i K 59 v else -1 := by
  unfold fc90
  exact jk_fc90_l v hv jo_N 0 K (by decide) (by decide) (by unfold jo_N; omega) (fun s s0 s1 => by omega)
/-- what an end changes of open, waits and holders -/
def jcl (G G' : jg_G) (v : Int) : Prop := (∀ s, 0 ≤ s → s < 4 → G' 107 s = if s = v then 0 else G 107 s) ∧ (∀ s, 0 ≤ s → s < 4 → G' 110 s = if s = v ∨ G 110 s = v then -1 else G 110 s) ∧ ∀ k, 0 ≤ k → k < 32 → G' 111 k = if G 111 k = v then -1 else G 111 k
theorem jtm_of {G G' : jg_G} {N N' : Nat} {s : Int} (h1 : 0 < jt G s N → 0 < jt G' s N') (h2 : G' 107 s = G 107 s) (h3 : G' 110 s = G 110 s) : jtm G N s ≤ jtm G' N' s := by
  unfold jtm
  rw [h2, h3]
  by_cases e : 0 < jt G s N
  · rw [if_pos e, if_pos (h1 e)]
    exact Nat.le_refl _
  · rw [if_neg e]
    by_cases e2 : 0 < jt G' s N'
    · rw [if_pos e2]
      split
      · split <;> decide
      · decide
    · rw [if_neg e2]
      exact Nat.le_refl _
section Ua
variable {K : jc_K} {G : jg_G} {N x κ B : Nat} {W : jZW} {v : Int}
theorem jgb0 (hY : jY K G N x) (hM : jM G N κ W B) (hκ : κ ≤ 513) (hB : B ≤ 223) (hW : W.1 ≤ 2000000000) (hz : jT_z (fun z => jh G N z)) (hv : 0 ≤ v ∧ v < 4) {pl : Int} (hpl : 0 ≤ pl) (l2 : Int) : ∃ K0, fc90 K v = some (K0, 0) ∧ ((∃ (K' : jc_K) (G' : jg_G) (N' m2 : Nat) (i2 : Int) (r' : Nat) (n' : Int), fc92 K0 pl l2 = fc92_s m2 7 K' pl l2 i2 0 0 0 0 ∧ fo187 G v pl = some (G', n') ∧ (100 ≤ m2 ∧ 0 ≤ i2 ∧ i2 ≤ 1000) ∧ (jc_i K' 82 v = r' ∧ r' ≤ pl ∧ ∀ s, 0 ≤ s → s < 4 → s ≠ v → jc_i K' 82 s = -1) ∧ jc_i K' 81 4 = n' ∧ jk_g jQU K K' ∧ jY K' G' N' x ∧ jV G G' N N' ∧ jM G' N' κ W B ∧ jT_z (fun z => jh G' N' z) ∧ (∀ s, 0 ≤ s → s < 4 → s ≠ v → jt G' s N' = jt G s N) ∧ (0 < jt G v N → 0 < jt G' v N') ∧ jzQ G N v pl (jzL G v N) G' N' n') ∨ (∃ (K' : jc_K) (G' : jg_G) (n' : Int), fc92 K0 pl l2 = some (K', 0) ∧ fo187 G v pl = some (G', n') ∧ jk_g jQU K K' ∧ jE K' G' x ∧ jMf G' κ W B)) := by
  have hN := hM.len hκ hB
  obtain ⟨r, e, hc, hr⟩ := jch.of (n := N) hM.1.1 (Nat.le_refl _) hv.1
  obtain ⟨K0, a1, a2, a3⟩ := jk_fc90 (K := K) hv
  have h59 : jc_i K 59 v = r := by rw [(hY.2.2.1 v hv.1 hv.2).1, hM.2.1 v hv.1 hv.2, e]
  have hY0 : jY K0 G N x := hY.f (hY.1.grow (jk_g.s a2) (fun n e z => by unfold jN_k at e; omega) hY.2.2.2.1.1) a2 (fun n e => by omega) (jw_f.refl G)
  have g0 : jk_g jQU K K0 := (jk_g.s a2).mono (fun n e => Or.inr (Or.inr e))
  have g1 : jk_g jQU K (jc_ui K0 81 4 0) := g0.trans (jk_g.s (jk_s.u (Or.inr (Or.inl rfl))))
  have e187 : fo187 G v pl = fo187_10 jo_N G v pl 0 r := by
    unfold fo187
    rw [if_pos hv, hM.2.1 v hv.1 hv.2, e]
  refine ⟨K0, a1, ?_⟩
  rw [e187]
  show (∃ (K' : jc_K) (G' : jg_G) (N' m2 : Nat) (i2 : Int) (r' : Nat) (n' : Int), fc92_s jo_N 7 (jc_ui K0 81 4 0) pl l2 0 0 0 0 0 = _ ∧ _) ∨ (∃ (K' : jc_K) (G' : jg_G) (n' : Int), fc92_s jo_N 7 (jc_ui K0 81 4 0) pl l2 0 0 0 0 0 = _ ∧ _)
  rcases jgb hκ hB hW hv hpl l2 r r (Nat.le_refl _) jo_N jo_N 0 0 (jc_ui K0 81 4 0) G N (hY0.nx (Or.inl rfl)) hM hz (by rw [jc_uN (by decide), a3 v hv.1 hv.2, if_pos rfl, h59]) (fun s s0 s1 hs => by rw [jc_uN (by decide), a3 s s0 s1, if_neg hs]) hc (by rw [e]) (by rw [jzL_jt N, e]; rfl) (fun z => by rw [e]; omega) (by decide) (by omega) (by unfold jo_N; omega) (by unfold jo_N; omega) jc_uH (by decide) (by omega) with ⟨K', G', N', m2, i2, r2, n2, z1, z2, z3, z4, z5, z6, z7⟩ | ⟨K', G', n2, z1, z2, z3, z4⟩
  · exact Or.inl ⟨K', G', N', m2, i2, r2, n2, z1, z2, z3, z4, z5, g1.trans z6, (by rw [show n2 - 0 = n2 by omega] at z7; rw [show jzL G v N = jzL G v r by rw [jzL_jt N, e]; rfl]; exact z7)⟩
  · exact Or.inr ⟨K', G', n2, z1, z2, g1.trans z3, z4⟩
/-- undone, with its END -/
theorem jua (hY : jY K G N x) (hM : jM G N κ W B) (hκ : κ ≤ 513) (hB : B ≤ 223) (hW : W.1 ≤ 2000000000) (hz : jT_z (fun z => jh G N z)) (hT : jTr K G) (hv : 0 ≤ v ∧ v < 4) : ∃ K0 K' G' st n, fc90 K v = some (K0, 0) ∧ fc92 K0 0 1 = some (K', st) ∧ fo188 G v = some (G', n) ∧ jk_g jQA K K' ∧ ((st = 1 ∧ jc_i K' 81 4 = n ∧ ∃ N', jY K' G' N' x ∧ jM G' N' (κ + 2 - jtm G N v) W B ∧ jT_z (fun z => jh G' N' z) ∧ jTr K' G' ∧ jcl G G' v ∧ jt G' v N' = 0 ∧ (∀ s, 0 ≤ s → s < 4 → s ≠ v → jt G' s N' = jt G s N) ∧ (∀ u, 0 ≤ u → u < 4 → u ≠ v → G 110 u = v → jph G' N' + jtm G N u ≤ κ + 2 - jtm G N v + jbs G N u) ∧ jl_a G G' N ∧ N ≤ N' ∧ n = (jzL G v N).length ∧ (∀ y, jzA G' y N' = (jzP G 0 (jzL G v N) (fun y => jzA G y N)).2.1 y) ∧ jzL G' v N' = []) ∨ (st = 0 ∧ jE K' G' x ∧ jMf G' κ W B ∧ ∀ k, jc_i K' 62 k = jc_i K 62 k)) := by
  obtain ⟨K0, a1, h⟩ := jgb0 hY hM hκ hB hW hz hv (Int.le_refl 0) 1
  rcases h with ⟨K1, G1, N1, m2, i2, r2, n2, z1, z2, ⟨z3, z4, z5⟩, ⟨z6, z7, z8⟩, z9, g1, y1, y2, y3, y4, y5, y6, y7⟩ | ⟨K', G', n2, z1, z2, g1, y1, y2⟩
  · have hN1 := y3.len hκ hB
    have n120 : 98 ≤ K.1.1 := hY.2.2.2.1.1
    have nU : ∀ n, n = 58 ∨ n = 61 ∨ n = 62 → ¬ jQU n := fun n hn z => by unfold jQU jQB jQ jS_n at z; omega
    have T1 : jTr K1 G1 := hT.s g1 n120 ⟨nU 58 (by decide), nU 61 (by decide), nU 62 (by decide)⟩ (fun j => ⟨y2.2.2.1 107 (by decide) j, y2.2.2.1 110 (by decide) j, y2.2.2.1 111 (by decide) j⟩)
    have Y2 : jY (jc_ui K1 82 v (-1)) G1 N1 x := y1.nx (Or.inr rfl)
    have s82 : jk_s (fun n => n = 82) K1 (jc_ui K1 82 v (-1)) := jk_s.u rfl
    have T2 : jTr (jc_ui K1 82 v (-1)) G1 := T1.s (jk_g.s s82) y1.2.2.2.1.1 (by decide) (fun j => ⟨rfl, rfl, rfl⟩)
    obtain ⟨p1, p2⟩ := jzP_0 (G := G) (l := jzL G v N) (fun u hu => by
      obtain ⟨q, q1, q2, q3⟩ := hM.1.1.zr (Nat.le_refl _) hv.1 u hu
      omega) (fun y => jzA G y N)
    have he : jzL G1 v N1 = [] := y7.1.trans p1
    obtain ⟨K2, b1, b2, b3, b4, b5, b6, b7, b8, b9, b10, b11⟩ := jended Y2 y3 hN1 hv he
    have nE : ∀ n, n = 81 ∨ n = 82 → ¬ (jQ n ∨ jTn n) := fun n hn z => by unfold jQ jS_n jTn at z; omega
    have n1201 : 98 ≤ (jc_ui K1 82 v (-1)).1.1 := y1.2.2.2.1.1
    have k82 : ∀ s, 0 ≤ s → s < 4 → jc_i K2 82 s = -1 := fun s s0 s1 => by
      rw [b2.2.2.2 82 s (by omega) (nE 82 (Or.inr rfl))]
      by_cases e : s = v
      · rw [e, jc_uH]
      · rw [jc_uI e]; exact z8 s s0 s1 e
    have k81 : jc_i K2 81 4 = n2 := by rw [b2.2.2.2 81 4 (by omega) (nE 81 (Or.inl rfl)), jc_uN (by decide)]; exact z9
    obtain ⟨m3, rfl⟩ : ∃ m3, m2 = m3 + 1 + 1 := ⟨m2 - 2, by omega⟩
    have cls : fc92 K0 0 1 = some (K2, 1) := by
      rw [z1]
      unfold fc92_s
      rw [if_pos rfl, if_neg (by omega)]
      have e93 : fc93 K1 0 = some (K1, v) := by
        unfold fc93
        exact fc93_o hv (by rw [z6]; omega) z8 jo_N 0 (-1) (by decide) (by decide) (by unfold jo_N; omega) (fun _ => rfl) (fun z => by omega)
      rw [e93, jo_bs]
      dsimp only
      rw [if_neg (by omega), if_pos hv, if_pos (by rw [z6]; exact z7), if_neg (by decide), b1, jo_bs]
      dsimp only
      rw [if_neg (by decide), if_pos (by omega)]
      unfold fc92_s
      rw [if_pos rfl, if_neg (by omega)]
      have e93' : fc93 K2 0 = some (K2, -1) := by
        unfold fc93
        exact fc93_n k82 jo_N 0 (by decide) (by decide) (by unfold jo_N; omega)
      rw [e93', jo_bs]
      dsimp only
      rw [if_pos rfl]
    have h12 := y1.h12
    have ref : fo188 G v = some (fr_cl (fr_no G1 3 v) v, n2) := by
      unfold fo188
      rw [z2, jo_bs]
      dsimp only
      rw [if_pos y1.h7, if_pos (by omega), if_pos ⟨by omega, hv.2⟩, jo_le, if_pos hv]
    have tm := jtm_of (G := G) (G' := G1) (N := N) (N' := N1) (s := v) y6 (y2.2.2.1 107 (by decide) v) (y2.2.2.1 110 (by decide) v)
    have o := fun (n : Nat) (j : Int) => fr_no_o (G := G1) (w := 3) (t := v) (n := n) (j := j)
    refine ⟨K0, K2, _, 1, n2, a1, cls, ref, ((g1.trans (jk_g.s (jk_s.u (Or.inr (Or.inr rfl))))).mono (fun n e => Or.inl e)).trans (b2.mono (fun n e => e.elim (fun e => Or.inl (Or.inl (Or.inl e))) (fun e => Or.inr e))), Or.inl ⟨rfl, k81, N1 + 1, b3, b4.le (by omega) (Nat.le_refl _), y4.same b7, b5 T2, ⟨fun s s0 s1 => ?_, fun s s0 s1 => ?_, fun k k0 k1 => ?_⟩, ?_, fun s s0 s1 hs => (b6 s s0 s1 hs).trans (y5 s s0 s1 hs), fun u u0 u1 hu hw => ?_, y2.1.1.trans (b9.le (by have := y2.1.2.1; omega)), by have := y2.1.2.1; omega, y7.2.2.1.trans p2, fun y => ?_, jzL_e b11 (Or.inr b10)⟩⟩
    · rw [fr_cl_7 (by decide), o 107 s (by omega) (by omega) (by omega), y2.2.2.1 107 (by decide)]
    · rw [fr_cl_10, o 110 s (by omega) (by omega) (by omega), y2.2.2.1 110 (by decide)]
      by_cases e : s = v ∨ G 110 s = v
      · rw [if_pos e, if_pos (e.elim Or.inl (fun z => Or.inr ⟨s0, s1, z⟩))]
      · rw [if_neg e, if_neg (fun z => e (z.elim Or.inl (fun z => Or.inr z.2.2)))]
    · rw [fr_cl_11, o 111 k (by omega) (by omega) (by omega), y2.2.2.1 111 (by decide)]
      by_cases e : G 111 k = v
      · rw [if_pos e, if_pos ⟨k0, k1, e⟩]
      · rw [if_neg e, if_neg (fun z => e z.2.2)]
    · rw [← b4.2.1 v hv.1 hv.2, fr_cl_7 (by decide), if_pos rfl]
    · have c := b8 u u0 u1 hu (by rw [y2.2.2.1 110 (by decide)]; exact hw)
      have e1 : jtm G1 N1 u = jtm G N u := by
        unfold jtm
        rw [y5 u u0 u1 hu, y2.2.2.1 107 (by decide), y2.2.2.1 110 (by decide)]
      have e2 : jbs G1 N1 u = jbs G N u := by
        unfold jbs
        rw [y5 u u0 u1 hu, y2.2.2.1 107 (by decide)]
      rw [e1, e2] at c
      omega
    · rw [jzA_o (by omega), b9.zA y N1 (Int.le_refl _)]
      exact y7.2.1 y
  · have ref : fo188 G v = some (G', n2) := by
      unfold fo188
      rw [z2, jo_bs]
      dsimp only
      rw [if_neg y1.h7]
    exact ⟨K0, K', G', 0, n2, a1, z1, ref, g1.mono (fun n e => Or.inl e), Or.inr ⟨rfl, y1, y2, fun k => g1.2.2.2 62 k (by have := hY.2.2.2.1.1; omega) (fun z => by unfold jQU jQB jQ jS_n at z; omega)⟩⟩
/-- gone back, to a place -/
theorem jbk (hY : jY K G N x) (hM : jM G N κ W B) (hκ : κ ≤ 513) (hB : B ≤ 223) (hW : W.1 ≤ 2000000000) (hz : jT_z (fun z => jh G N z)) (hT : jTr K G) (hv : 0 ≤ v ∧ v < 4) {pl : Int} (hpl : 0 ≤ pl) : ∃ K0 K' G' st n, fc90 K v = some (K0, 0) ∧ fc92 K0 pl 0 = some (K', st) ∧ fo187 G v pl = some (G', n) ∧ jk_g jQA K K' ∧ ((st = 1 ∧ jc_i K' 81 4 = n ∧ ∃ N', jY K' G' N' x ∧ jM G' N' κ W B ∧ jT_z (fun z => jh G' N' z) ∧ jTr K' G' ∧ jV G G' N N' ∧ (∀ s, 0 ≤ s → s < 4 → s ≠ v → jt G' s N' = jt G s N) ∧ jzQ G N v pl (jzL G v N) G' N' n) ∨ (st = 0 ∧ jE K' G' x ∧ jMf G' κ W B ∧ ∀ k, jc_i K' 62 k = jc_i K 62 k)) := by
  obtain ⟨K0, a1, h⟩ := jgb0 hY hM hκ hB hW hz hv hpl 0
  rcases h with ⟨K1, G1, N1, m2, i2, r2, n2, z1, z2, ⟨z3, z4, z5⟩, ⟨z6, z7, z8⟩, z9, g1, y1, y2, y3, y4, y5, y6, y7⟩ | ⟨K', G', n2, z1, z2, g1, y1, y2⟩
  · have n120 : 98 ≤ K.1.1 := hY.2.2.2.1.1
    have nU : ∀ n, n = 58 ∨ n = 61 ∨ n = 62 → ¬ jQU n := fun n hn z => by unfold jQU jQB jQ jS_n at z; omega
    have T1 : jTr K1 G1 := hT.s g1 n120 ⟨nU 58 (by decide), nU 61 (by decide), nU 62 (by decide)⟩ (fun j => ⟨y2.2.2.1 107 (by decide) j, y2.2.2.1 110 (by decide) j, y2.2.2.1 111 (by decide) j⟩)
    have s82 : jk_s (fun n => n = 82) K1 (jc_ui K1 82 v (-1)) := jk_s.u rfl
    obtain ⟨m3, rfl⟩ : ∃ m3, m2 = m3 + 1 + 1 := ⟨m2 - 2, by omega⟩
    have cls : fc92 K0 pl 0 = some (jc_ui K1 82 v (-1), 1) := by
      rw [z1]
      unfold fc92_s
      rw [if_pos rfl, if_neg (by omega)]
      have e93 : fc93 K1 pl = some (K1, v) := by
        unfold fc93
        exact fc93_o hv (by rw [z6]; omega) z8 jo_N 0 (-1) (by decide) (by decide) (by unfold jo_N; omega) (fun _ => rfl) (fun z => by omega)
      rw [e93, jo_bs]
      dsimp only
      rw [if_neg (by omega), if_pos hv, if_pos (by rw [z6]; exact z7), if_pos rfl, if_pos (by omega)]
      unfold fc92_s
      rw [if_pos rfl, if_neg (by omega)]
      have e93' : fc93 (jc_ui K1 82 v (-1)) pl = some (jc_ui K1 82 v (-1), -1) := by
        unfold fc93
        exact fc93_n (fun s s0 s1 => by
          by_cases e : s = v
          · rw [e, jc_uH]
          · rw [jc_uI e]; exact z8 s s0 s1 e) jo_N 0 (by decide) (by decide) (by unfold jo_N; omega)
      rw [e93', jo_bs]
      dsimp only
      rw [if_pos rfl]
    exact ⟨K0, _, G1, 1, n2, a1, cls, z2, (g1.trans (jk_g.s (jk_s.u (Or.inr (Or.inr rfl))))).mono (fun n e => Or.inl e), Or.inl ⟨rfl, by rw [jc_uN (by decide)]; exact z9, N1, y1.nx (Or.inr rfl), y3, y4, T1.s (jk_g.s s82) y1.2.2.2.1.1 (by decide) (fun j => ⟨rfl, rfl, rfl⟩), y2, y5, y7⟩⟩
  · exact ⟨K0, K', G', 0, n2, a1, z1, z2, g1.mono (fun n e => Or.inl e), Or.inr ⟨rfl, y1, y2, fun k => g1.2.2.2 62 k (by have := hY.2.2.2.1.1; omega) (fun z => by unfold jQU jQB jQ jS_n at z; omega)⟩⟩
end Ua
