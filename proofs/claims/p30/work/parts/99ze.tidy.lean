/-! RECOVER: tidy, as a whole -/
section
variable {K : jc_K} {G : jg_G} {N x κ B : Nat} {W : jZW}
theorem jnf1 (hM : jM G N κ W B) : 1 ≤ jnf (fun z => jh G N z) := by
  obtain ⟨lo, hi, rk, hT⟩ := hM.1.1.2.1 N (Nat.le_refl _)
  have := jsum_ge (f := fun p => if (jh G N p).1 = 0 then 0 else 1) (j := 0) 24 (by decide)
  have r := hT.1.2.1
  have e : (if (jh G N ((0 : Nat) : Int)).1 = 0 then 0 else 1) = 1 := if_neg r
  rw [e] at this
  exact this
/-- all is settled -/
theorem jset (hY : jY K G N x) (hz : jT_z (fun z => jh G N z)) (m m' i : Nat) : fc60_2 (m + 1) K i = some (K, 1) ∧ ((fo208 G).bind fun x1 => fo210_5 (m' + 1) (x1.1) (x1.2)) = some (G, 0) := by
  have nb : ∀ p, ¬ jba G N p := fun p z => by
    have a : 0 < (jh G N p).2.1 := hz.1 p z.1.1 z.1.2 z.2.1
    have := z.2.2
    omega
  have nr : ¬ ((jh G N 0).1 = 2 ∧ (jh G N 0).2.1 = 1) := fun z => by
    have a : 2 ≤ (jh G N 0).2.1 := hz.2 z.1
    omega
  constructor
  · unfold fc60_2
    by_cases c : 24 < (i : Int)
    · rw [if_pos c]
    · obtain ⟨v, y1, y2⟩ := jk_8712 hY jo_N 1 (by decide) (by decide) (by decide) (fun p hp z => by have := z.1; omega)
      have ev : v = -1 := by
        rcases y2 with y | y
        · exact y.1
        · exact absurd y (nb v)
      have e87 : fc87 K = some (K, -1) := by
        unfold fc87
        rw [jk_86 hY, if_neg nr, jo_bs]
        dsimp only
        rw [if_pos rfl, y1, ev]
      rw [if_neg c, e87, jo_bs]
      dsimp only
      rw [if_pos rfl]
  · obtain ⟨v, y1, y2⟩ := jr_208 hY (fun p z => absurd z (nb p)) 23 jo_N 23 (-1) rfl (by decide) (by decide) (Or.inl ⟨rfl, fun p _ => nb p⟩)
    have ev : v = -1 := by
      rcases y2 with y | y
      · exact y.1
      · exact absurd y (nb v)
    have e208 : fo208 G = some (G, -1) := by
      unfold fo208
      rw [y1, ev]
    rw [e208, jo_bs]
    dsimp only
    unfold fo210_5
    rw [if_pos hY.h7, jr_209 hY, if_neg nr, jo_bs]
    dsimp only
    rw [if_pos rfl, if_pos rfl]
theorem jdead {X : jg_G} (h7 : X 92 7 = 1) (m : Nat) (l : Int) : fo210_5 (m + 1) X l = some (X, 0) := by
  unfold fo210_5
  rw [if_neg (by omega)]
/-- behind a page that went -/
theorem jT_q.go {g : Int → jp_C} {p up k : Int} (h : jT_q g) (hp : 1 ≤ p ∧ p < 24) (hk : (g p).1 ≠ 0) (hb : (g p).2.1 = 0) (hr : ¬ ((g 0).1 = 2 ∧ (g 0).2.1 = 1)) (hi : jT_i g up k) (hc : (g up).2.2.2 k = p) : jT_q (fun z => if z = p then jp_0 else if z = up then jp_fg (jp_del (g up) k) else g z) := by
  obtain ⟨e, a, b, c⟩ := h
  have ep : p = e := by
    by_cases z : p = e
    · exact z
    · have := a p hp.1 hp.2 hk z; omega
  subst ep
  have c0 : ∀ z, z ≠ p → (if z = up then jp_fg (jp_del (g up) k) else g z).1 = (g z).1 := fun z _ => by
    by_cases y : z = up
    · rw [if_pos y, y]; rfl
    · rw [if_neg y]
  have pz : (0 : Int) ≠ p := by omega
  refine ⟨up, fun z z0 z1 hz hn => ?_, fun h2 => ?_, fun h2 h1 z z0 z1 hz => ?_⟩
  · dsimp only at hz ⊢
    by_cases y : z = p
    · rw [if_pos y] at hz; exact absurd rfl hz
    · rw [if_neg y, if_neg hn] at hz ⊢
      exact a z z0 z1 hz y
  · dsimp only at h2 ⊢
    rw [if_neg pz, c0 0 pz] at h2
    rw [if_neg pz]
    have := b h2
    by_cases y : (0 : Int) = up
    · rw [if_pos y]
      show 1 ≤ (g up).2.1 - 1
      rw [← y]
      have : (g 0).2.1 ≠ 1 := fun w => hr ⟨h2, w⟩
      omega
    · rw [if_neg y]; exact this
  · dsimp only at h2 h1 hz ⊢
    rw [if_neg pz, c0 0 pz] at h2
    rw [if_neg pz] at h1
    have r2 : (g 0).2.1 ≠ 1 := fun w => hr ⟨h2, w⟩
    by_cases y : (0 : Int) = up
    · by_cases w : z = p
      · rw [if_pos w] at hz; exact absurd rfl hz
      · rw [if_neg w, if_neg (by omega)] at hz ⊢
        exact a z z0 z1 hz w
    · rw [if_neg y] at h1
      exact absurd h1 r2
theorem jtidy (hκ : κ ≤ 513) (hB : B ≤ 223) (hW : W.1 ≤ 2000000000) : ∀ (u m m' i : Nat) (K : jc_K) (G : jg_G) (N : Nat), jY K G N x → jM G N κ W B → jnf (fun z => jh G N z) ≤ u → i + u ≤ 25 → u + 3 ≤ m → u + 3 ≤ m' → ∃ K' G' b N', fc60_2 m K i = some (K', b) ∧ ((fo208 G).bind fun x1 => fo210_5 m' (x1.1) (x1.2)) = some (G', 0) ∧ jk_g jQ K K' ∧ ((b = 1 ∧ jY K' G' N' x ∧ jV G G' N N' ∧ jM G' N' κ W B ∧ jT_z (fun z => jh G' N' z) ∧ ∀ j, G' 108 j = G 108 j) ∨ (b = 0 ∧ jE K' G' x ∧ jMf G' κ W B)) := by
  intro u
  induction u with
  | zero =>
    intro m m' i K G N hY hM hu hi hm hm'
    have := jnf1 hM
    omega
  | succ u ih =>
    intro m m' i K G N hY hM hu hi hm hm'
    obtain ⟨m, rfl⟩ : ∃ j, m = j + 1 := ⟨m - 1, by omega⟩
    obtain ⟨m', rfl⟩ : ∃ j, m' = j + 1 := ⟨m' - 1, by omega⟩
    have n1 := jnf1 hM
    have hq := (hM.1.1.2.2 N (Nat.le_refl _)).1
    obtain ⟨lo, hi', rk, hT⟩ := hM.1.1.2.1 N (Nat.le_refl _)
    have hVr : jV G G N N := (jw_s.refl G).V hY.h12
    -- parents
    have par : ∀ p, jba G N p → ∃ up k, jT_i (fun z => jh G N z) up k ∧ (jh G N up).2.2.2 k = p ∧ ∀ q i, jT_i (fun z => jh G N z) q i → (jh G N q).2.2.2 i = p → q = up := fun p z => by
      obtain ⟨up, k, a, b⟩ := hT.1.2.2.2.2.1 p z.1.1 z.1.2 z.2.1
      exact ⟨up, k, a, b, fun q i c d => (hT.1.2.2.2.1 q i up k c a (d.trans b.symm)).1⟩
    have r207 : ∀ p up k, jT_i (fun z => jh G N z) up k → (jh G N up).2.2.2 k = p → (∀ q i, jT_i (fun z => jh G N z) q i → (jh G N q).2.2.2 i = p → q = up) → fo207 G p = some (G, up) := fun p up k a b c => by
      unfold fo207
      exact jr_207 hY a.1 ⟨k, a, b⟩ c 24 jo_N 23 (-1) rfl (by decide) (by decide) (by rw [if_neg (by have := a.1.2; omega)])
    obtain ⟨v, y1, y2⟩ := jr_208 hY (fun p z => by
      obtain ⟨up, k, a, b, c⟩ := par p z
      exact ⟨up, r207 p up k a b c, by have := a.1.1; omega⟩) 23 jo_N 23 (-1) rfl (by decide) (by decide) (Or.inl ⟨rfl, fun p hp z => by have := z.1; omega⟩)
    obtain ⟨w, w1, w2⟩ := jk_8712 hY jo_N 1 (by decide) (by decide) (by decide) (fun p hp z => by have := z.1; omega)
    have e208 : fo208 G = some (G, v) := by
      unfold fo208
      exact y1
    by_cases alone : (jh G N 0).1 = 2 ∧ (jh G N 0).2.1 = 1
    · -- the root takes over
      obtain ⟨e, qa, qb, qc⟩ := hq
      have all := qc alone.1 alone.2
      have nb : ∀ p, ¬ jba G N p := fun p z => by
        have a : 0 < (jh G N p).2.1 := all p z.1.1 z.1.2 z.2.1
        have := z.2.2
        omega
      have ev : v = -1 := by
        rcases y2 with y | y
        · exact y.1
        · exact absurd y (nb v)
      have cb := jT_child hT.1.1 (q := 0) (i := 0) ⟨by decide, alone.1, Int.le_refl _, by
        show 0 < (jh G N 0).2.1
        have := alone.2
        omega⟩
      have cb : 1 ≤ (jh G N 0).2.2.2 0 ∧ (jh G N 0).2.2.2 0 < 24 := cb
      have e87 : fc87 K = some (K, 0) := by
        unfold fc87
        rw [jk_86 hY, if_pos alone, jo_bs]
        dsimp only
        rw [if_neg (by omega)]
      obtain ⟨K1, G1, b, N1, r1, r2, r3, r4⟩ := jto_l hκ hB hW 0 (-1) jo_N jo_N 0 K G N hY hM (Int.le_refl _) (by
        have := jsum_le (f := fun p => if (jh G N p).1 = 0 then 0 else 1) (g := fun _ => 1) 24 (fun i hi => by
          show (if (jh G N i).1 = 0 then 0 else 1) ≤ 1
          split <;> decide)
        have e24 : jsum (fun _ => 1) 24 = 24 := rfl
        have : jnf (fun z => jh G N z) ≤ 24 := by rw [e24] at this; exact this
        omega) (by decide) (by decide)
      have r1 : fc83 K 0 (-1) = some (K1, b) := by
        unfold fc83
        rw [if_pos rfl]
        exact r1
      have r2 : fo182 G = some (G1, 0) := r2
      have c60 : fc60_2 (m + 1) K i = (if b = 0 then (some (K1, 0)) else fc60_2 m K1 ((i + 1 : Nat) : Int)) := by
        conv => lhs; unfold fc60_2
        rw [if_neg (by omega), e87, jo_bs]
        dsimp only
        rw [if_neg (by decide), if_pos rfl, r1, jo_bs]
        dsimp only
        rw [if_pos (show -2147483648 ≤ (i : Int) + 1 ∧ (i : Int) + 1 < 2147483648 by omega), show ((i + 1 : Nat) : Int) = (i : Int) + 1 by omega]
      have o210 : ((fo208 G).bind fun x1 => fo210_5 (m' + 1) (x1.1) (x1.2)) = (if G1 92 7 = 0 then ((fo208 G1).bind fun x12 => fo210_5 m' (x12.1) (x12.2)) else (fo210_5 m' G1 (-1))) := by
        rw [e208, jo_bs]
        dsimp only
        conv => lhs; unfold fo210_5
        rw [if_pos hY.h7, jr_209 hY, if_pos alone, jo_bs]
        dsimp only
        rw [if_neg (by decide), jr_209 hY, if_pos alone, jo_bs]
        dsimp only
        rw [if_neg (by decide), if_pos hY.h7, r2, jo_bs]
      rw [c60, o210]
      obtain ⟨m, rfl⟩ : ∃ j, m = j + 1 := ⟨m - 1, by omega⟩
      obtain ⟨m', rfl⟩ : ∃ j, m' = j + 1 := ⟨m' - 1, by omega⟩
      rcases r4 with ⟨eb, ⟨x1, x2, x3, _, _⟩, x10, x6, x7⟩ | ⟨eb, x1, x2⟩
      · have hz : jT_z (fun z => jh G1 N1 z) := by
          rcases x7 with ⟨_, x8⟩ | x8
          · rw [x8 0] at x6; exact absurd alone x6
          · exact x8.1
        have st := jset x1 hz m m' (i + 1)
        rw [if_neg (by omega), if_pos x1.h7]
        exact ⟨K1, G1, 1, N1, st.1, st.2, r3, Or.inl ⟨rfl, x1, x2, x3, hz, x10⟩⟩
      · have h7 : G1 92 7 = 1 := x1.2.1.1
        rw [if_pos eb, if_neg (by omega), jdead h7]
        exact ⟨K1, G1, 0, N1, rfl, rfl, r3, Or.inr ⟨rfl, x1, x2⟩⟩
    · rcases w2 with ⟨ew, nb⟩ | hb
      · -- settled
        have hz : jT_z (fun z => jh G N z) := ⟨fun p p0 p1 k => by
          have c : (jh G N p).2.1 ≠ 0 := fun z => nb p ⟨⟨p0, p1⟩, k, z⟩
          have := (hT.1.1 p (by omega) p1).1
          have a : 0 ≤ (jh G N p).2.1 := this.1
          show 0 < (jh G N p).2.1
          omega, fun k => by
          have a : 1 ≤ (jh G N 0).2.1 := hq.elim (fun e h => h.2.1 k)
          have : (jh G N 0).2.1 ≠ 1 := fun z => alone ⟨k, z⟩
          show 2 ≤ (jh G N 0).2.1
          omega⟩
        have st := jset hY hz m m' i
        exact ⟨K, G, 1, N, st.1, st.2, jk_g.refl, Or.inl ⟨rfl, hY, hVr, hM, hz, fun _ => rfl⟩⟩
      · -- a page goes
        obtain ⟨up, k, pa, pb, pc⟩ := par w hb
        have ev : v = w := by
          obtain ⟨e, qa, qb, qc⟩ := hq
          have ew : w = e := by
            by_cases z : w = e
            · exact z
            · have a : 0 < (jh G N w).2.1 := qa w hb.1.1 hb.1.2 hb.2.1 z
              have := hb.2.2
              omega
          rcases y2 with ⟨_, y⟩ | y
          · exact absurd hb (y w)
          · by_cases z : v = e
            · omega
            · have a : 0 < (jh G N v).2.1 := qa v y.1.1 y.1.2 y.2.1 z
              have := y.2.2
              omega
        have e87 : fc87 K = some (K, w) := by
          unfold fc87
          rw [jk_86 hY, if_neg alone, jo_bs]
          dsimp only
          rw [if_pos rfl, w1]
        have e88 : fc88 K w = some (K, up) := by
          unfold fc88
          exact jk_88 hY pa.1 ⟨k, pa, pb⟩ pc jo_N 0 (Int.le_refl _) pa.1.1 (by decide)
        have e207 := r207 w up k pa pb pc
        have hq' := hq.go (p := w) (up := up) (k := k) hb.1 hb.2.1 hb.2.2 alone pa pb
        obtain ⟨K1, b, g1, g2, g3⟩ := jgoes hY hM hκ hB hW pa pb hb.2.2 hq'
        have c60 : fc60_2 (m + 1) K i = (if b = 0 then (some (K1, 0)) else fc60_2 m K1 ((i + 1 : Nat) : Int)) := by
          have := hb.1
          have := pa.1
          conv => lhs; unfold fc60_2
          rw [if_neg (by omega), e87, jo_bs]
          dsimp only
          rw [if_neg (by omega), if_neg (by omega), e88, jo_bs]
          dsimp only
          rw [if_neg (by omega), g1, jo_bs]
          dsimp only
          rw [if_pos (show -2147483648 ≤ (i : Int) + 1 ∧ (i : Int) + 1 < 2147483648 by omega), show ((i + 1 : Nat) : Int) = (i : Int) + 1 by omega]
        have o210 : ∀ G1, fo181 G w up = some (G1, 0) → ((fo208 G).bind fun x1 => fo210_5 (m' + 1) (x1.1) (x1.2)) = (if G1 92 7 = 0 then ((fo182 G1).bind fun x39 => if (x39.1) 92 7 = 0 then ((fo208 (x39.1)).bind fun x42 => fo210_5 m' (x42.1) (x42.2)) else (fo210_5 m' (x39.1) (-1))) else (fo210_5 m' G1 (-1))) := fun G1 h181 => by
          have := hb.1
          rw [e208, jo_bs, ev]
          dsimp only
          conv => lhs; unfold fo210_5
          rw [if_pos hY.h7, jr_209 hY, if_neg alone, jo_bs]
          dsimp only
          rw [if_pos rfl, if_neg (by omega), jr_209 hY, if_neg alone, jo_bs]
          dsimp only
          rw [if_pos rfl, e207, jo_bs]
          dsimp only
          rw [h181, jo_bs]
        have fallen : ∀ X, jE K1 X x → jMf X κ W B → b = 0 → ((fo208 G).bind fun x1 => fo210_5 (m' + 1) (x1.1) (x1.2)) = fo210_5 m' X (-1) → ∃ K' G' b N', fc60_2 (m + 1) K i = some (K', b) ∧ ((fo208 G).bind fun x1 => fo210_5 (m' + 1) (x1.1) (x1.2)) = some (G', 0) ∧ jk_g jQ K K' ∧ ((b = 1 ∧ jY K' G' N' x ∧ jV G G' N N' ∧ jM G' N' κ W B ∧ jT_z (fun z => jh G' N' z) ∧ ∀ j, G' 108 j = G 108 j) ∨ (b = 0 ∧ jE K' G' x ∧ jMf G' κ W B)) := fun X hE hf eb eo => by
          obtain ⟨m', rfl⟩ : ∃ j, m' = j + 1 := ⟨m' - 1, by omega⟩
          refine ⟨K1, X, 0, N, by rw [c60, if_pos eb], by rw [eo, jdead hE.2.1.1], g2, Or.inr ⟨rfl, hE, hf⟩⟩
        rcases g3 with ⟨G1, G2, N2, a1, a2, a3, a4⟩ | ⟨G1, a1, eb, a2, a3⟩
        · have eo := o210 G1 a1
          rw [if_pos a2, a3, jo_bs] at eo
          dsimp only at eo
          rcases a4 with ⟨eb, ⟨⟨x1, x2, x3, _, _⟩, x11, x10⟩, x6, x7⟩ | ⟨eb, x1, x2⟩
          · rw [if_pos x1.h7] at eo
            rw [eo, c60, if_neg (by omega)]
            rcases x7 with x8 | ⟨x8, _⟩
            · have nfd : jnf (fun z => jh G2 N2 z) + 1 = jnf (fun z => jh G N z) := by
                have ew : ((w.toNat : Nat) : Int) = w := by have := hb.1; omega
                refine jsum_u (j := w.toNat) (d := 1) ?_ 24 (by have := hb.1; omega) (fun i hi hj => ?_)
                · rw [ew]
                  have := (x8 w (by have := hb.1; omega) hb.1.2).1
                  dsimp only at this
                  rw [if_pos rfl] at this
                  have : (jh G2 N2 w).1 = 0 := this.symm
                  show (if (jh G2 N2 w).1 = 0 then 0 else 1) + 1 = (if (jh G N w).1 = 0 then 0 else 1)
                  rw [if_pos this, if_neg hb.2.1]
                · have := (x8 i (by omega) (by omega)).1
                  dsimp only at this
                  rw [if_neg (show ¬ (i : Int) = w by omega)] at this
                  have e : (jh G2 N2 i).1 = (jh G N i).1 := by
                    rw [← this]
                    by_cases y : (i : Int) = up
                    · rw [if_pos y, y]; rfl
                    · rw [if_neg y]
                  show (if (jh G2 N2 i).1 = 0 then 0 else 1) = (if (jh G N i).1 = 0 then 0 else 1)
                  rw [e]
              obtain ⟨K', G', b', N', z1, z2, z3, z4⟩ := ih m m' (i + 1) K1 G2 N2 x1 x3 (by omega) (by omega) (by omega) (by omega)
              refine ⟨K', G', b', N', z1, z2, g2.trans z3, ?_⟩
              rcases z4 with ⟨q1, q2, q3, q4, q5, q6⟩ | z4
              · exact Or.inl ⟨q1, q2, x2.trans q3, q4, q5, fun j => (q6 j).trans (x10 j)⟩
              · exact Or.inr z4
            · obtain ⟨m, rfl⟩ : ∃ j, m = j + 1 := ⟨m - 1, by omega⟩
              obtain ⟨m', rfl⟩ : ∃ j, m' = j + 1 := ⟨m' - 1, by omega⟩
              have st := jset x1 x8 m m' (i + 1)
              exact ⟨K1, G2, 1, N2, st.1, st.2, g2, Or.inl ⟨rfl, x1, x2, x3, x8, x10⟩⟩
          · rw [if_neg (by have := x1.2.1.1; omega)] at eo
            exact fallen G2 x1 x2 eb eo
        · have eo := o210 G1 a1
          rw [if_neg (by have := a2.2.1.1; omega)] at eo
          exact fallen G1 a2 a3 eb eo
end
