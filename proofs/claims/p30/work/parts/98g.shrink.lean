/-! WHAT HAS NOTHING LEFT GOES, all of it -/
def jk_sh : Nat → jc_K → Int → Int → Option (jc_K × Int)
  | 0, _, _, _ => none
  | m + 1, K, st, i => if 24 ≤ i then some (K, st) else (if st = 0 then some (K, 0) else ((fc81 K).bind fun x => if x.2 = 0 then some (x.1, st) else ((fc70 (x.1)).bind fun y => (fc82 (y.1)).bind fun z => (fc83 (z.1) (y.2) (z.2)).bind fun w => if -2147483648 ≤ (i + 1) ∧ (i + 1) < 2147483648 then jk_sh m (w.1) (w.2) (i + 1) else none)))
theorem jk_sh_109 (l1 l2 l3 l4 : Int) : ∀ (m : Nat) (K : jc_K) (l5 l6 : Int), fc109_82 m K l1 l2 l3 l4 l5 l6 = (jk_sh m K l5 l6).bind fun x => if x.2 = 0 then ((fc140 (x.1) (-4)).bind fun y => some (y.1, .inl (y.2))) else ((fc140 (x.1) l4).bind fun y => some (y.1, .inl (y.2)))
  | 0, _, _, _ => rfl
  | m + 1, K, l5, l6 => by
    unfold fc109_82 jk_sh
    by_cases h1 : 24 ≤ l6
    · rw [if_pos h1, if_pos h1, jo_bs]
    · rw [if_neg h1, if_neg h1]
      by_cases h2 : l5 = 0
      · rw [if_pos h2, if_pos h2, jo_bs]
        rfl
      · rw [if_neg h2, if_neg h2]
        cases fc81 K with
        | none => rfl
        | some x =>
          rw [jo_bs, jo_bs]
          by_cases h3 : x.2 = 0
          · rw [if_pos h3, if_pos h3, jo_bs]
            dsimp only
            rw [if_neg h2]
          · rw [if_neg h3, if_neg h3]
            cases fc70 x.1 with
            | none => rfl
            | some y =>
              rw [jo_bs, jo_bs]
              cases fc82 y.1 with
              | none => rfl
              | some z =>
                rw [jo_bs, jo_bs]
                cases fc83 z.1 y.2 z.2 with
                | none => rfl
                | some w =>
                  rw [jo_bs, jo_bs]
                  by_cases h4 : -2147483648 ≤ (l6 + 1) ∧ (l6 + 1) < 2147483648
                  · rw [if_pos h4, if_pos h4]
                    exact jk_sh_109 l1 l2 l3 l4 m w.1 w.2 (l6 + 1)
                  · rw [if_neg h4, if_neg h4]
                    rfl
theorem jS_h.e {g g' : Int → jp_C} {P : Int → Int} {d : Nat} (h : jS_h g P d) (he : ∀ z, 0 ≤ z → z < 24 → jp_e (g z) (g' z)) : jS_h g' P d := by
  obtain ⟨⟨a, a2⟩, b, c, e⟩ := h
  refine ⟨⟨a, a2⟩, fun j j0 j1 => ?_, fun p p0 p1 k z => ?_, fun k => ?_⟩
  · obtain ⟨b1, k, k0, k1, k2⟩ := b j j0 j1
    have pb := a2 j j0 (by omega)
    have e := he (P j) pb.1 pb.2
    exact ⟨e.1.symm.trans b1, k, k0, by rw [← e.2.1]; exact k1, (e.2.2 k k0 k1).2.symm.trans k2⟩
  · have e := he p (by omega) p1
    rw [← e.2.1]
    exact c p p0 p1 (by rw [e.1]; exact k) z
  · have e0 := he 0 (by decide) (by decide)
    rw [← e0.2.1]
    exact e (by rw [e0.1]; exact k)
theorem jS_h.z0 {g : Int → jp_C} {P : Int → Int} (h : jS_h g P 0) : jT_z g := ⟨fun p p0 p1 k => h.2.2.1 p p0 p1 k (by rw [show P ((0 : Nat) : Int) = 0 from h.1.1]; omega), h.2.2.2⟩
theorem jS_h.z {g : Int → jp_C} {P : Int → Int} {d : Nat} (h : jS_h g P d) (hc : 0 < (g (P d)).2.1) : jT_z g := ⟨fun p p0 p1 k => by
  by_cases e : p = P d
  · rw [e]; exact hc
  · exact h.2.2.1 p p0 p1 k e, h.2.2.2⟩
theorem jch_rk {P rk : Int → Int} {d : Nat} (h : ∀ j : Int, 0 ≤ j → j < d → rk (P (j + 1)) < rk (P j)) : ∀ (k : Nat) (j : Int), 0 ≤ j → j + k + 1 ≤ d → rk (P (j + k + 1)) < rk (P j)
  | 0, j, h0, h1 => by
    have := h j h0 (by omega)
    rw [show j + ((0 : Nat) : Int) + 1 = j + 1 by omega]
    exact this
  | k + 1, j, h0, h1 => by
    have a := jch_rk h k j h0 (by omega)
    have b := h (j + k + 1) (by omega) (by omega)
    rw [show j + ((k + 1 : Nat) : Int) + 1 = j + k + 1 + 1 by omega]
    omega
theorem jA.trans {K1 K2 : jc_K} {G G1 G2 : jg_G} {N N1 N2 x κ B B' : Nat} {W : jZW} (h : jA K1 G G1 N N1 x κ W B) (h2 : jA K2 G1 G2 N1 N2 x κ W B') : jA K2 G G2 N N2 x κ W B' := ⟨h2.1, h.2.1.trans h2.2.1, h2.2.2.1, fun j => (h2.2.2.2.1 j).trans (h.2.2.2.1 j), h2.2.2.2.2.1.trans h.2.2.2.2.1, h.2.2.2.2.2.trans h2.2.1.1.1 h2.2.2.2.2.2⟩
def jQ9 (n : Nat) : Prop := jQ n ∨ n = 79
theorem jY.lvl {K : jc_K} {G : jg_G} {N x : Nat} {v : Int} (h : jY K G N x) : jY (jc_ui K 79 3 v) G N x :=
  h.f (S := fun n => n = 79) (h.1.grow (S := fun n => n = 79) (jk_g.s (jk_s.u rfl)) (fun n e z => by unfold jN_k at e; omega) h.2.2.2.1.1) (jk_s.u rfl) (fun n e => by omega) (jw_f.refl G)
theorem jshr {x κ B : Nat} {W : jZW} (hκ : κ ≤ 513) (hB : B ≤ 223) (hW : W.1 ≤ 2000000000) : ∀ (d m' : Nat) (i : Int) (K : jc_K) (G : jg_G) (N : Nat), jY K G N x → jM G N κ W B → jc_i K 79 3 = d → (∀ j : Int, 0 ≤ j → j ≤ d → jc_i K 80 j = G 112 j) → jS_h (fun z => jh G N z) (fun j => G 112 j) d → 0 ≤ i → i + d < 24 → d < m' → ∃ s K' G' st N', (s ≤ d + 2 ∧ (st = 1 → s + N ≤ N' + 1)) ∧ jk_sh s K 1 i = some (K', st) ∧ fo183_7 m' G d = some (G', 0) ∧ jk_g jQ9 K K' ∧ ((st = 1 ∧ jA K' G G' N N' x κ W B ∧ jT_z (fun z => jh G' N' z) ∧ ∀ j, G' 108 j = G 108 j) ∨ (st = 0 ∧ jE K' G' x ∧ jMf G' κ W B)) := by
  intro d
  induction d with
  | zero =>
    intro m' i K G N hY hM hd hw hs h0 h1 h3
    cases m' with
    | zero => omega
    | succ m' =>
      obtain ⟨_, e81⟩ := jsh_81 hY hd (by decide) ⟨hw 0 (by decide) (Int.le_refl _), hs.1.2 0 (by decide) (Int.le_refl _)⟩
      rw [if_neg (by omega)] at e81
      refine ⟨1, K, G, 1, N, ⟨by omega, fun _ => by omega⟩, ?_, ?_, jk_g.refl, Or.inl ⟨rfl, ⟨hY, (jw_s.refl G).V hY.h12, hM, fun _ => rfl, rfl, jNo.refl _ _⟩, hs.z0, fun _ => rfl⟩⟩
      · unfold jk_sh
        rw [if_neg (by omega), if_neg (by decide), e81, jo_bs]
        dsimp only
        rw [if_pos rfl]
      · unfold fo183_7
        rw [if_pos hY.h7, if_pos (show ((0 : Nat) : Int) ≤ 0 by decide)]
  | succ d ih =>
    intro m' i K G N hY hM hd hw hs h0 h1 h3
    cases m' with
    | zero => omega
    | succ m' =>
        have ec : (((d + 1 : Nat) : Nat) : Int) = (d : Int) + 1 := by omega
        obtain ⟨lo, hi, rk, hT⟩ := hM.1.1.2.1 N (Nat.le_refl _)
        have pb := hs.1.2
        have p1b := pb ((d : Int) + 1) (by omega) (by omega)
        have p0b := pb (d : Int) (by omega) (by omega)
        dsimp only at p1b p0b
        obtain ⟨e70, e81⟩ := jsh_81 (d := d + 1) hY hd (by omega) ⟨hw _ (by omega) (Int.le_refl _), pb _ (by omega) (Int.le_refl _)⟩
        rw [ec] at e70 e81
        obtain ⟨k2, k, k0, k1, ke⟩ := hs.2.1 (d : Int) (by omega) (by omega)
        dsimp only at k2 k1 ke
        have edge : jT_i (fun z => jh G N z) (G 112 d) k := ⟨p0b, k2, k0, k1⟩
        have v1 := (hT.1.2.2.1 _ k edge).1
        rw [show jT_c (fun z => jh G N z) (G 112 d) k = G 112 ((d : Int) + 1) from ke] at v1
        have cb := jT_child hT.1.1 edge
        rw [show jT_c (fun z => jh G N z) (G 112 d) k = G 112 ((d : Int) + 1) from ke] at cb
        obtain ⟨_, _, c3, c4, c5, c6⟩ := hY.seen p1b
        have cnt0 := c6.1.1
        have step : ∀ s, jk_sh (s + 1) K 1 i = if (if 0 < d + 1 ∧ (jh G N (G 112 ((d : Int) + 1))).1 ≠ 0 ∧ (jh G N (G 112 ((d : Int) + 1))).2.1 = 0 then (1 : Int) else 0) = 0 then some (K, 1) else ((fc70 K).bind fun y => (fc82 (y.1)).bind fun z => (fc83 (z.1) (y.2) (z.2)).bind fun w => if -2147483648 ≤ (i + 1) ∧ (i + 1) < 2147483648 then jk_sh s (w.1) (w.2) (i + 1) else none) := fun s => by
          conv => lhs; unfold jk_sh
          rw [if_neg (by omega), if_neg (by decide), e81, jo_bs]
        unfold fo183_7
        rw [if_pos hY.h7, ec, if_neg (show ¬ (d : Int) + 1 ≤ 0 by omega), if_pos (show 0 ≤ (d : Int) + 1 ∧ (d : Int) + 1 < 25 by omega), if_pos p1b, jo_le, if_pos (show 0 ≤ 67 * fr_ro G (G 112 ((d : Int) + 1)) + 2 ∧ 67 * fr_ro G (G 112 ((d : Int) + 1)) + 2 < 305118 by omega), c5.2.1]
        by_cases hb : (jh G N (G 112 ((d : Int) + 1))).2.1 = 0
        · rw [if_pos hb, if_pos (show 0 ≤ (d : Int) + 1 - 1 ∧ (d : Int) + 1 - 1 < 25 by omega)]
          have e82 : fc82 K = some (jc_ui K 79 3 d, G 112 d) := by
            unfold fc82
            rw [hd, ec, if_neg (by omega), if_pos (by omega), show (d : Int) + 1 - 1 = d by omega]
            have := (jsh_81 (d := d) (hY.lvl (v := d)) jc_uH (by omega) ⟨by rw [jc_uN (by decide)]; exact hw d (by omega) (by omega), p0b⟩).1
            rw [this, jo_bs]
          rw [show (d : Int) + 1 - 1 = d by omega, show (d : Int) + 1 + (-1) = d by omega]
          have hne : G 112 d ≠ G 112 ((d : Int) + 1) := fun e => by
            have := (hT.1.2.2.1 _ k edge).2.1
            rw [show jT_c (fun z => jh G N z) (G 112 d) k = G 112 ((d : Int) + 1) from ke, ← e] at this
            omega
          -- the pages behind it
          have up1 : 0 < d → 1 ≤ G 112 d := fun hd0 => by
            obtain ⟨k2', k', k0', k1', ke'⟩ := hs.2.1 ((d : Int) - 1) (by omega) (by omega)
            dsimp only at k2' k1' ke'
            have := jT_child hT.1.1 (q := G 112 ((d : Int) - 1)) (i := k') ⟨pb _ (by omega) (by omega), k2', k0', k1'⟩
            rw [show jT_c (fun z => jh G N z) (G 112 ((d : Int) - 1)) k' = G 112 ((d : Int) - 1 + 1) from ke', show (d : Int) - 1 + 1 = d by omega] at this
            exact this.1
          have P0 : G 112 0 = 0 := hs.1.1
          have nonb : ∀ p, 1 ≤ p → p < 24 → p ≠ G 112 d → (if p = G 112 ((d : Int) + 1) then jp_0 else if p = G 112 d then jp_fg (jp_del (jh G N (G 112 d)) k) else jh G N p).1 ≠ 0 → 0 < (if p = G 112 ((d : Int) + 1) then jp_0 else if p = G 112 d then jp_fg (jp_del (jh G N (G 112 d)) k) else jh G N p).2.1 := fun p p0 p1 pd kk => by
            by_cases e : p = G 112 ((d : Int) + 1)
            · rw [if_pos e] at kk; exact absurd rfl kk
            · rw [if_neg e, if_neg pd] at kk ⊢
              exact hs.2.2.1 p p0 p1 kk (by rw [ec]; exact e)
          have root1 : d = 0 → (if (0 : Int) = G 112 d then jp_fg (jp_del (jh G N (G 112 d)) k) else jh G N 0).2.1 = (jh G N 0).2.1 - 1 := fun hd0 => by
            subst hd0
            rw [show ((0 : Nat) : Int) = 0 from rfl, P0, if_pos rfl]
            rfl
          have root2 : 0 < d → (if (0 : Int) = G 112 d then jp_fg (jp_del (jh G N (G 112 d)) k) else jh G N 0) = jh G N 0 := fun hd0 => by
            have := up1 hd0
            rw [if_neg (by omega)]
          have n0 : ¬ (0 : Int) = G 112 ((d : Int) + 1) := by omega
          have hq : jT_q (fun z => if z = G 112 ((d : Int) + 1) then jp_0 else if z = G 112 d then jp_fg (jp_del (jh G N (G 112 d)) k) else jh G N z) := by
            refine ⟨G 112 d, fun p p0 p1 kk pd => nonb p p0 p1 pd kk, fun kk => ?_, fun kk kk1 p p0 p1 kk2 => ?_⟩
            · show 1 ≤ (if (0 : Int) = G 112 ((d : Int) + 1) then jp_0 else if (0 : Int) = G 112 d then jp_fg (jp_del (jh G N (G 112 d)) k) else jh G N 0).2.1
              have kk' : (if (0 : Int) = G 112 ((d : Int) + 1) then jp_0 else if (0 : Int) = G 112 d then jp_fg (jp_del (jh G N (G 112 d)) k) else jh G N 0).1 = 2 := kk
              rw [if_neg n0] at kk' ⊢
              by_cases hd0 : d = 0
              · rw [root1 hd0]
                subst hd0
                have r2 : (jh G N 0).1 = 2 := by rw [← P0]; exact k2
                have := hs.2.2.2 r2
                dsimp only at this
                omega
              · rw [root2 (by omega)] at kk' ⊢
                have := hs.2.2.2 kk'
                dsimp only at this
                omega
            · have kk' : (if (0 : Int) = G 112 ((d : Int) + 1) then jp_0 else if (0 : Int) = G 112 d then jp_fg (jp_del (jh G N (G 112 d)) k) else jh G N 0).1 = 2 := kk
              have kk1' : (if (0 : Int) = G 112 ((d : Int) + 1) then jp_0 else if (0 : Int) = G 112 d then jp_fg (jp_del (jh G N (G 112 d)) k) else jh G N 0).2.1 = 1 := kk1
              rw [if_neg n0] at kk' kk1'
              by_cases hd0 : d = 0
              · subst hd0
                exact nonb p p0 p1 (by rw [show ((0 : Nat) : Int) = 0 from rfl, P0]; omega) kk2
              · rw [root2 (by omega)] at kk' kk1'
                have := hs.2.2.2 kk'
                dsimp only at this
                omega
          obtain ⟨K', b, r1, r2, r3⟩ := jgoes (hY.lvl (v := d)) hM hκ hB hW edge ke hb hq
          have g9 : jk_g jQ9 K K' := ((jk_g.s (jk_s.u (S := fun n => n = 79) rfl)).mono (fun n e => Or.inr e)).trans (r2.mono (fun n e => Or.inl e))
          have step2 : ∀ s, jk_sh (s + 1) K 1 i = jk_sh s K' b (i + 1) := fun s => by
            rw [step, if_pos (show 0 < d + 1 ∧ (jh G N (G 112 ((d : Int) + 1))).1 ≠ 0 ∧ (jh G N (G 112 ((d : Int) + 1))).2.1 = 0 from ⟨by omega, v1, hb⟩), if_neg (show ¬ (1 : Int) = 0 by decide), e70, jo_bs]
            dsimp only
            rw [e82, jo_bs]
            dsimp only
            rw [r1, jo_bs]
            dsimp only
            rw [if_pos (by omega)]
          rcases r3 with ⟨G1, G', N', t1, t2, t3, t4⟩ | ⟨G', t1, t2, t3, t4⟩
          · rw [t1, jo_bs]
            dsimp only
            rw [if_pos t2, t3, jo_bs]
            dsimp only
            rw [if_pos (by omega)]
            rcases t4 with ⟨eb, ⟨a1, a8, a9⟩, a2, a3⟩ | ⟨eb, a1, a2⟩
            · have n120 : ∀ n, n < 98 → n < (jc_ui K 79 3 d).1.1 := fun n hn => by have := hY.2.2.2.1.1; show n < K.1.1; omega
              have nq : ∀ n, n = 79 ∨ n = 80 → ¬ jQ n := fun n hn z => by unfold jQ jS_n at z; omega
              have hd' : jc_i K' 79 3 = d := by rw [r2.2.2.2 79 3 (n120 79 (by decide)) (nq 79 (Or.inl rfl)), jc_uH]
              have hw' : ∀ j : Int, 0 ≤ j → j ≤ d → jc_i K' 80 j = G' 112 j := fun j j0 j1 => by
                rw [r2.2.2.2 80 j (n120 80 (by decide)) (nq 80 (Or.inr rfl)), jc_uN (by decide), a1.2.2.2.1]
                exact hw j j0 (by omega)
              subst eb
              have s' : jS_h (fun z => jh G' N' z) (fun j => G' 112 j) d := by
                have eP : (fun j => G' 112 j) = fun j => G 112 j := funext (fun j => a1.2.2.2.1 j)
                rw [eP]
                rcases a3 with a3 | ⟨a3, a4, a5⟩
                · by_cases hd0 : d = 0
                  · have z := jT_z.of (g := fun z => if z = G 112 ((d : Int) + 1) then jp_0 else if z = G 112 d then jp_fg (jp_del (jh G N (G 112 d)) k) else jh G N z) (g' := fun z => jh G' N' z) a3 (fun p p0 p1 kk => nonb p p0 p1 (by rw [hd0, show ((0 : Nat) : Int) = 0 from rfl, P0]; omega) kk) hq.elim2 a2
                    subst hd0
                    exact ⟨⟨P0, fun j j0 j1 => pb j j0 (by omega)⟩, fun j j0 j1 => by omega, fun p p0 p1 kk _ => z.1 p p0 p1 kk, z.2⟩
                  · refine jS_h.e (g := fun z => if z = G 112 ((d : Int) + 1) then jp_0 else if z = G 112 d then jp_fg (jp_del (jh G N (G 112 d)) k) else jh G N z) ⟨⟨P0, fun j j0 j1 => pb j j0 (by omega)⟩, fun j j0 j1 => ?_, fun p p0 p1 kk pd => nonb p p0 p1 pd kk, fun kk => ?_⟩ a3
                    · have rkd : ∀ j : Int, 0 ≤ j → j < ((d + 1 : Nat) : Int) → rk (G 112 (j + 1)) < rk (G 112 j) := fun j j0 j1 => by
                        obtain ⟨y1, k', y2, y3, y4⟩ := hs.2.1 j j0 j1
                        dsimp only at y1 y3 y4
                        have := (hT.1.2.2.1 (G 112 j) k' ⟨pb j j0 (by omega), y1, y2, y3⟩).2.1
                        rw [show jT_c (fun z => jh G N z) (G 112 j) k' = G 112 (j + 1) from y4] at this
                        exact this
                      have r1 := jch_rk (P := fun j => G 112 j) (d := d + 1) rkd ((d : Int) - j - 1).toNat j j0 (by omega)
                      have r2 := jch_rk (P := fun j => G 112 j) (d := d + 1) rkd ((d : Int) - j).toNat j j0 (by omega)
                      rw [show j + ((((d : Int) - j - 1).toNat : Nat) : Int) + 1 = d by omega] at r1
                      rw [show j + ((((d : Int) - j).toNat : Nat) : Int) + 1 = (d : Int) + 1 by omega] at r2
                      have ne1 : ¬ G 112 j = G 112 d := fun e => by rw [e] at r1; omega
                      have ne2 : ¬ G 112 j = G 112 ((d : Int) + 1) := fun e => by rw [e] at r2; omega
                      have := hs.2.1 j j0 (by omega)
                      dsimp only at this ⊢
                      rw [if_neg ne2, if_neg ne1]
                      exact this
                    · have kk' : (if (0 : Int) = G 112 ((d : Int) + 1) then jp_0 else if (0 : Int) = G 112 d then jp_fg (jp_del (jh G N (G 112 d)) k) else jh G N 0).1 = 2 := kk
                      show 2 ≤ (if (0 : Int) = G 112 ((d : Int) + 1) then jp_0 else if (0 : Int) = G 112 d then jp_fg (jp_del (jh G N (G 112 d)) k) else jh G N 0).2.1
                      rw [if_neg n0, root2 (by omega)] at kk' ⊢
                      exact hs.2.2.2 kk'
                · by_cases hd0 : d = 0
                  · subst hd0
                    exact ⟨⟨P0, fun j j0 j1 => pb j j0 (by omega)⟩, fun j j0 j1 => by omega, fun p p0 p1 kk _ => a3.1 p p0 p1 kk, a3.2⟩
                  · rw [root2 (by omega)] at a4 a5
                    have := hs.2.2.2 a4
                    dsimp only at this
                    omega
              obtain ⟨s, K2, G2, st, N2, q0, q1, q2, q3, q4⟩ := ih m' (i + 1) K' G' N' a1.1 a1.2.2.1 hd' hw' s' (by omega) (by omega) (by omega)
              refine ⟨s + 1, K2, G2, st, N2, ⟨by omega, fun z => by have := q0.2 z; omega⟩, by rw [step2]; exact q1, q2, g9.trans q3, ?_⟩
              rcases q4 with ⟨e, y1, y2, y3⟩ | y
              · exact Or.inl ⟨e, a1.trans y1, y2, fun j => (y3 j).trans (a9 j)⟩
              · exact Or.inr y
            · subst eb
              cases m' with
              | zero => omega
              | succ m' =>
                refine ⟨2, K', G', 0, N, ⟨by omega, fun z => absurd z (by decide)⟩, ?_, ?_, g9, Or.inr ⟨rfl, a1, a2⟩⟩
                · rw [step2]
                  unfold jk_sh
                  rw [if_neg (by omega), if_pos rfl]
                · unfold fo183_7
                  rw [if_neg a1.h7]
          · subst t2
            rw [t1, jo_bs]
            dsimp only
            rw [if_neg t3.h7, if_pos (by omega)]
            cases m' with
            | zero => omega
            | succ m' =>
              refine ⟨2, K', G', 0, N, ⟨by omega, fun z => absurd z (by decide)⟩, ?_, ?_, g9, Or.inr ⟨rfl, t3, t4⟩⟩
              · rw [step2]
                unfold jk_sh
                rw [if_neg (by omega), if_pos rfl]
              · unfold fo183_7
                rw [if_neg t3.h7]
        · rw [if_neg hb]
          refine ⟨1, K, G, 1, N, ⟨by omega, fun _ => by omega⟩, by rw [step, if_neg (show ¬ (0 < d + 1 ∧ (jh G N (G 112 ((d : Int) + 1))).1 ≠ 0 ∧ (jh G N (G 112 ((d : Int) + 1))).2.1 = 0) from fun z => hb z.2.2), if_pos rfl], rfl, jk_g.refl, Or.inl ⟨rfl, ⟨hY, (jw_s.refl G).V hY.h12, hM, fun _ => rfl, rfl, jNo.refl _ _⟩, hs.z ?_, fun _ => rfl⟩⟩
          show 0 < (jh G N (G 112 ((d + 1 : Nat) : Int))).2.1
          rw [ec]
          omega
