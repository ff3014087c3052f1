/-! PLACE MADE FOR A KEY: splitFor() and put()'s loop -/
theorem jMf.le {G : jg_G} {κ κ' B B' : Nat} {W : jZW} (h : jMf G κ W B) (h1 : κ ≤ κ') (h3 : B ≤ B') : jMf G κ' W B' := by
  obtain ⟨n, a, b, c, d, e, f⟩ := h
  exact ⟨n, a, b, by omega, by omega, e, f⟩
theorem jM.le {G : jg_G} {N κ κ' B B' : Nat} {W : jZW} (h : jM G N κ W B) (h1 : κ ≤ κ') (h3 : B ≤ B') : jM G N κ' W B' := by
  obtain ⟨a, b, c, d, e, f⟩ := h
  exact ⟨a, b, c, by omega, by omega, f⟩
theorem jnf_24 (g : Int → jp_C) : jnf g ≤ 24 := by
  have := jsum_le (f := fun p => if (g p).1 = 0 then 0 else 1) (g := fun _ => 1) 24 (fun i hi => by
    show (if (g i).1 = 0 then 0 else 1) ≤ 1
    split <;> decide)
  have e24 : jsum (fun _ => 1) 24 = 24 := rfl
  rw [e24] at this
  exact this
theorem jT_z.same {G G' : jg_G} {N N' : Nat} (h : jT_z (fun z => jh G N z)) (hh : ∀ z, jh G' N' z = jh G N z) : jT_z (fun z => jh G' N' z) := by
  have : (fun z => jh G' N' z) = fun z => jh G N z := funext hh
  rw [this]
  exact h
theorem jT_z.pos {G : jg_G} {N : Nat} (h : jT_z (fun z => jh G N z)) : ∀ q, 0 ≤ q → q < 24 → (jh G N q).1 = 2 → 0 < (jh G N q).2.1 := fun q q0 q1 k => by
  by_cases e : q = 0
  · subst e
    have : 2 ≤ (jh G N 0).2.1 := h.2 k
    omega
  · exact h.1 q (by omega) q1 (by show (jh G N q).1 ≠ 0; omega)
def jQF (n : Nat) : Prop := jF_n n ∨ jQ n
def jfin (G1 : jg_G) (l1 key l3 : Int) : Option (jg_G × Int) := (fo192 G1 l1 key l3).bind fun x => if (x.1) 92 7 = 0 then (some (x.1, 0)) else (some (x.1, (-4)))
theorem jput_l {x κ : Nat} {W : jZW} {key : Int} (hκ : κ ≤ 513) (hW : W.1 ≤ 2000000000) (hk : 0 ≤ key ∧ key < 32) (l1 l3 l4 : Int) : ∀ (m m' : Nat) (i : Int) (K : jc_K) (G : jg_G) (N B : Nat), jY K G N x → jM G N κ W B → jT_z (fun z => jh G N z) → 0 ≤ i → i + 1 ≤ jnf (fun z => jh G N z) → B + 24 ≤ 222 + jnf (fun z => jh G N z) → 24 < jnf (fun z => jh G N z) + m → 780 ≤ m' + 30 * jnf (fun z => jh G N z) → ∃ K' a, fc143_2 m K key i = some (K', a) ∧ jk_g jQF K K' ∧ ((a = 0 ∧ ∃ G1 N1 B1 L, ((fo175 G key).bind fun y => fo193_s m' 97 (y.1) l1 key l3 l4 0) = jfin G1 l1 key l3 ∧ jY K' G1 N1 x ∧ jV G G1 N N1 ∧ jM G1 N1 κ W B1 ∧ B1 ≤ 222 ∧ jT_z (fun z => jh G1 N1 z) ∧ jW K' G1 N1 key L ∧ L < 24 ∧ (∀ j, G1 108 j = G 108 j) ∧ jNo G1 N N1) ∨ (a = -5 ∧ ∃ G1 N1 B1, ((fo175 G key).bind fun y => fo193_s m' 97 (y.1) l1 key l3 l4 0) = some (G1, -5) ∧ jY K' G1 N1 x ∧ jV G G1 N N1 ∧ jM G1 N1 κ W B1 ∧ B1 ≤ 222 ∧ jT_z (fun z => jh G1 N1 z) ∧ (∀ j, G1 108 j = G 108 j) ∧ jNo G1 N N1) ∨ (a = -4 ∧ ∃ G1, ((fo175 G key).bind fun y => fo193_s m' 97 (y.1) l1 key l3 l4 0) = some (G1, -4) ∧ jE K' G1 x ∧ jMf G1 κ W 223)) := by
  intro m
  induction m with
  | zero =>
    intro m' i K G N B hY hM hz h0 h1 h2 h3 h4
    have := jnf_24 (fun z => jh G N z)
    omega
  | succ m ih =>
    intro m' i K G N B hY hM hz h0 h1 h2 h3 h4
    have n24 := jnf_24 (fun z => jh G N z)
    cases m' with
    | zero => omega
    | succ m' =>
      unfold fc143_2
      rw [if_neg (by omega)]
      obtain ⟨K1, G1, b1, u1, u2, u3, u4⟩ := jM_find hY hM hκ (by omega) hW hk hz.pos
      rw [u1, jo_bs, u2, jo_bs]
      dsimp only
      have g1 : jk_g jQF K K1 := (jk_g.s u3).mono (fun n e => Or.inl e)
      rcases u4 with ⟨e, y1, y2, y3, L, w, hL⟩ | ⟨e, y1, y2⟩
      · rw [if_neg (by omega)]
        have hh : ∀ z, jh G1 N z = jh G N z := fun z => y3.l.h N z
        have hz1 := hz.same hh
        have nfs : jnf (fun z => jh G1 N z) = jnf (fun z => jh G N z) := jnf_e (fun z _ _ => by
          show (jh G1 N z).1 = 0 ↔ (jh G N z).1 = 0
          rw [hh])
        have pb := (w.2.1 L (by omega) (Int.le_refl _)).2
        have w29 : G1 92 29 - 1 = L := by rw [w.1.2]; omega
        have wl := w.2.2.2.2
        obtain ⟨s1, s2, s3, s4, s5, s6⟩ := y1.seen pb
        obtain ⟨kc, vc, c1, c2⟩ := jk_fc42 (x := key) s6 wl s3
        obtain ⟨kr, d1, d2⟩ := jr_pl (x := key) s5 s6.1.1 s6.1.2
        have ekr : kr = kc := jp_pl_u d1 c2.1
        subst ekr
        have e73 : fc73 K1 key = some (K1, if 4 ≤ (jh G1 N (G1 112 L)).2.1 ∧ vc = -1 then 1 else 0) := by
          unfold fc73
          rw [w.end' hL, jo_bs]
          dsimp only
          rw [s1, jo_bs]
          dsimp only
          rw [if_neg (by omega), if_pos s3.1, s3.2.2.1]
          by_cases h : (jh G1 N (G1 112 L)).2.1 < 4
          · rw [if_pos h, if_neg (fun z => by omega)]
          · rw [if_neg h, c1, jo_bs]
            dsimp only
            by_cases h2 : vc = -1
            · rw [if_pos h2, if_pos ⟨by omega, h2⟩]
            · rw [if_neg h2, if_neg (fun z => h2 z.2)]
        have there : vc = -1 ↔ ¬ (kr < (jh G1 N (G1 112 L)).2.1 ∧ (jh G1 N (G1 112 L)).2.2.1 kr = key) := by
          rw [c2.2]
          by_cases h : kr < (jh G1 N (G1 112 L)).2.1 ∧ (jh G1 N (G1 112 L)).2.2.1 kr = key
          · have := (jp_cell s6 (i := kr) d1.1.1 h.1).2
            rw [if_pos h]
            exact ⟨fun z => by omega, fun z => absurd h z⟩
          · rw [if_neg h]
            exact ⟨fun _ => h, fun _ => rfl⟩
        have ref : fo193_s (m' + 1) 97 G1 l1 key l3 l4 0 = if 4 ≤ (jh G1 N (G1 112 L)).2.1 ∧ vc = -1 then fo193_s m' 153 G1 l1 key l3 l4 L else jfin G1 l1 key l3 := by
          conv => lhs; unfold fo193_s
          rw [if_pos rfl, if_pos y1.h7]
          simp only [w29]
          rw [if_pos (show 0 ≤ (L : Int) ∧ (L : Int) < 25 by omega), if_pos pb, jo_le, if_pos (show 0 ≤ fr_ro G1 (G1 112 L) ∧ fr_ro G1 (G1 112 L) < 4554 by omega), if_pos (by rw [s5.2.1]; exact s6.1), jo_le, d2]
          by_cases h : kr < (jh G1 N (G1 112 L)).2.1 ∧ (jh G1 N (G1 112 L)).2.2.1 kr = key
          · have k0 := d1.1.1
            rw [if_pos h, if_pos k0, if_neg (fun z => (there.1 z.2) h)]
            rfl
          · have k0 := d1.1.1
            rw [if_neg h, if_neg (show ¬ 0 ≤ -1 - kr by omega), y1.full pb, jo_bs]
            dsimp only
            by_cases h4 : (jh G1 N (G1 112 L)).2.1 < 4
            · rw [if_pos h4, if_pos rfl, if_pos y1.h7, if_neg (fun z => by omega)]
              rfl
            · rw [if_neg h4, if_neg (show ¬ (1 : Int) = 0 by decide), w29, if_pos (show -2147483648 ≤ (L : Int) ∧ (L : Int) < 2147483648 by omega), if_pos ⟨by omega, there.2 h⟩]
        rw [e73, jo_bs, ref]
        dsimp only
        by_cases full : 4 ≤ (jh G1 N (G1 112 L)).2.1 ∧ vc = -1
        · rw [if_pos full, if_neg (show ¬ (1 : Int) = 0 by decide), if_pos full]
          obtain ⟨K2, a, q1, q2, q3⟩ := jsplit y1 y2 hκ (by omega) hW w hL hz1 full.1 l1 l3 l4 (m' - L - 1) (fun x13 => if -2147483648 ≤ (i + 1) ∧ (i + 1) < 2147483648 then fc143_2 m (x13.1) key (i + 1) else none)
          rw [show m' - L - 1 + L + 1 = m' by omega] at q3
          rw [q1]
          have g2 : jk_g jQF K K2 := g1.trans (q2.mono (fun n e => Or.inr e))
          rcases q3 with ⟨ea, q3⟩ | ⟨ea, G2, n, q3, q4, q5⟩ | ⟨ea, G2, n, q3, q4, q5, q6, q7⟩
          · rw [if_pos ea, q3]
            exact ⟨K1, -5, rfl, g1, Or.inr (Or.inl ⟨rfl, G1, N, B, rfl, y1, y3.V hY.h12, y2, by omega, hz1, fun j => y3.1 108 (by decide) (by decide) j, jNo.refl _ _⟩)⟩
          · rw [if_neg (by omega), if_pos ea, q3]
            refine ⟨K2, -4, rfl, g2, Or.inr (Or.inr ⟨rfl, G2, ?_, q4, q5.le (Nat.le_refl _) (by omega)⟩)⟩
            rw [show m' - L - 1 + n = (m' - L - 2 + n) + 1 by omega]
            unfold fo193_s
            rw [if_pos rfl, if_neg q4.h7]
          · rw [if_neg (by omega), if_neg (by omega), if_pos (by omega), q3]
            obtain ⟨K', a', r1, r2, r3⟩ := ih (m' - L - 1 + n) (i + 1) K2 G2 (N + 1) (B + 1) q4.1 q4.2.2.1 q5 (by omega) (by omega) (by omega) (by omega) (by omega)
            have hv : jV G G2 N (N + 1) := (y3.V hY.h12).trans q4.2.1
            refine ⟨K', a', r1, g2.trans r2, ?_⟩
            have h108 : ∀ j, G2 108 j = G 108 j := fun j => (q7 j).trans (y3.1 108 (by decide) (by decide) j)
            rcases r3 with ⟨x1, G3, N3, B3, L3, x2, x3, x4, x5, x6, x7, x8, x9, x10, x11⟩ | ⟨x1, G3, N3, B3, x2, x3, x4, x5, x6, x7, x8, x9⟩ | x1
            · exact Or.inl ⟨x1, G3, N3, B3, L3, x2, x3, hv.trans x4, x5, x6, x7, x8, x9, fun j => (x10 j).trans (h108 j), q4.2.2.2.2.2.trans x4.1.1 x11⟩
            · exact Or.inr (Or.inl ⟨x1, G3, N3, B3, x2, x3, hv.trans x4, x5, x6, x7, fun j => (x8 j).trans (h108 j), q4.2.2.2.2.2.trans x4.1.1 x9⟩)
            · exact Or.inr (Or.inr x1)
        · rw [if_neg full, if_pos rfl, if_neg full]
          exact ⟨K1, 0, rfl, g1, Or.inl ⟨rfl, G1, N, B, L, rfl, y1, y3.V hY.h12, y2, by omega, hz1, w, hL, fun j => y3.1 108 (by decide) (by decide) j, jNo.refl _ _⟩⟩
      · rw [if_pos e]
        refine ⟨K1, -4, rfl, g1, Or.inr (Or.inr ⟨rfl, G1, ?_, y1, y2.le (Nat.le_refl _) (by omega)⟩)⟩
        unfold fo193_s
        rw [if_pos rfl, if_neg y1.h7]
