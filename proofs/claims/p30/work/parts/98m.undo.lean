/-! A CHANGE UNDONE: goBack()'s step and undoes() -/
theorem jk_sh_92 (l1 l2 l3 l4 : Int) (l5 : Nat) : ∀ (s m : Nat) (K : jc_K) (st i : Int) (K' : jc_K) (st' : Int), jk_sh s K st i = some (K', st') → s ≤ m → ∃ j, j ≤ s ∧ fc92_s m 163 K l1 l2 l3 l4 l5 st i = (if st' = 0 then some (K', 0) else (if -2147483648 ≤ ((jc_i K' 81 4) + 1) ∧ ((jc_i K' 81 4) + 1) < 2147483648 then if -2147483648 ≤ (l3 + 1) ∧ (l3 + 1) < 2147483648 then fc92_s (m - j) 7 (jc_ui K' 81 4 ((jc_i K' 81 4) + 1)) l1 l2 (l3 + 1) 0 0 0 0 else none else none))
  | 0, m, K, st, i, K', st', h, _ => by cases h
  | s + 1, 0, K, st, i, K', st', _, h2 => by omega
  | s + 1, m + 1, K, st, i, K', st', h, h2 => by
    unfold jk_sh at h
    have u : fc92_s (m + 1) 163 K l1 l2 l3 l4 l5 st i = (if 24 ≤ i then (if st = 0 then (some (K, 0)) else (if -2147483648 ≤ ((jc_i K 81 4) + 1) ∧ ((jc_i K 81 4) + 1) < 2147483648 then if -2147483648 ≤ (l3 + 1) ∧ (l3 + 1) < 2147483648 then fc92_s m 7 (jc_ui K 81 4 ((jc_i K 81 4) + 1)) l1 l2 (l3 + 1) 0 0 0 0 else none else none)) else (if st = 0 then (some (K, 0)) else ((fc81 K ).bind fun x45 => if x45.2 = 0 then (if -2147483648 ≤ ((jc_i (x45.1) 81 4) + 1) ∧ ((jc_i (x45.1) 81 4) + 1) < 2147483648 then if -2147483648 ≤ (l3 + 1) ∧ (l3 + 1) < 2147483648 then fc92_s m 7 (jc_ui (x45.1) 81 4 ((jc_i (x45.1) 81 4) + 1)) l1 l2 (l3 + 1) 0 0 0 0 else none else none) else ((fc70 (x45.1) ).bind fun x51 => (fc82 (x51.1) ).bind fun x53 => (fc83 (x53.1) (x51.2) (x53.2)).bind fun x55 => if -2147483648 ≤ (i + 1) ∧ (i + 1) < 2147483648 then fc92_s m 163 (x55.1) l1 l2 l3 l4 l5 (x55.2) (i + 1) else none)))) := by
      conv => lhs; unfold fc92_s
      rw [if_neg (show ¬ (163 : Nat) = 7 by decide), if_pos rfl]
    rw [u]
    by_cases h1 : 24 ≤ i
    · rw [if_pos h1] at h ⊢
      obtain ⟨e1, e2⟩ := Prod.mk.inj (Option.some.inj h)
      subst e1 e2
      exact ⟨1, by omega, rfl⟩
    · rw [if_neg h1] at h ⊢
      by_cases h3 : st = 0
      · rw [if_pos h3] at h ⊢
        obtain ⟨e1, e2⟩ := Prod.mk.inj (Option.some.inj h)
        subst e1 e2
        exact ⟨1, by omega, by rw [if_pos rfl]⟩
      · rw [if_neg h3] at h ⊢
        cases h81 : fc81 K with
        | none => rw [h81] at h; cases h
        | some x =>
          rw [h81, jo_bs] at h
          rw [jo_bs]
          by_cases h4 : x.2 = 0
          · rw [if_pos h4] at h ⊢
            obtain ⟨e1, e2⟩ := Prod.mk.inj (Option.some.inj h)
            subst e1 e2
            exact ⟨1, by omega, by rw [if_neg h3]; rfl⟩
          · rw [if_neg h4] at h ⊢
            cases h70 : fc70 x.1 with
            | none => rw [h70] at h; cases h
            | some y =>
              rw [h70, jo_bs] at h
              rw [jo_bs]
              cases h82 : fc82 y.1 with
              | none => rw [h82] at h; cases h
              | some z =>
                rw [h82, jo_bs] at h
                rw [jo_bs]
                cases h83 : fc83 z.1 y.2 z.2 with
                | none => rw [h83] at h; cases h
                | some w =>
                  rw [h83, jo_bs] at h
                  rw [jo_bs]
                  by_cases h5 : -2147483648 ≤ (i + 1) ∧ (i + 1) < 2147483648
                  · rw [if_pos h5] at h ⊢
                    obtain ⟨j, j1, j2⟩ := jk_sh_92 l1 l2 l3 l4 l5 s m w.1 w.2 (i + 1) K' st' h (by omega)
                    exact ⟨j + 1, by omega, by rw [j2, show m + 1 - (j + 1) = m - j by omega]⟩
                  · rw [if_neg h5] at h
                    cases h
def jQB (n : Nat) : Prop := jQ n ∨ n = 79 ∨ n = 80
/-- a step back: the class's, behind the record looked at -/
def jk_un (m : Nat) (K : jc_K) (key : Int) (l1 l2 l3 t : Int) (q : Nat) : Option (jc_K × Int) := (fc71 K key).bind fun x22 => if x22.2 = 0 then (fc92_s m 163 (x22.1) l1 l2 l3 t q 0 0) else ((fc95 (x22.1) q).bind fun x25 => if x25.2 = 0 then (fc92_s m 163 (x25.1) l1 l2 l3 t q 0 0) else ((fc80 (x25.1) (jc_i (x25.1) 63 4)).bind fun x28 => if x28.2 = 0 then (fc92_s m 163 (x28.1) l1 l2 l3 t q 0 0) else (fc92_s m 163 (x28.1) l1 l2 l3 t q 1 0)))
section Un
variable {K : jc_K} {G : jg_G} {N x κ B : Nat} {W : jZW} {t : Int}
theorem jundoes {R : Nat} (hY : jY K G N x) (hM : jM G N κ W B) (hκ : κ ≤ 513) (hB : B ≤ 223) (hW : W.1 ≤ 2000000000) (hz : jT_z (fun z => jh G N z)) (ht : 0 ≤ t ∧ t < 4) (hR : 1 ≤ R ∧ R ≤ N) (h98 : G 98 R = 0) (h99 : G 99 R = t) (hpl : jpl G N (jt G t N) = jpl G N (G 100 R) + 1) (ho : 0 < jt G t N) (hzl : jzL G t N = (R : Int) :: jzL G t (R - 1)) (l1 l2 l3 : Int) (m : Nat) (hm : 40 ≤ m) : ∃ (K' : jc_K) (G' : jg_G) (st : Int) (N' j : Nat), jk_un m K (G 101 R) l1 l2 l3 t (jc_p K 64 ((R : Int) - 1)) = (if st = 0 then some (K', 0) else (if -2147483648 ≤ ((jc_i K' 81 4) + 1) ∧ ((jc_i K' 81 4) + 1) < 2147483648 then if -2147483648 ≤ (l3 + 1) ∧ (l3 + 1) < 2147483648 then fc92_s (m - j) 7 (jc_ui K' 81 4 ((jc_i K' 81 4) + 1)) l1 l2 (l3 + 1) 0 0 0 0 else none else none)) ∧ fo186 G t R = some (G', 0) ∧ jk_g jQB K K' ∧ ((st = 1 ∧ (j + N ≤ N' ∧ N + 1 ≤ N') ∧ jY K' G' N' x ∧ jV G G' N N' ∧ jM G' N' κ W B ∧ jT_z (fun z => jh G' N' z) ∧ jpl G' N' (jt G' t N') = jpl G N (G 100 R) ∧ 0 < jt G' t N' ∧ (∀ s, 0 ≤ s → s < 4 → s ≠ t → jt G' s N' = jt G s N) ∧ jzL G' t N' = jzL G t (R - 1) ∧ (∀ y, jzA G' y N' = if y = G 101 R then G 102 R else jzA G y N) ∧ jzn G' t N' = jzn G t N + 1) ∨ (st = 0 ∧ jE K' G' x ∧ jMf G' κ W B)) := by
  have hN := hM.len hκ hB
  have jR := hM.1.1.1 R hR.1 hR.2
  have vR := (hY.2.1.2 R hR.1 hR.2).2.2.2.2.1 (by rw [h98]; decide)
  obtain ⟨K1, G1, b1, u1, u2, u3, u4⟩ := jM_find hY hM hκ hB hW vR.1 hz.pos
  have g1 : jk_g jQB K K1 := (jk_g.s u3).mono (fun n e => by unfold jF_n at e; unfold jQB jQ; rcases e with e | e | e; exact Or.inl (Or.inl e); exact Or.inr (Or.inl e); exact Or.inr (Or.inr e))
  unfold jk_un
  rw [u1, jo_bs]
  dsimp only
  rcases u4 with ⟨e, y1, y2, y3, L, w, hL⟩ | ⟨e, y1, y2⟩
  · rw [if_neg (by omega)]
    have hh : ∀ z, jh G1 N z = jh G N z := fun z => y3.l.h N z
    have hl := y3.l.a N
    have hz1 := hz.same hh
    have e98 : G1 98 R = 0 := by rw [hl.l (m := 98) (by decide) (by omega) (by omega)]; exact h98
    have e99 : G1 99 R = t := by rw [hl.l (m := 99) (by decide) (by omega) (by omega)]; exact h99
    have e100 : G1 100 R = G 100 R := hl.l (m := 100) (by decide) (by omega) (by omega)
    have e101 : G1 101 R = G 101 R := hl.l (m := 101) (by decide) (by omega) (by omega)
    have ejt : ∀ s, jt G1 s N = jt G s N := fun s => hl.t s N (Int.le_refl _)
    have ar := jR.ah hR.1
    have bt := jt_b G t N
    have epl : ∀ r : Int, r ≤ N → jpl G1 N r = jpl G N r := fun r hr => hl.pl hM.1.1.1 N r hr
    have w' : jW K1 G1 N (G1 101 R) L := by rw [e101]; exact w
    have pb := (w.2.1 L (by omega) (Int.le_refl _)).2
    obtain ⟨_, _, _, s4, s5, s6⟩ := y1.seen pb
    obtain ⟨was, ref⟩ := jo_186 (G := G1) (G0 := G) (N := N) (L := L) (R := R) (t := t) (p := G1 112 L) u2 y1.h7 y1.h12 (by omega) hR ⟨by omega, ht.2⟩ w.1.2 hL rfl pb s4 s5 s6
    obtain ⟨K2, K3, G2, b2, a0, a1, a2, a3, a4⟩ := jM_undo (was := was) y1 y2 hκ hB hW ht hR e98 e99 (by rw [ejt, epl _ bt.2, e100, epl _ (by omega)]; exact hpl) w' hL hz1 (by rw [ejt]; exact ho) ⟨_, (hl.zL t N (Int.le_refl _)).trans hzl⟩
    have e64 : jc_p K1 64 ((R : Int) - 1) = jc_p K 64 ((R : Int) - 1) := by unfold jc_p; rw [u3.1.2.2]
    rw [e64] at a0
    rw [a0, jo_bs]
    dsimp only
    rw [if_neg (by decide), a1, jo_bs, ref, a2, jo_bs]
    dsimp only
    have n120 : ∀ n, n < 98 → n < K1.1.1 := fun n hn => by have := y1.2.2.2.1.1; omega
    have nq : ∀ n, n = 79 ∨ n = 80 → ¬ jQ n := fun n hn z => by unfold jQ jS_n at z; omega
    have g3 : jk_g jQB K K3 := g1.trans (a3.mono (fun n e => Or.inl e))
    rcases a4 with ⟨e2, z1, z2, z3, z4, z5, z6, z7, z8⟩ | ⟨e2, z1, z2, z29⟩
    · rw [if_neg (by omega)]
      have hd : jc_i K3 79 3 = L := by rw [a3.2.2.2 79 3 (n120 79 (by decide)) (nq 79 (Or.inl rfl))]; exact w.1.1
      have hw : ∀ j : Int, 0 ≤ j → j ≤ L → jc_i K3 80 j = G2 112 j := fun j j0 j1 => by
        rw [a3.2.2.2 80 j (n120 80 (by decide)) (nq 80 (Or.inr rfl)), z1.2.2.2.1]
        exact (w.2.1 j j0 j1).1
      have e183 : fo183 G2 = fo183_7 jo_N G2 L := by
        unfold fo183
        rw [z1.2.2.2.2, w.1.2, show (L : Int) + 1 - 1 = L by omega, if_pos (by omega)]
      obtain ⟨s, K', G', st, N', ⟨q0, q0'⟩, q1, q2, q3, q4⟩ := jshr hκ hB hW L jo_N 0 K3 G2 (N + 1) z1.1 z1.2.2.1 hd hw z2 (by decide) (by omega) (by unfold jo_N; omega)
      obtain ⟨j, j1, j2⟩ := jk_sh_92 l1 l2 l3 t (jc_p K 64 ((R : Int) - 1)) s m K3 1 0 K' st q1 (by omega)
      rw [j2, e183, q2, jo_bs]
      have g5 : jk_g jQB K K' := g3.trans (q3.mono (fun n e => by unfold jQ9 at e; unfold jQB; rcases e with e | e; exact Or.inl e; exact Or.inr (Or.inl e)))
      refine ⟨K', G', st, N', j, rfl, rfl, g5, ?_⟩
      rcases q4 with ⟨es, x1, x2, x3⟩ | y
      · have hv : jV G G' N N' := ((y3.V hY.h12).trans z1.2.1).trans x1.2.1
        have hN' := hv.1.2.1
        have le := x1.2.1.1.2.1
        have c1 := q0' es
        have j108 : ∀ s, 0 ≤ s → s < 4 → jt G' s N' = jt G2 s (N + 1) := fun s s0 s1 => by
          rw [← x1.2.2.1.2.1 s s0 s1, x3, z1.2.2.1.2.1 s s0 s1]
        have lt2 : jt G2 t (N + 1) = (N : Int) + 1 := by rw [z5 t ht.1 ht.2, if_pos rfl]
        refine Or.inl ⟨es, ⟨by omega, by omega⟩, x1.1, hv, x1.2.2.1, x2, ?_, by rw [j108 t ht.1 ht.2, lt2]; omega, fun s s0 s1 hne => by rw [j108 s s0 s1, z5 s s0 s1, if_neg hne, ejt], ?_⟩
        rotate_left
        · have sem := jNo.all x1.2.1.1.1 x1.2.1.1.2.1 x1.2.2.1.1.1.F x1.2.2.2.2.2
          have hl2 := z1.2.1.1.1
          refine ⟨?_, fun y => ?_, by rw [jzn_ot x1.2.1.1.1 (j108 t ht.1 ht.2), jzn_k z6 (by rw [z3]; decide), hl2.zn t N (Int.le_refl _), hl.zn t N (Int.le_refl _)]⟩
          · rw [sem.2.1 t ht.1, jzL_1 z6 z3, hl2.zL t N (Int.le_refl _), hl.zL t N (Int.le_refl _), hzl]
            rfl
          · rw [sem.1 y]
            by_cases e : y = G 101 R
            · rw [if_pos e, jzA_k (by rw [z3]; decide) (by rw [z7, e101, e]), z8, hl.l (m := 102) (by decide) (by omega) (by omega)]
            · rw [if_neg e, jzA_o (fun w => e (by rw [← w.2, z7, e101])), hl2.zA y N (Int.le_refl _), hl.zA y N (Int.le_refl _)]
        rw [j108 t ht.1 ht.2, lt2]
        have L' := x1.2.2.1.1.1
        rw [jpl_f L'.1 N' (N + 1) _ (by omega) (by omega) (by omega), x1.2.1.1.1.pl z1.2.2.1.1.1.1 (N + 1) _ (by omega)]
        show (if (N : Int) + 1 ≤ 0 then 0 else if G2 98 ((N : Int) + 1) = 0 then jpl G2 N (G2 100 ((N : Int) + 1)) + 1 else if G2 98 ((N : Int) + 1) = 1 then jpl G2 N (G2 100 (G2 104 ((N : Int) + 1))) else jpl G2 N (G2 100 ((N : Int) + 1))) = _
        rw [if_neg (by omega), z3, if_neg (by decide), if_pos rfl, z4]
        have hl2 := z1.2.1.1.1
        rw [hl2.l (m := 100) (by decide) (by omega) (by omega), e100, hl2.pl y2.1.1.1 N _ (by omega), epl _ (by omega)]
      · exact Or.inr y
    · rw [if_pos e2]
      obtain ⟨j, j1, j2⟩ := jk_sh_92 l1 l2 l3 t (jc_p K 64 ((R : Int) - 1)) 1 m K3 0 0 K3 0 (by unfold jk_sh; rw [if_neg (by decide), if_pos rfl]) (by omega)
      rw [j2, if_pos rfl]
      have e183 : fo183 G2 = some (G2, 0) := by
        unfold fo183
        rw [z29, w.1.2, if_pos (by omega), show jo_N = 3999 + 1 from rfl]
        unfold fo183_7
        rw [if_neg z1.h7]
      rw [e183, jo_bs]
      exact ⟨K3, G2, 0, N, 0, by rw [if_pos rfl], rfl, g3, Or.inr ⟨rfl, z1, z2⟩⟩
  · rw [if_pos e]
    obtain ⟨j, j1, j2⟩ := jk_sh_92 l1 l2 l3 t (jc_p K 64 ((R : Int) - 1)) 1 m K1 0 0 K1 0 (by unfold jk_sh; rw [if_neg (by decide), if_pos rfl]) (by omega)
    rw [j2, if_pos rfl]
    refine ⟨K1, G1, 0, N, 0, by rw [if_pos rfl], ?_, g1, Or.inr ⟨rfl, y1, y2⟩⟩
    unfold fo186
    rw [if_pos ⟨by omega, by omega⟩, u2, jo_bs]
    dsimp only
    rw [if_neg y1.h7]
end Un
