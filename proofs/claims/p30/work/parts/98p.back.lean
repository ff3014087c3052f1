/-! GOING BACK, the loop for one transaction -/
def jQU (n : Nat) : Prop := jQB n ∨ n = 81 ∨ n = 82
theorem jY.nx {K : jc_K} {G : jg_G} {N x n : Nat} {i v : Int} (h : jY K G N x) (hn : n = 81 ∨ n = 82) : jY (jc_ui K n i v) G N x :=
  h.f (S := fun m => m = 81 ∨ m = 82) (h.1.grow (S := fun m => m = 81 ∨ m = 82) (jk_g.s (jk_s.u hn)) (fun m e z => by unfold jN_k at e; omega) h.2.2.2.1.1) (jk_s.u hn) (fun m e => by omega) (jw_f.refl G)
theorem jk_fc19 {K : jc_K} {G : jg_G} {N x : Nat} (h : jY K G N x) (hN : N ≤ 1100) {r : Nat} (hr : 1 ≤ r ∧ r ≤ N) : fc19 K r = some (K, jc_p K 64 ((r : Int) - 1)) := by
  unfold fc19
  rw [h.2.1.1, if_neg (by omega), if_neg (by omega), if_neg (by omega), if_pos (by omega), jo_lne]
theorem jgb {x κ B : Nat} {W : jZW} {t pl : Int} (hκ : κ ≤ 513) (hB : B ≤ 223) (hW : W.1 ≤ 2000000000) (ht : 0 ≤ t ∧ t < 4) (hpl : 0 ≤ pl) (l2 : Int) : ∀ (b r : Nat), r ≤ b → ∀ (m m' : Nat) (i n : Int) (K : jc_K) (G : jg_G) (N : Nat), jY K G N x → jM G N κ W B → jT_z (fun z => jh G N z) → jc_i K 82 t = r → (∀ s, 0 ≤ s → s < 4 → s ≠ t → jc_i K 82 s = -1) → jch G N t r → jpl G N (jt G t N) = jpl G N r → jzL G t N = jzL G t r → (0 < r → 0 < jt G t N) → 0 ≤ i → i + r ≤ 1000 → 2 * r + 1100 ≤ m + N → r < m' → jc_i K 81 4 = n → 0 ≤ n → n + r ≤ 1000 → (∃ (K' : jc_K) (G' : jg_G) (N' m2 : Nat) (i2 : Int) (r' : Nat) (n' : Int), fc92_s m 7 K pl l2 i 0 0 0 0 = fc92_s m2 7 K' pl l2 i2 0 0 0 0 ∧ fo187_10 m' G t pl n r = some (G', n') ∧ (100 ≤ m2 ∧ 0 ≤ i2 ∧ i2 ≤ 1000) ∧ (jc_i K' 82 t = r' ∧ r' ≤ pl ∧ ∀ s, 0 ≤ s → s < 4 → s ≠ t → jc_i K' 82 s = -1) ∧ jc_i K' 81 4 = n' ∧ jk_g jQU K K' ∧ jY K' G' N' x ∧ jV G G' N N' ∧ jM G' N' κ W B ∧ jT_z (fun z => jh G' N' z) ∧ (∀ s, 0 ≤ s → s < 4 → s ≠ t → jt G' s N' = jt G s N) ∧ (0 < jt G t N → 0 < jt G' t N') ∧ jzQ G N t pl (jzL G t r) G' N' (n' - n)) ∨ (∃ (K' : jc_K) (G' : jg_G) (n' : Int), fc92_s m 7 K pl l2 i 0 0 0 0 = some (K', 0) ∧ fo187_10 m' G t pl n r = some (G', n') ∧ jk_g jQU K K' ∧ jE K' G' x ∧ jMf G' κ W B) := by
  intro b
  induction b with
  | zero =>
    intro r hr m m' i n K G N hY hM hz h82 ho hc hp hq h0 i0 i1 f1 f2 h81 n0 n1
    cases m' with
    | zero => omega
    | succ m' =>
      have hN := hM.len hκ hB
      have hL0 : ∀ u ∈ jzL G t r, u ≤ (r : Int) := fun u hu => by
        obtain ⟨q, q1, _, q3⟩ := hM.1.1.zr hc.1 ht.1 u hu
        omega
      refine Or.inl ⟨K, G, N, m, i, r, n, rfl, ?_, ⟨by omega, i0, by omega⟩, ⟨h82, by omega, ho⟩, h81, jk_g.refl, hY, (jw_s.refl G).V hY.h12, hM, hz, fun _ _ _ _ => rfl, fun z => z, jzQ.refl (fun u hu => by have := hL0 u hu; omega) hq (by omega)⟩
      unfold fo187_10
      rw [if_pos (by omega)]
  | succ b ih =>
    intro r hr m m' i n K G N hY hM hz h82 ho hc hp hq h0 i0 i1 f1 f2 h81 n0 n1
    have hN := hM.len hκ hB
    have hL0 : ∀ u ∈ jzL G t r, u ≤ (r : Int) := fun u hu => by
      obtain ⟨q, q1, _, q3⟩ := hM.1.1.zr hc.1 ht.1 u hu
      omega
    cases m' with
    | zero => omega
    | succ m' =>
      by_cases rp : (r : Int) ≤ pl
      · refine Or.inl ⟨K, G, N, m, i, r, n, rfl, ?_, ⟨by omega, i0, by omega⟩, ⟨h82, rp, ho⟩, h81, jk_g.refl, hY, (jw_s.refl G).V hY.h12, hM, hz, fun _ _ _ _ => rfl, fun z => z, jzQ.refl (fun u hu => by have := hL0 u hu; omega) hq (by omega)⟩
        unfold fo187_10
        rw [if_pos rp]
      · obtain ⟨m1, rfl⟩ : ∃ m1, m = m1 + 1 := ⟨m - 1, by omega⟩
        have r1 : 1 ≤ r := by omega
        have rN := hc.1
        obtain ⟨c99, c98⟩ := hc.2 (by omega)
        have L := hM.1.1
        have rcd := (hY.2.1.2 r r1 rN).1
        have q120 := rcd.1.1.1
        obtain ⟨y0, y1, y2, y3, y6, y7, y8⟩ := rcd.2.1
        have e93 : fc93 K pl = some (K, t) := by
          unfold fc93
          exact fc93_o ht (by rw [h82]; omega) ho jo_N 0 (-1) (by decide) (by decide) (by unfold jo_N; omega) (fun _ => rfl) (fun z => by omega)
        have n120 : 98 ≤ K.1.1 := hY.2.2.2.1.1
        have oth : ∀ v : Int, ∀ s, 0 ≤ s → s < 4 → s ≠ t → jc_i (jc_ui K 82 t v) 82 s = -1 := fun v s s0 s1 hs => by rw [jc_uI hs]; exact ho s s0 s1 hs
        have g82 : ∀ v : Int, jk_g jQU K (jc_ui K 82 t v) := fun v => jk_g.s (jk_s.u (Or.inr (Or.inr rfl)))
        have head : ∀ nxt : Int, fc94 K (jc_p K 64 ((r : Int) - 1)) = some (K, nxt) → fc92_s (m1 + 1) 7 K pl l2 i 0 0 0 0 = (if G 98 r = 0 then jk_un m1 (jc_ui K 82 t nxt) (G 101 r) pl l2 i t (jc_p K 64 ((r : Int) - 1)) else (if -2147483648 ≤ (i + 1) ∧ (i + 1) < 2147483648 then fc92_s m1 7 (jc_ui K 82 t nxt) pl l2 (i + 1) 0 0 0 0 else none)) := fun nxt h94 => by
          have ne : jc_p K 64 ((r : Int) - 1) ≠ 82 := by omega
          conv => lhs; unfold fc92_s
          rw [if_pos rfl, if_neg (by omega), e93, jo_bs]
          dsimp only
          rw [if_neg (by omega), if_pos ht, h82, if_neg rp, jk_fc19 hY (by omega) ⟨r1, rN⟩, jo_bs]
          dsimp only
          rw [if_neg (by omega), h94, jo_bs]
          dsimp only
          rw [if_pos rcd.1, jc_uN ne, jc_uN ne, y1, y3]
          rfl
        have ref : fo187_10 (m' + 1) G t pl n r = (if G 98 r = 1 then (if 0 ≤ (G 104 r) ∧ (G 104 r) < 1501 then if G 98 r = 0 then ((fo186 G t r).bind fun x11 => if -2147483648 ≤ (n + 1) ∧ (n + 1) < 2147483648 then fo187_10 m' (x11.1) t pl (n + 1) (G 100 (G 104 r)) else none) else (fo187_10 m' G t pl n (G 100 (G 104 r))) else none) else (if G 98 r = 0 then ((fo186 G t r).bind fun x6 => if -2147483648 ≤ (n + 1) ∧ (n + 1) < 2147483648 then fo187_10 m' (x6.1) t pl (n + 1) (G 100 r) else none) else (fo187_10 m' G t pl n (G 100 r)))) := by
          conv => lhs; unfold fo187_10
          rw [if_neg rp, if_pos hY.h7, if_pos ⟨by omega, by omega⟩]
        rw [ref]
        rcases c98 with k | k
        · -- a CHANGE
          obtain ⟨r', e100, hc', lt'⟩ := jch.ah L ht.1 r1 rN c99
          have h94 : fc94 K (jc_p K 64 ((r : Int) - 1)) = some (K, (r' : Int)) := by
            unfold fc94
            rw [if_pos rcd.1, y1, k, if_neg (by decide), y6, e100]
          rw [head _ h94, if_pos k, if_neg (by omega), if_pos k]
          have un := jpl_un L r1 rN
          rw [if_pos k] at un
          have zr := jLg.z0 (N := N) r1 c99 k
          have hY1 : jY (jc_ui K 82 t r') G N x := hY.nx (Or.inr rfl)
          obtain ⟨K2, G2, st, N2, j, q1, q2, q3, q4⟩ := jundoes hY1 hM hκ hB hW hz ht ⟨r1, rN⟩ k c99 (by rw [hp, un]) (h0 (by omega)) (hq.trans zr) pl l2 i m1 (by omega)
          rw [show jc_p (jc_ui K 82 t r') 64 ((r : Int) - 1) = jc_p K 64 ((r : Int) - 1) from rfl] at q1
          rw [q1, q2, jo_bs]
          dsimp only
          have g2 : jk_g jQU K K2 := (g82 r').trans (q3.mono (fun n e => Or.inl e))
          rcases q4 with ⟨es, ⟨c1, c2⟩, x1, x2, x3, x4, x5, x6, x7, x8, x9, x10⟩ | ⟨es, x1, x2⟩
          · have nB : ∀ n, n = 81 ∨ n = 82 → ¬ jQB n := fun n hn z => by unfold jQB jQ jS_n at z; omega
            have k81 : jc_i K2 81 4 = n := by rw [q3.2.2.2 81 4 (by show 81 < K.1.1; omega) (nB 81 (Or.inl rfl)), jc_uN (by decide)]; exact h81
            have k82 : ∀ s, jc_i K2 82 s = jc_i (jc_ui K 82 t r') 82 s := fun s => q3.2.2.2 82 s (by show 82 < K.1.1; omega) (nB 82 (Or.inr rfl))
            have hN2 := x3.len hκ hB
            have hl := x2.1.1
            rw [if_neg (show ¬ st = 0 by omega), k81, if_pos (show -2147483648 ≤ n + 1 ∧ n + 1 < 2147483648 by omega), if_pos (show -2147483648 ≤ i + 1 ∧ i + 1 < 2147483648 by omega), if_pos (show -2147483648 ≤ n + 1 ∧ n + 1 < 2147483648 by omega), e100]
            have jc2 : jch G2 N2 t r' := ⟨by omega, fun z => by
              have := hc'.2 z
              rw [hl.l (m := 99) (by decide) (by omega) (by have := hc'.1; omega), hl.l (m := 98) (by decide) (by omega) (by have := hc'.1; omega)]
              exact this⟩
            have pl2 : jpl G2 N2 (jt G2 t N2) = jpl G2 N2 r' := by
              rw [x5, e100, jpl_f x3.1.1.1 N2 N r' (by omega) (by omega) (by omega), hl.pl L.1 N r' (by omega)]
            have e1 : jt G t (r - 1) = r' := by
              have j := (L.1 r r1 rN).2.2.1
              rw [c99, if_neg (by omega), e100] at j
              exact j.symm
            have e2 : jzL G t (r - 1) = jzL G t r' := by rw [jzL_jt (r - 1), e1]; rfl
            have e3 : jzL G2 t r' = jzL G t r' := hl.zL t r' (by omega)
            rcases ih r' (by omega) (m1 - j) m' (i + 1) (n + 1) (jc_ui K2 81 4 (n + 1)) G2 N2 (x1.nx (Or.inl rfl)) x3 x4 (by rw [jc_uN (by decide), k82, jc_uH]) (fun s s0 s1 hs => by rw [jc_uN (by decide), k82]; exact oth _ s s0 s1 hs) jc2 pl2 (by rw [x8, e2, e3]) (fun _ => x6) (by omega) (by omega) (by omega) (by omega) jc_uH (by omega) (by omega) with ⟨K', G', N', m2, i2, r2, n2, z1, z2, z3, z4, z5, z6, z7, z8, z9, z10, z11, z12, z13⟩ | ⟨K', G', n2, z1, z2, z3, z4⟩
            · exact Or.inl ⟨K', G', N', m2, i2, r2, n2, z1, z2, z3, z4, z5, (g2.trans (jk_g.s (jk_s.u (Or.inr (Or.inl rfl))))).trans z6, z7, x2.trans z8, z9, z10, fun s s0 s1 hs => (z11 s s0 s1 hs).trans (x7 s s0 s1 hs), fun _ => z12 x6, by
                rw [zr]
                refine (show jzQ G2 N2 t pl (jzL G t (r - 1)) G' N' (n2 - (n + 1)) by rw [e2, ← e3]; exact z13).step rp x9 x10 (fun v hv => ?_) (by omega)
                obtain ⟨q, q1, q2, q3⟩ := L.zr (n := r - 1) (by omega) ht.1 v hv
                exact ⟨hl.l (m := 101) (by decide) (by omega) (by omega), hl.l (m := 102) (by decide) (by omega) (by omega)⟩⟩
            · exact Or.inr ⟨K', G', n2, z1, z2, (g2.trans (jk_g.s (jk_s.u (Or.inr (Or.inl rfl))))).trans z3, z4⟩
          · rw [if_pos es, if_pos (show -2147483648 ≤ n + 1 ∧ n + 1 < 2147483648 by omega)]
            cases m' with
            | zero => omega
            | succ m' =>
              refine Or.inr ⟨K2, G2, n + 1, rfl, ?_, g2, x1, x2⟩
              unfold fo187_10
              rw [if_neg x1.h7]
              split <;> rfl
        · -- an UNDO
          obtain ⟨u, u1, u2, u3, u4, u5⟩ := (L.1 r r1 rN).2.2.2.2.1 k
          obtain ⟨r', e100, hc', lt'⟩ := jch.ah L ht.1 u2 (by omega) (by rw [u5]; exact c99)
          have ru := (hY.2.1.2 u u2 (by omega)).1
          obtain ⟨v0, v1, v2, v3, v6, v7, v8⟩ := ru.2.1
          have u120 := ru.1.1.1
          have h94 : fc94 K (jc_p K 64 ((r : Int) - 1)) = some (K, (r' : Int)) := by
            unfold fc94
            rw [if_pos rcd.1, y1, k, if_pos rfl, y7, u1, jk_fc19 hY (by omega) ⟨u2, by omega⟩, jo_bs]
            dsimp only
            rw [if_neg (by omega), if_pos ru.1, v6, e100]
          rw [head _ h94, if_neg (by omega), if_pos (by omega), if_pos k, u1, if_pos (by omega), if_neg (by omega), e100]
          have un := jpl_un L r1 rN
          rw [if_neg (by omega), if_pos k, u1, e100] at un
          have e1 : jt G t (u - 1) = r' := by
            have j := (L.1 u u2 (by omega)).2.2.1
            rw [u5, c99, if_neg (by omega), e100] at j
            exact j.symm
          have e2 : jzL G t r = jzL G t r' := by rw [L.z1 ht.1 r1 rN c99 k u1, jzL_jt (u - 1), e1]; rfl
          rcases ih r' (by omega) m1 m' (i + 1) n (jc_ui K 82 t r') G N (hY.nx (Or.inr rfl)) hM hz jc_uH (oth _) hc' (hp.trans un) (hq.trans e2) (fun _ => h0 (by omega)) (by omega) (by omega) (by omega) (by omega) (by rw [jc_uN (by decide)]; exact h81) n0 (by omega) with ⟨K', G', N', m2, i2, r2, n2, z1, z2, z3, z4, z5, z6, z7⟩ | ⟨K', G', n2, z1, z2, z3, z4⟩
          · exact Or.inl ⟨K', G', N', m2, i2, r2, n2, z1, z2, z3, z4, z5, (g82 r').trans z6, by rw [e2]; exact z7⟩
          · exact Or.inr ⟨K', G', n2, z1, z2, (g82 r').trans z3, z4⟩
