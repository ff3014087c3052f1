/-! COMMIT -/
theorem jMf.mk3 {K' : jc_K} {G' : jg_G} {N x κ B : Nat} {W : jZW} (A : jLg G' (N + 1) ∧ jMk G' (N + 1)) (P : jph0 G' (N + 1) ≤ κ) (C : jcw G' 0 (N + 1) + jcw G' 5 (N + 1) + jcw G' 4 (N + 1) ≤ B) (hE : jE K' G' x) (h12 : G' 92 12 ≤ (N : Int) + 1) (h3 : G' 92 3 ≤ (W.1 : Int) + 3300) (hg : jgz W G') (hPx : ∀ m : Nat, (m : Int) = G' 92 12 → ∀ x, 0 ≤ x → x < 32 → jpv G' x m = G' 113 (-1 - x)) : jMf G' κ W B := by
  have h0 : 0 ≤ G' 92 13 := hE.1.2.1.2.2.1.1
  have he := hE.2.1.2.1
  have le : (G' 92 12).toNat ≤ N + 1 := by omega
  refine ⟨(G' 92 12).toNat, by omega, ⟨A.1.le le, A.2.a (jl_a.refl G' _) (jd_m.refl G') le⟩, ?_, ?_, h3, hg, hPx _ (by omega)⟩
  · have := jph0_mono (G := G') (n := (G' 92 12).toNat) (N + 1 - (G' 92 12).toNat) (fun r r0 r1 => A.1.1 r r0 (by omega))
    rw [show (G' 92 12).toNat + (N + 1 - (G' 92 12).toNat) = N + 1 by omega] at this
    omega
  · have a0 := jcw_mono2 G' 0 le
    have a5 := jcw_mono2 G' 5 le
    have a4 := jcw_mono2 G' 4 le
    omega
/-- what a commit of a has made of (G, N) -/
def jzM (G : jg_G) (N : Nat) (G' : jg_G) (N' : Nat) (a : Int) : Prop := jcl G G' a ∧ (∀ y, jzA G' y N' = jzA G y N) ∧ (∀ s, 0 ≤ s → s < 4 → jzL G' s N' = if s = a then [] else jzL G s N) ∧ (∀ s, 0 ≤ s → s < 4 → s ≠ a → G 107 s = 1 → G' 109 s = G 109 s) ∧ jl_a G G' N ∧ N ≤ N' ∧ ∀ y, 0 ≤ y → y < 32 → G' 113 (-1 - y) = if G 111 y = a then jzA G y N else G 113 (-1 - y)
section Cm
variable {K : jc_K} {G : jg_G} {N k : Nat} {W : jZW} {a : Int}
theorem jcommit (hs : jSt K G N k W) (hk : k < 512) (ha : 0 ≤ a ∧ a < 4) (o : G 107 a = 1) : ∃ K' c G', fc113 K a = some (K', .inl c) ∧ ((c = -4 ∧ jSf K' G' (k + 1) (W.1, 0, W.2.2) ∧ G' 92 6 = 0) ∨ (c = (N : Int) + 1 ∧ G' 92 13 = c ∧ ∃ W' : jZW, W'.1 = W.1 ∧ jSt K' G' (N + 1) (k + 1) W' ∧ jzM (jg_u G 92 0 0) N G' (N + 1) a)) := by
  obtain ⟨oc, _⟩ := hs.t ha
  have h7 : G 92 7 = 0 := hs.2.2.2.1.h7
  have hL := hs.2.2.2.t 0
  obtain ⟨hY, hM, hz, hT, ⟨hWo, ρ, hρ⟩, hcl⟩ := hL
  obtain ⟨G0, e0⟩ : ∃ G0, jg_u (jg_u G 92 0 0) 110 a (-1) = G0 := ⟨_, rfl⟩
  have f0 : jf6 G G0 := by rw [← e0]; exact ((jf6.refl G).u (Or.inr (by decide))).u (Or.inl (by decide))
  have hg : ∀ n j, ¬ (n = 110 ∨ n = 111 ∨ (n = 92 ∧ j = 0) ∨ 112 ≤ n) → G0 n j = jg_u G 92 0 0 n j := fun n j h => by rw [← e0]; exact jg_uN (by omega)
  have g107 : ∀ s, G0 107 s = jg_u G 92 0 0 107 s := fun s => hg 107 s (by omega)
  have g110 : ∀ s, s ≠ a → G0 110 s = jg_u G 92 0 0 110 s := fun s hs => by rw [← e0]; exact jg_uI hs
  have g110a : G0 110 a = -1 := by rw [← e0]; exact jg_uH
  have g111 : ∀ s, G0 111 s = jg_u G 92 0 0 111 s := fun s => by rw [← e0]; exact jg_uN (by decide)
  have g113 : ∀ s, G0 113 s = jg_u G 92 0 0 113 s := fun s => by rw [← e0]; exact jg_uN (by decide)
  have hl0 : jl_a (jg_u G 92 0 0) G0 N := fun m j e => hg m j (by omega)
  have o' : G0 107 a = 1 := by rw [g107, jg_uN (by decide)]; exact o
  have q := jph_110 (G := jg_u G 92 0 0) (N := N) (w := -1) ha
  rw [e0] at q
  have tm : jtm G0 N a ≤ jtm (jg_u G 92 0 0) N a := jtm_le (hl0.t a N (Int.le_refl _)) (g107 a) (Or.inr g110a)
  have hY0 : jY K G0 N k := hY.g hg
  have hM0 : jM G0 N k (W.1, 0, W.2.2) 223 := hM.g hg (fun k k0 k1 => by rw [g111]; exact hM.2.2.1 k k0 k1) (by have := hM.2.2.2.1; omega) ⟨by rw [← e0, jg_uN (by decide)]; exact hM.2.2.2.2.2.2.1.1, fun j => by rw [← e0, jg_uN (by decide)]; exact hM.2.2.2.2.2.2.1.2 j⟩ (Nat.le_refl _) (fun _ _ _ => g113 _) (fun _ _ _ _ _ _ _ _ h => by rw [g111]; exact h)
  have hN := hM0.len (by omega) (by decide)
  have tm1 : 1 ≤ jtm G0 N a := by
    unfold jtm
    rw [o', if_pos rfl]
    split
    · decide
    · exact Nat.le_refl _
  have n120 : 98 ≤ K.1.1 := hY.2.2.2.1.1
  obtain ⟨GA, eA⟩ : ∃ GA, jg_u G 92 0 0 = GA := ⟨_, rfl⟩
  have eGA : ∀ n j, n ≠ 92 → GA n j = G n j := fun n j hn => by rw [← eA]; exact jg_uN hn
  rw [eA] at hM hT hWo hρ hcl hz hg g107 g110 g111 g113 hl0 q tm
  clear e0 q
  obtain ⟨K1, q, a1, a2, a3, a4, a5, a6, a7, a8, a9, a10, a11⟩ := jnoted (w := 2) hY0 hM0 hN (Or.inl rfl) ha (fun z => absurd z (by decide))
  have h12 := hY0.h12
  have oo := fun (n : Nat) (j : Int) => fr_no_o (G := G0) (w := 2) (t := a) (n := n) (j := j)
  have is := (fr_no_is (G := G0) (w := 2) (t := a) ⟨by omega, ha.2⟩)
  rw [h12] at is
  have f1 : jf6 G (fr_no G0 2 a) := f0.trans ((jf6.refl G0).no)
  have sm := jtm_sum (G := G0) (N := N) ha
  have k5 := hM0.2.2.2.1
  rw [jph_tm] at k5
  have ec : (((N + 1 : Nat) : Nat) : Int) = (N : Int) + 1 := by omega
  have o13 : fr_no G0 2 a 92 13 = G0 92 13 := oo 92 13 (by omega) (by omega) (by omega)
  have p107 : ∀ j, fr_no G0 2 a 107 j = G0 107 j := fun j => oo 107 j (by omega) (by omega) (by omega)
  have p110 : ∀ j, fr_no G0 2 a 110 j = G0 110 j := fun j => oo 110 j (by omega) (by omega) (by omega)
  have p111 : ∀ j, fr_no G0 2 a 111 j = G0 111 j := fun j => oo 111 j (by omega) (by omega) (by omega)
  have p108 : ∀ s, s ≠ a → fr_no G0 2 a 108 s = G0 108 s := fun s hs => oo 108 s (by omega) (by omega) (by omega)
  have p109 : ∀ s, s ≠ a → fr_no G0 2 a 109 s = G0 109 s := fun s hs => oo 109 s (by omega) (by omega) (by omega)
  have p0 : fr_no G0 2 a 92 0 = G0 92 0 := oo 92 0 (by omega) (by omega) (by omega)
  have p3 : fr_no G0 2 a 92 3 = G0 92 3 := oo 92 3 (by omega) (by omega) (by omega)
  have p113 : ∀ j, fr_no G0 2 a 113 j = G0 113 j := fun j => oo 113 j (by omega) (by omega) (by omega)
  have i98 := is.2.1
  have i99 := is.2.2.1
  clear oo is
  generalize hG1 : fr_no G0 2 a = G1 at *
  have tme : ∀ s, 0 ≤ s → s < 4 → s ≠ a → jtm G1 (N + 1) s = jtm G0 N s := fun s s0 s1 hs => by
    unfold jtm
    rw [a8 s s0 s1, if_neg hs, p107, p110]
  have eS : jsum (fun s => if s = a then 0 else jtm G1 (N + 1) s) 4 = jsum (fun s => if s = a then 0 else jtm G0 N s) 4 := jsum_e 4 (fun i hi => by
    show (if (i : Int) = a then 0 else jtm G1 (N + 1) i) = (if (i : Int) = a then 0 else jtm G0 N i)
    by_cases e : (i : Int) = a
    · rw [if_pos e, if_pos e]
    · rw [if_neg e, if_neg e, tme i (by omega) (by omega) e])
  have c2 := a9 2
  have c3 := a9 3
  have c0 := a9 0
  have c5 := a9 5
  have c4 := a9 4
  rw [if_pos rfl] at c2
  rw [if_neg (by decide)] at c3 c0 c5 c4
  have m6 := hM0.2.2.2.2.1
  have m7 := hM0.2.2.2.2.2.1
  have m8 := hM0.2.2.2.2.2.2.1
  have h62 : ∀ j, 0 ≤ j → j < 32 → -1 ≤ jc_i K1 62 j ∧ jc_i K1 62 j < 4 := fun j j0 j1 => by
    rw [a3.2.2.2 62 j (by omega) (by unfold jA_S; omega), (hT.2 j j0 j1).1]
    exact (hT.2 j j0 j1).2
  obtain ⟨K2, b, r1, r2, r3⟩ := jhard (r := (N : Int) + 1) a5 (fun k k0 k1 => by rw [p111]; exact hM0.2.2.1 k k0 k1) ⟨by omega, by omega⟩
  have g2 : jk_g jQX K K2 := (a3.mono (fun n e => Or.inl (Or.inl (Or.inl (Or.inl (by unfold jA_S at e; unfold jQ; omega)))))).trans ((jk_g.s r2).mono (fun n e => Or.inr (Or.inl (by unfold jF_n jS_n; omega))))
  have f2 : jf6 G (fr_ha G1 ((N : Int) + 1)) := f1.ha
  have st0 : fc113 K a = ((fc20 K 2 a).bind fun x6 => if x6.2 = 0 then ((fc140 (x6.1) (-4)).bind fun x9 => some (x9.1, .inl (x9.2))) else ((fc13 (x6.1) (jc_i (x6.1) 63 4)).bind fun x11 => if x11.2 = 0 then ((fc140 (x11.1) (-4)).bind fun x16 => some (x16.1, .inl (x16.2))) else ((fc63 (x11.1) a).bind fun x14 => some (x14.1, .inl (jc_i (x14.1) 63 4))))) := by
    unfold fc113
    rw [if_neg (by omega), if_pos ha.2, if_pos hs.2.1, if_pos ha, oc, if_neg (by omega)]
  rw [st0, a1, jo_bs]
  dsimp only
  rw [if_neg a2, a5.2.1.1, ec, r1, jo_bs]
  dsimp only
  rcases r3 with ⟨eb, y, ai, an, aD⟩ | ⟨eb, E, hl, hd, x3, ⟨x12, x13, x14⟩, x0, x113⟩
  · subst eb
    rw [if_neg (show ¬ (1 : Int) = 0 by decide)]
    generalize hG2 : fr_ha G1 ((N : Int) + 1) = G2 at *
    have D : G2 92 13 = (N : Int) + 1 := by
      have := y.1.2.1.2.2.2.2
      omega
    -- the committed values from here on
    obtain ⟨G3, e3⟩ : ∃ G3 : jg_G, G3 = fun n j => if n = 113 ∧ -32 ≤ j ∧ j < 0 then jpv G2 (-1 - j) (N + 1) else G2 n j := ⟨_, rfl⟩
    have u3 : ∀ n j, ¬ (n = 113 ∧ -32 ≤ j ∧ j < 0) → G3 n j = G2 n j := fun n j h => by rw [e3]; exact if_neg h
    have v3 : ∀ x, 0 ≤ x → x < 32 → G3 113 (-1 - x) = jpv G2 x (N + 1) := fun x x0 x1 => by
      rw [e3]
      show (if _ then jpv G2 (-1 - (-1 - x)) (N + 1) else _) = _
      rw [if_pos ⟨rfl, by omega, by omega⟩, show -1 - (-1 - x) = x by omega]
    have hl : jl_a G1 G2 ((N + 1 : Nat) : Int) := fun m j e => an m (by omega) j
    have hl3 : jl_a G1 G3 ((N + 1 : Nat) : Int) := fun m j e => (u3 m j (by omega)).trans (hl m j e)
    have an3 : ∀ n, n ≠ 92 → n ≠ 113 → ∀ j, G3 n j = G1 n j := fun n h h2 j => (u3 n j (by omega)).trans (an n h j)
    have eS2 : jsum (fun s => if s = a then 0 else jtm G3 (N + 1) s) 4 = jsum (fun s => if s = a then 0 else jtm G1 (N + 1) s) 4 := jsum_e 4 (fun i hi => by
      show (if (i : Int) = a then 0 else jtm G3 (N + 1) i) = (if (i : Int) = a then 0 else jtm G1 (N + 1) i)
      unfold jtm
      rw [hl3.t i (N + 1) (Int.le_refl _), an3 107 (by decide) (by decide), an3 110 (by decide) (by decide)])
    have hx : jHx G3 (N + 1) a := ⟨fun x s x0 x1 s0 s1 hs h7 hq => by
      rw [an3 107 (by decide) (by decide), p107] at h7
      rw [hl3.pp x s (N + 1) (Int.le_refl _), jpp_o (by rw [i99]; exact fun z => hs z.symm), a7.pp x s N (Int.le_refl _)] at hq
      rw [an3 111 (by decide) (by decide), p111]
      exact hM0.2.2.2.2.2.2.2.2.1 x s x0 x1 s0 s1 h7 hq, fun s s0 s1 hs h7 => by
      rw [an3 107 (by decide) (by decide), p107] at h7
      rw [an3 109 (by decide) (by decide), p109 s hs, hl3.zn s (N + 1) (Int.le_refl _), jzn_o (by rw [i99]; exact fun z => hs z.symm), a7.zn s N (Int.le_refl _)]
      exact hM0.2.2.2.2.2.2.2.2.2 s s0 s1 h7⟩
    have px : jPx G3 (N + 1) := fun m m1 m2 x x0 x1 => by
      rw [u3 92 13 (by omega), D] at m2
      have em : m = N + 1 := by omega
      rw [em, v3 x x0 x1, hl3.pv x (N + 1) (Int.le_refl _), hl.pv x (N + 1) (Int.le_refl _)]
    have y3 : jY K2 G3 (N + 1) k := y.g (fun n j h => u3 n j (by omega))
    obtain ⟨K3, b1, b2, b3, b4⟩ := jclosedM (t := a) (κ := k + 1) (B := 223) (W := (W.1, 0, fun j => G3 113 j)) y3 ⟨a6.1.a hl3 (Nat.le_refl _), a6.2.a hl3 (jd_m.same (fun j _ _ => an3 93 (by decide) (by decide) j)) (Nat.le_refl _)⟩ (fun s s0 s1 hs => by rw [an3 108 (by decide) (by decide), p108 s hs, hl3.t s (N + 1) (Int.le_refl _), a8 s s0 s1, if_neg hs]; exact hM0.2.1 s s0 s1) (by rw [hl3.t a (N + 1) (Int.le_refl _), a8 a ha.1 ha.2, if_pos rfl]) (fun k k0 k1 => by rw [an3 111 (by decide) (by decide), p111]; exact hM0.2.2.1 k k0 k1) (by
      rw [hl3.cw 2 (N + 1) (Int.le_refl _), hl3.cw 3 (N + 1) (Int.le_refl _), eS2, eS]
      omega) (by
      rw [hl3.cw 0 (N + 1) (Int.le_refl _), hl3.cw 5 (N + 1) (Int.le_refl _), hl3.cw 4 (N + 1) (Int.le_refl _)]
      omega) ⟨by
      have : jP G3 = jP G1 := jP_same (fun i => an3 97 (by decide) (by decide) i) ((u3 92 3 (by omega)).trans (ai 3 (by decide) (by decide) (by decide)))
      omega, ⟨(u3 92 0 (by omega)).trans ((ai 0 (by decide) (by decide) (by decide)).trans (p0.trans m8.1)), fun j => rfl⟩⟩ ha px hx
    have hc : jcl GA (fr_cl G3 a) a := by
      refine ⟨fun s s0 s1 => ?_, fun s s0 s1 => ?_, fun j j0 j1 => ?_⟩
      · rw [fr_cl_7 (by decide), an3 107 (by decide) (by decide), p107, g107]
      · rw [fr_cl_10, an3 110 (by decide) (by decide), p110]
        by_cases e : s = a
        · rw [if_pos (Or.inl e), if_pos (Or.inl e)]
        · rw [g110 s e]
          by_cases e2 : GA 110 s = a
          · rw [if_pos (Or.inr ⟨s0, s1, e2⟩), if_pos (Or.inr e2)]
          · rw [if_neg (fun z => z.elim e (fun y => e2 y.2.2)), if_neg (fun z => z.elim e e2)]
      · rw [fr_cl_11, an3 111 (by decide) (by decide), p111, g111]
        by_cases e : GA 111 j = a
        · rw [if_pos ⟨j0, j1, e⟩, if_pos e]
        · rw [if_neg (fun z => e z.2.2), if_neg e]
    have hl4 : jl_a G3 (fr_cl G3 a) ((N + 1 : Nat) : Int) := fun m j e => fr_cl_o (by omega)
    have g3 : jk_g jQX K K3 := g2.trans ((jk_g.s b2).mono (fun n e => Or.inl (Or.inr e)))
    have n1201 : 98 ≤ K1.1.1 := a5.2.2.2.1.1
    have hLv : jLv K3 (fr_cl G3 a) (N + 1) k (k + 1) (W.1, 0, fun j => G3 113 j) 223 := ⟨b3, b4, hz.same (fun z => by rw [hl4.h z (N + 1) (Int.le_refl _), hl3.h z (N + 1) (Int.le_refl _), a10, hl0.h z N (Int.le_refl _)]), jTr.fin2 hT (fun n hn j => by rw [r2.2 n (by omega), a3.2.2.2 n j (by omega) (by unfold jA_S; omega)]) (fun j => ⟨(an3 107 (by decide) (by decide) j).trans ((p107 j).trans (g107 j)), fun hj => (an3 110 (by decide) (by decide) j).trans ((p110 j).trans (g110 j hj)), (an3 111 (by decide) (by decide) j).trans ((p111 j).trans (g111 j))⟩) ha b1, ⟨hWo.cl hc (fun j j0 j1 => (hT.2 j j0 j1).2.2) (fun s s0 s1 => (hT.1 s s0 s1).2.2.2.2), ρ, fun s s0 s1 h0 => jrho.cl (t := -1) hc (fun s s0 s1 _ h0 => hρ s s0 s1 h0) s s0 s1 (by omega) h0⟩, fun s s0 s1 h0 => by
      rw [hl4.t s (N + 1) (Int.le_refl _), hl3.t s (N + 1) (Int.le_refl _), a8 s s0 s1]
      by_cases hsa : s = a
      · rw [if_pos hsa]
      · rw [hc.1 s s0 s1, if_neg hsa] at h0
        rw [if_neg hsa, hl0.t s N (Int.le_refl _)]
        exact hcl s s0 s1 h0⟩
    have f113 : ∀ j, fr_cl G3 a 113 j = G3 113 j := fun j => fr_cl_o (by decide)
    have hSt : jSt K3 (fr_cl G3 a) (N + 1) (k + 1) (W.1, 0, fun j => G3 113 j) := by
      refine ⟨fun j j0 j1 => ?_, ?_, by show W.1 ≤ _; have := hs.2.2.1; omega, hLv.le (by omega) (Nat.le_refl _) (Nat.le_refl _)⟩
      · rw [g3.2.2.2 85 j (by omega) jQX_n.2, hs.1 j j0 j1, f113, u3 113 j (by omega), an 113 (by decide), p113, g113, eGA 113 j (by decide)]
      · rw [g3.2.2.2 2 8 (by omega) jQX_n.1]; exact hs.2.1
    have hl5 : jl_a G0 (fr_cl G3 a) N := (a7.trans (hl3.le (by omega))).trans (hl4.le (by omega))
    have hl6 : jl_a GA (fr_cl G3 a) N := hl0.trans hl5
    have f98 : fr_cl G3 a 98 ((N : Int) + 1) = 2 := by rw [fr_cl_o (by decide), an3 98 (by decide) (by decide)]; exact i98
    have f99 : fr_cl G3 a 99 ((N : Int) + 1) = a := by rw [fr_cl_o (by decide), an3 99 (by decide) (by decide)]; exact i99
    rw [b1, jo_bs, b3.2.1.1, ec, eA]
    refine ⟨K3, _, fr_cl G3 a, rfl, Or.inr ⟨rfl, ?_, (W.1, 0, fun j => G3 113 j), rfl, hSt, hc, fun y => ?_, fun s s0 s1 => ?_, fun s s0 s1 hs h7 => ?_, hl6, by omega, fun y y0 y1 => ?_⟩⟩
    · rw [fr_cl_o (by decide), u3 92 13 (by omega)]
      exact D
    · rw [jzA_o (by omega), hl6.zA y N (Int.le_refl _)]
    · by_cases e : s = a
      · rw [if_pos e, jzL_e (by rw [f99, e]) (Or.inl f98)]
      · rw [if_neg e, jzL_o (by omega), hl6.zL s N (Int.le_refl _)]
    · rw [b4.2.2.2.2.2.2.2.2.2 s s0 s1 (by rw [hc.1 s s0 s1, if_neg hs]; exact h7), hM.2.2.2.2.2.2.2.2.2 s s0 s1 h7, jzn_o (by omega), hl6.zn s N (Int.le_refl _)]
    · rw [f113, v3 y y0 y1]
      have Px : jpv GA y N = GA 113 (-1 - y) := hM.2.2.2.2.2.2.2.1 N (Nat.le_refl _) (Or.inl rfl) y y0 y1
      have e2 : jpv G2 y (N + 1) = if jpp GA y a N ≠ -2 then jpp GA y a N else jpv GA y N := by
        rw [hl.pv y (N + 1) (Int.le_refl _)]
        show (if G1 98 ((N : Int) + 1) = 2 ∧ jpp G1 y (G1 99 ((N : Int) + 1)) N ≠ -2 then jpp G1 y (G1 99 ((N : Int) + 1)) N else jpv G1 y N) = _
        rw [i99, i98, a7.pp y a N (Int.le_refl _), a7.pv y N (Int.le_refl _), hl0.pp y a N (Int.le_refl _), hl0.pv y N (Int.le_refl _)]
        by_cases e : jpp GA y a N ≠ -2
        · rw [if_pos ⟨rfl, e⟩, if_pos e]
        · rw [if_neg (fun z => e z.2), if_neg e]
      have S := jz_sem ⟨y0, y1⟩ N hM.1.1.F
      rw [e2]
      have oa : GA 107 a = 1 := by rw [← g107]; exact o'
      have hLA : jLv K GA N k k (W.1, 0, W.2.2) 223 := by rw [← eA]; exact hs.2.2.2.t 0
      by_cases e : jpp GA y a N ≠ -2
      · rw [if_pos e, if_pos (hM.2.2.2.2.2.2.2.2.1 y a y0 y1 ha.1 ha.2 oa e)]
        exact (S.2.1 a ha.1 ha.2 e).symm
      · rw [if_neg e, Px]
        by_cases e3 : GA 111 y = a
        · rw [if_pos e3, ← Px]
          refine (jz_free ⟨y0, y1⟩ hM.1.1.F (fun t t0 t1 => ?_)).symm
          by_cases e4 : t = a
          · rw [e4]; exact Decidable.not_not.mp e
          · exact hLA.hot ha ⟨y0, y1⟩ e3 t t0 t1 e4
        · rw [if_neg e3]
  · subst eb
    rw [if_pos rfl]
    obtain ⟨K4, z1, z2⟩ := jfinF hs g2 E (jMf.mk3 (N := N) (W := (W.1, 0, W.2.2)) ⟨a6.1.a hl (Nat.le_refl _), a6.2.a hl hd (Nat.le_refl _)⟩ (by
      rw [hl.ph0 (Int.le_refl _)]
      unfold jph0
      have := jsum_le (f := fun s => if 0 < jt G1 s (N + 1) then 2 else 0) (g := fun s => if s = a then 0 else jtm G1 (N + 1) s) 4 (fun i hi => by
        show (if 0 < jt G1 i (N + 1) then 2 else 0) ≤ (if (i : Int) = a then 0 else jtm G1 (N + 1) i)
        by_cases e : (i : Int) = a
        · rw [if_pos e, e, a8 a ha.1 ha.2, if_pos rfl, if_neg (by decide)]
          exact Nat.le_refl _
        · rw [if_neg e]
          unfold jtm
          split
          · exact Nat.le_refl _
          · exact Nat.zero_le _)
      omega) (by
      rw [hl.cw 0 (N + 1) (Int.le_refl _), hl.cw 5 (N + 1) (Int.le_refl _), hl.cw 4 (N + 1) (Int.le_refl _)]
      omega) E (by omega) (by
      have := jP_ge G0
      show _ ≤ (W.1 : Int) + 3300
      have m7' : jP G0 ≤ W.1 + 3 * N := m7
      omega) ⟨x0.trans (p0.trans m8.1), fun j => (x113 j).trans ((p113 j).trans (m8.2 j))⟩ (fun m hm x y0 y1 => by
      rw [x113, p113, hl.pv x m (by omega), a7.pv x m (by omega)]
      exact hM0.2.2.2.2.2.2.2.1 m (by omega) (Or.inr (by omega)) x y0 y1)) (fun j j0 j1 => by rw [r2.2 62 (by decide)]; exact h62 j j0 j1)
    rw [z1, jo_bs]
    exact ⟨K4, -4, _, rfl, Or.inl ⟨rfl, z2, f2.2.1 h7 E.h7⟩⟩
end Cm
