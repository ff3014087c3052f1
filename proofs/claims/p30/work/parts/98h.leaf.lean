/-! A RECORD OF A LEAF, with all that holds -/
theorem jp_chg_keys {c : jp_C} {x v k : Int} (hk : 0 ≤ k ∧ k ≤ c.2.1) : ∀ i, 0 ≤ i → i < (jp_chg c x v k).2.1 → (jp_chg c x v k).2.2.1 i = x ∨ ∃ j, 0 ≤ j ∧ j < c.2.1 ∧ (jp_chg c x v k).2.2.1 i = c.2.2.1 j := by
  intro i i0 i1
  unfold jp_chg at i1 ⊢
  by_cases h : k < c.2.1 ∧ c.2.2.1 k = x
  · rw [if_pos h] at i1 ⊢
    by_cases h2 : v = -1
    · rw [if_pos h2] at i1 ⊢
      have i1' : i < c.2.1 - 1 := i1
      refine Or.inr ⟨if i < k then i else i + 1, by split <;> omega, by split <;> omega, ?_⟩
      show (if i < k then c.2.2.1 i else c.2.2.1 (i + 1)) = _
      by_cases e : i < k
      · rw [if_pos e, if_pos e]
      · rw [if_neg e, if_neg e]
    · rw [if_neg h2] at i1 ⊢
      exact Or.inr ⟨i, i0, i1, rfl⟩
  · rw [if_neg h] at i1 ⊢
    by_cases h2 : v = -1
    · rw [if_pos h2] at i1 ⊢
      exact Or.inr ⟨i, i0, i1, rfl⟩
    · rw [if_neg h2] at i1 ⊢
      have i1' : i < c.2.1 + 1 := i1
      by_cases e : i < k
      · refine Or.inr ⟨i, i0, by omega, ?_⟩
        · show (if i < k then c.2.2.1 i else _) = _
          rw [if_pos e]
      · by_cases e2 : i = k
        · left
          show (if i < k then c.2.2.1 i else if i = k then x else _) = x
          rw [if_neg e, if_pos e2]
        · refine Or.inr ⟨i - 1, by omega, by omega, ?_⟩
          show (if i < k then c.2.2.1 i else if i = k then x else c.2.2.1 (i - 1)) = _
          rw [if_neg e, if_neg e2]
theorem jp_v_b {c : jp_C} (hw : jp_w c) (hk : c.1 = 1) (x : Int) : -1 ≤ jp_v c x ∧ jp_v c x < 1000 := by
  unfold jp_v
  split
  · rename_i h
    have := (jh_pl_sp x hw.1).1
    have := (jp_cell hw (i := jh_pl c x) this.1 h.1).2
    rw [jp_leaf hk] at this
    omega
  · omega
/-- what an UNDO undoes -/
def jUn (G : jg_G) (N : Nat) (t u : Int) : Prop := ∃ r : Nat, u = r ∧ 1 ≤ r ∧ r ≤ N ∧ G 98 r = 0 ∧ G 99 r = t ∧ jpl G N (jt G t N) = jpl G N (G 100 r) + 1
section Lf
variable {G G' : jg_G} {N L κ B : Nat} {W : jZW} {w t key v u : Int}
theorem jlf (hM : jM G N κ W B) (hl : jl_a G G' N) (hd : jd_m G G') (hr : G' 98 ((N : Int) + 1) = w ∧ G' 99 ((N : Int) + 1) = t ∧ G' 100 ((N : Int) + 1) = G 108 t ∧ G' 101 ((N : Int) + 1) = key ∧ G' 103 ((N : Int) + 1) = v ∧ G' 104 ((N : Int) + 1) = u ∧ G' 105 ((N : Int) + 1) = 1 ∧ G' 106 (3 * ((N : Int) + 1)) = G 112 L) (hw : w = 0 ∨ w = 1) (ht : 0 ≤ t ∧ t < 4) (hx : 0 ≤ key ∧ key < 32) (hv : -1 ≤ v ∧ v < 1000) (h102 : w = 0 → -1 ≤ G' 102 ((N : Int) + 1) ∧ G' 102 ((N : Int) + 1) < 1000) (hu : w = 1 → jUn G N t u) (hz : jT_z (fun z => jh G N z)) (W0 : G 112 0 = 0) (Wb : ∀ j : Int, 0 ≤ j → j ≤ L → 0 ≤ G 112 j ∧ G 112 j < 24) (Wc : ∀ j : Int, 0 ≤ j → j < L → (jh G N (G 112 j)).1 = 2 ∧ ∃ k, jp_ci (jh G N (G 112 j)) key k ∧ (jh G N (G 112 j)).2.2.2 k = G 112 (j + 1)) (Wl : (jh G N (G 112 L)).1 = 1) (ho : G 107 t = 1 ∨ 0 < jt G t N) (h102b : w = 0 → G' 102 ((N : Int) + 1) = jp_v (jh G N (G 112 L)) key) (hot : ∀ s, 0 ≤ s → s < 4 → s ≠ t → jpp G key s N = -2) (hun : w = 1 → key = G 101 u ∧ v = G 102 u ∧ ∃ l, jzL G t N = u :: l) : (jLg G' (N + 1) ∧ jMk G' (N + 1)) ∧ (2 * (jcw G' 2 (N + 1) + jcw G' 3 (N + 1)) + jsum (fun s => if 0 < jt G' s (N + 1) then 2 else if G 107 s = 1 then (if G 110 s = -1 then 1 else 2) else 0) 4 ≤ κ + (if 0 < jt G t N then 0 else 1)) ∧ jcw G' 0 (N + 1) + jcw G' 5 (N + 1) + jcw G' 4 (N + 1) ≤ (if w = 0 then B + 1 else B) ∧ (∀ s, 0 ≤ s → s < 4 → jt G' s (N + 1) = if s = t then (N : Int) + 1 else jt G s N) ∧ jS_h (fun z => jh G' (N + 1) z) (fun j => G 112 j) L ∧ (v ≠ -1 → 0 < (jh G' (N + 1) (G 112 L)).2.1) := by
  have ec : (((N + 1 : Nat) : Nat) : Int) = (N : Int) + 1 := by omega
  obtain ⟨f98, f99, f100, f101, f103, f104, f105, f106⟩ := hr
  obtain ⟨⟨m1, m2⟩, m3, m4, m5, m6, m7, m8, m9, m10⟩ := hM
  obtain ⟨lo, hi, rk, hT⟩ := m1.2.1 N (Nat.le_refl _)
  have b1 := m1.a hl (Nat.le_refl _)
  have hh : ∀ z, jh G' N z = jh G N z := fun z => hl.h z N (Int.le_refl _)
  have hjt : ∀ s, jt G' s N = jt G s N := fun s => hl.t s N (Int.le_refl _)
  have jtn : ∀ s, jt G' s (N + 1) = if s = t then (N : Int) + 1 else jt G s N := fun s => by
    show (if G' 99 ((N : Int) + 1) = s then (if G' 98 ((N : Int) + 1) = 2 ∨ G' 98 ((N : Int) + 1) = 3 then 0 else (N : Int) + 1) else jt G' s N) = _
    rw [f99, f98, hjt]
    by_cases e : s = t
    · rw [if_pos e, if_pos e.symm, if_neg (by omega)]
    · rw [if_neg e, if_neg (fun z => e z.symm)]
  have hkk : ∀ z, jh_k G' ((N : Int) + 1) z = if z = G 112 L then 0 else -1 := fun z => by
    unfold jh_k
    rw [f105, f106]
    by_cases e : z = G 112 L
    · rw [if_pos ⟨by decide, e.symm⟩, if_pos e]
    · rw [if_neg (fun y => e y.2.symm), if_neg (fun y => by omega), if_neg (fun y => by omega), if_neg e]
  have hn : ∀ z, jh G' (N + 1) z = if z = G 112 L then jp_chg (jh G N z) key v (jh_pl (jh G N z) key) else jh G N z := fun z => by
    show (if jh_k G' ((N : Int) + 1) z = -1 then jh G' N z else if G' 98 ((N : Int) + 1) ≤ 1 then jp_chg (jh G' N z) (G' 101 ((N : Int) + 1)) (G' 103 ((N : Int) + 1)) (jh_pl (jh G' N z) (G' 101 ((N : Int) + 1))) else _) = _
    rw [hkk, f98, f101, f103, hh]
    by_cases e : z = G 112 L
    · rw [if_pos e, if_neg (by decide), if_pos (by omega), if_pos e]
    · rw [if_neg e, if_pos rfl, if_neg e]
  have lb := Wb L (by omega) (by omega)
  have wl := hT.1.1 (G 112 L) lb.1 lb.2
  have sp := jh_pl_sp key wl.1
  have kd : ∀ z, (jh G' (N + 1) z).1 = (jh G N z).1 := fun z => by
    rw [hn]
    by_cases e : z = G 112 L
    · rw [if_pos e]; exact jp_chg_k _ _ _ _
    · rw [if_neg e]
  obtain ⟨lo', hi', T'⟩ := jTs_chg (g' := fun z => jh G' (N + 1) z) (P := fun j => G 112 j) (L := L) (x := key) hT W0 Wc Wb Wl (fun z e => by show jh G' (N + 1) z = jh G N z; rw [hn, if_neg e]) (by show (jh G' (N + 1) (G 112 L)).1 = 1; rw [kd]; exact Wl) (by show jp_w (jh G' (N + 1) (G 112 L)); rw [hn, if_pos rfl]; exact jp_chg_w wl Wl sp hx hv) (by
    show ∀ i, 0 ≤ i → i < (jh G' (N + 1) (G 112 L)).2.1 → (jh G' (N + 1) (G 112 L)).2.2.1 i = key ∨ ∃ j, 0 ≤ j ∧ j < (jh G N (G 112 L)).2.1 ∧ (jh G' (N + 1) (G 112 L)).2.2.1 i = (jh G N (G 112 L)).2.2.1 j
    rw [hn, if_pos rfl]
    exact jp_chg_keys sp.1)
  have q' : jT_q (fun z => jh G' (N + 1) z) := by
    refine ⟨G 112 L, fun p p0 p1 k e => ?_, fun k => ?_, fun k k1 => ?_⟩
    · have k' : (jh G' (N + 1) p).1 ≠ 0 := k
      show 0 < (jh G' (N + 1) p).2.1
      rw [kd] at k'
      rw [hn, if_neg e]
      exact hz.1 p p0 p1 k'
    · have k' : (jh G' (N + 1) 0).1 = 2 := k
      rw [kd] at k'
      have e : ¬ (0 : Int) = G 112 L := fun e => by rw [← e, k'] at Wl; exact absurd Wl (by decide)
      show 1 ≤ (jh G' (N + 1) 0).2.1
      rw [hn, if_neg e]
      have : 2 ≤ (jh G N 0).2.1 := hz.2 k'
      omega
    · have k' : (jh G' (N + 1) 0).1 = 2 := k
      have k1' : (jh G' (N + 1) 0).2.1 = 1 := k1
      rw [kd] at k'
      have e : ¬ (0 : Int) = G 112 L := fun e => by rw [← e, k'] at Wl; exact absurd Wl (by decide)
      rw [hn, if_neg e] at k1'
      have : 2 ≤ (jh G N 0).2.1 := hz.2 k'
      omega
  have j1 : jl_1 G' (N + 1) := by
    unfold jl_1
    rw [ec, f98, f99, f100, f101, f104, show N + 1 - 1 = N by omega]
    refine ⟨by omega, ⟨fun _ => ht, fun z => by omega⟩, ?_, h102, fun z => ?_, fun z => by omega⟩
    · rw [if_neg (by omega), m3 t ht.1 ht.2, hjt]
    · obtain ⟨r, r1, r2, r3, r4, r5, _⟩ := hu z
      refine ⟨r, r1, r2, by omega, ?_, ?_⟩
      · rw [hl.l (m := 98) (by decide) (by omega) (by omega)]; exact r4
      · rw [hl.l (m := 99) (by decide) (by omega) (by omega)]; exact r5
  have all1 : ∀ r : Nat, 1 ≤ r → r ≤ N + 1 → jl_1 G' r := fun r r0 r1 => by
    by_cases e : r = N + 1
    · rw [e]; exact j1
    · exact b1.1 r r0 (by omega)
  have cw : ∀ y, jcw G' y (N + 1) = jcw G y N + (if w = y then 1 else 0) := fun y => by
    show jcw G' y N + (if G' 98 ((N : Int) + 1) = y then 1 else 0) = _
    rw [f98, hl.cw y N (Int.le_refl _)]
  have etn : ((t.toNat : Nat) : Int) = t := by omega
  -- how many are to be undone
  have pl0 : ∀ s : Nat, s < 4 → s ≠ t.toNat → jpl G' (N + 1) (jt G' s (N + 1)) = jpl G N (jt G s N) := fun s hs hne => by
    rw [jtn, if_neg (by omega)]
    have b := jt_b G s N
    rw [jpl_f b1.1 (N + 1) N _ (by omega) (by omega) (by omega)]
    exact hl.pl m1.1 N _ (by omega)
  have pld : jpd G' (N + 1) + (if w = 1 then 1 else 0) = jpd G N + (if w = 0 then 1 else 0) := by
    have step : jpl G' (N + 1) (jt G' t (N + 1)) = if w = 0 then jpl G N (jt G t N) + 1 else jpl G N (jt G t N) - 1 := by
      rw [jtn, if_pos rfl]
      show (if (N : Int) + 1 ≤ 0 then 0 else if G' 98 ((N : Int) + 1) = 0 then jpl G' N (G' 100 ((N : Int) + 1)) + 1 else if G' 98 ((N : Int) + 1) = 1 then jpl G' N (G' 100 (G' 104 ((N : Int) + 1))) else jpl G' N (G' 100 ((N : Int) + 1))) = _
      rw [if_neg (by omega), f98, f100, f104]
      rcases hw with e | e
      · rw [if_pos e, if_pos e, m3 t ht.1 ht.2]
        have b := jt_b G t N
        rw [hl.pl m1.1 N _ (by omega)]
      · rw [if_neg (by omega), if_pos e, if_neg (by omega)]
        obtain ⟨r, r1, r2, r3, r4, r5, r6⟩ := hu e
        have ar := (m1.1 r r2 r3).ah r2
        rw [r1, hl.l (m := 100) (by decide) (by omega) (by omega), hl.pl m1.1 N _ (by omega), r6]
        omega
    rcases hw with e | e
    · subst e
      have := jsum_u (f := fun s => jpl G N (jt G s N)) (g := fun s => jpl G' (N + 1) (jt G' s (N + 1))) (j := t.toNat) (d := 1) (by
        rw [etn]
        show jpl G N (jt G t N) + 1 = jpl G' (N + 1) (jt G' t (N + 1))
        rw [step, if_pos rfl]) 4 (by omega) (fun i h1 h2 => (pl0 i h1 h2).symm)
      rw [if_neg (by decide), if_pos rfl]
      exact this.symm
    · subst e
      have := jsum_u (f := fun s => jpl G' (N + 1) (jt G' s (N + 1))) (g := fun s => jpl G N (jt G s N)) (j := t.toNat) (d := 1) (by
        rw [etn]
        show jpl G' (N + 1) (jt G' t (N + 1)) + 1 = jpl G N (jt G t N)
        rw [step, if_neg (by decide)]
        obtain ⟨r, _, _, _, _, _, r6⟩ := hu rfl
        omega) 4 (by omega) (fun i h1 h2 => pl0 i h1 h2)
      rw [if_pos rfl, if_neg (by decide)]
      exact this
  have nf : jnf (fun z => jh G' (N + 1) z) = jnf (fun z => jh G N z) := jnf_e (fun z _ _ => by
    show (jh G' (N + 1) z).1 = 0 ↔ (jh G N z).1 = 0
    rw [kd])
  have j2 : jl_2 G' (N + 1) := by
    obtain ⟨_, x1, x2, -⟩ := m1.2.2 N (Nat.le_refl _)
    have w1 : G' 98 ((N : Int) + 1) ≤ 1 := by rw [f98]; omega
    have E1 := jzE.chg (g' := fun z => jh G' (N + 1) z) (P := fun j => G 112 j) (L := L) (x := key) (v := v) hT m1.E hx W0 Wc lb Wl (fun z e => by show jh G' (N + 1) z = jh G N z; rw [hn, if_neg e]) (by show jh G' (N + 1) (G 112 L) = _; rw [hn, if_pos rfl])
    have eA : (fun y => jzA G' y (N + 1)) = fun y => if y = key then v else jzA G y N := funext (fun y => by
      by_cases e : y = key
      · rw [if_pos e, jzA_k w1 (f101.trans e.symm)]; exact f103
      · rw [if_neg e, jzA_o (fun z => e (z.2.symm.trans f101)), hl.zA y N (Int.le_refl _)])
    have D1 : jzD (fun z => jh G' (N + 1) z) := m1.D.same (fun z _ _ => ⟨kd z, fun z2 => by
      show jh G' (N + 1) z = jh G N z
      have z3 : (jh G N z).1 = 2 := z2
      rw [hn, if_neg (fun e => by rw [e, Wl] at z3; exact absurd z3 (by decide))]⟩)
    refine ⟨q', ?_, ?_, by rw [eA]; exact E1, D1, fun m hm => ?_⟩
    case refine_3 =>
      have em : m = N := by omega
      subst em
      refine ⟨fun _ => by rw [f101, f103]; exact ⟨hx, hv⟩, fun z => ?_, fun _ s s0 s1 hs => ?_, fun z => ?_, fun z => by omega⟩
      · have zw : w = 0 := by rw [← f98]; exact z
        rw [h102b zw, f101, hl.zA key _ (Int.le_refl _)]
        exact jz_val (g := fun z => jh G m z) (P := fun j => G 112 j) (L := L) hT m1.E hx W0 Wc lb Wl
      · rw [f99] at hs
        rw [f101, hl.pp key s _ (Int.le_refl _)]
        exact hot s s0 s1 hs
      · have zw : w = 1 := by rw [← f98]; exact z
        obtain ⟨c1, c2, l, c3⟩ := hun zw
        obtain ⟨r, r1, r2, r3, -⟩ := hu zw
        rw [f101, f103, f104, f99, hl.zL t _ (Int.le_refl _), r1, hl.l (m := 101) (by decide) (by omega) (by omega), hl.l (m := 102) (by decide) (by omega) (by omega), ← r1]
        exact ⟨c1, c2, l, c3⟩
    · rw [cw, cw]
      rcases hw with e | e <;> subst e <;> simp at pld ⊢ <;> omega
    · rw [nf, cw, cw, cw, if_neg (by omega), if_neg (by omega), if_neg (by omega)]
      exact x2
  refine ⟨⟨m1.up hl j1 ⟨lo', hi', rk, T'⟩ j2, fun r r0 r1 hr => ?_⟩, ?_, ?_, fun s _ _ => jtn s, ⟨⟨W0, Wb⟩, fun j j0 j1 => ?_, fun p p0 p1 k e => ?_, fun k => ?_⟩, fun vn => ?_⟩
  · by_cases e : r = N + 1
    · rw [e, ec, f98] at hr
      omega
    · exact m2.a hl hd (Nat.le_refl _) r r0 (by omega) hr
  · rw [cw, cw, if_neg (by omega), if_neg (by omega)]
    have key2 : jsum (fun s => if 0 < jt G' s (N + 1) then 2 else if G 107 s = 1 then (if G 110 s = -1 then 1 else 2) else 0) 4 ≤ jsum (fun s => if 0 < jt G s N then 2 else if G 107 s = 1 then (if G 110 s = -1 then 1 else 2) else 0) 4 + (if 0 < jt G t N then 0 else 1) := by
      by_cases e : 0 < jt G t N
      · rw [if_pos e]
        refine jsum_le 4 (fun i hi => ?_)
        show (if 0 < jt G' i (N + 1) then 2 else if G 107 i = 1 then (if G 110 i = -1 then 1 else 2) else 0) ≤ (if 0 < jt G i N then 2 else if G 107 i = 1 then (if G 110 i = -1 then 1 else 2) else 0)
        rw [jtn]
        by_cases e2 : (i : Int) = t
        · rw [if_pos e2, if_pos (show (0 : Int) < (N : Int) + 1 by omega), e2, if_pos e]
          exact Nat.le_refl _
        · rw [if_neg e2]
          exact Nat.le_refl _
      · rw [if_neg e]
        have o1 : G 107 t = 1 := ho.resolve_right e
        have := jsum_u (f := fun s => if s = t then 1 else if 0 < jt G s N then 2 else if G 107 s = 1 then (if G 110 s = -1 then 1 else 2) else 0) (g := fun s => if 0 < jt G' s (N + 1) then 2 else if G 107 s = 1 then (if G 110 s = -1 then 1 else 2) else 0) (j := t.toNat) (d := 1) (by
          rw [etn]
          show (if t = t then 1 else _) + 1 = (if 0 < jt G' t (N + 1) then 2 else _)
          rw [if_pos rfl, jtn, if_pos rfl, if_pos (show (0 : Int) < (N : Int) + 1 by omega)]) 4 (by omega) (fun i h1 h2 => by
          show (if (i : Int) = t then 1 else if 0 < jt G i N then 2 else if G 107 i = 1 then (if G 110 i = -1 then 1 else 2) else 0) = (if 0 < jt G' i (N + 1) then 2 else if G 107 i = 1 then (if G 110 i = -1 then 1 else 2) else 0)
          rw [if_neg (show ¬ (i : Int) = t by omega), jtn, if_neg (show ¬ (i : Int) = t by omega)])
        have l2 := jsum_le (f := fun s => if s = t then 1 else if 0 < jt G s N then 2 else if G 107 s = 1 then (if G 110 s = -1 then 1 else 2) else 0) (g := fun s => if 0 < jt G s N then 2 else if G 107 s = 1 then (if G 110 s = -1 then 1 else 2) else 0) 4 (fun i hi => by
          show (if (i : Int) = t then 1 else if 0 < jt G i N then 2 else if G 107 i = 1 then (if G 110 i = -1 then 1 else 2) else 0) ≤ (if 0 < jt G i N then 2 else if G 107 i = 1 then (if G 110 i = -1 then 1 else 2) else 0)
          by_cases e2 : (i : Int) = t
          · rw [if_pos e2, e2, if_neg e, if_pos o1]
            split <;> decide
          · rw [if_neg e2]
            exact Nat.le_refl _)
        omega
    unfold jph at m5
    omega
  · rw [cw, cw, cw]
    rcases hw with e | e <;> subst e <;> simp <;> omega
  · obtain ⟨k2, k, kc, ke⟩ := Wc j j0 j1
    have e : ¬ G 112 j = G 112 L := fun e => by rw [e, Wl] at k2; exact absurd k2 (by decide)
    dsimp only
    rw [hn, if_neg e]
    exact ⟨k2, k, kc.1.1, kc.1.2, ke⟩
  · have k' : (jh G' (N + 1) p).1 ≠ 0 := k
    show 0 < (jh G' (N + 1) p).2.1
    rw [kd] at k'
    rw [hn, if_neg e]
    exact hz.1 p p0 p1 k'
  · have k' : (jh G' (N + 1) 0).1 = 2 := k
    rw [kd] at k'
    have e : ¬ (0 : Int) = G 112 L := fun e => by rw [← e, k'] at Wl; exact absurd Wl (by decide)
    show 2 ≤ (jh G' (N + 1) 0).2.1
    rw [hn, if_neg e]
    exact hz.2 k'
  · rw [hn, if_pos rfl]
    have c0 : 0 ≤ jh_pl (jh G N (G 112 L)) key ∧ jh_pl (jh G N (G 112 L)) key ≤ (jh G N (G 112 L)).2.1 := sp.1
    unfold jp_chg
    by_cases c : jh_pl (jh G N (G 112 L)) key < (jh G N (G 112 L)).2.1 ∧ (jh G N (G 112 L)).2.2.1 (jh_pl (jh G N (G 112 L)) key) = key
    · rw [if_pos c, if_neg vn]
      show 0 < (jh G N (G 112 L)).2.1
      omega
    · rw [if_neg c, if_neg vn]
      show 0 < (jh G N (G 112 L)).2.1 + 1
      omega
end Lf
