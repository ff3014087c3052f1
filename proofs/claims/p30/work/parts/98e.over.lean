/-! THE ROOT TAKES OVER, as long as it can; A PAGE GOES, with that -/
theorem jo_168c {G : jg_G} {p : Int} (h : G 92 7 ≠ 0) : fo168 G p = some (G, 0) := by
  unfold fo168
  rw [if_neg h]
theorem jo_1825c {G : jg_G} {m : Nat} (h : G 92 7 ≠ 0) : fo182_5 (m + 1) G = some (G, 0) := by
  unfold fo182_5
  rw [if_neg h]
theorem jw_s.V {G G' : jg_G} {N : Nat} (w : jw_s G G') (h12 : G 92 12 = N) : jV G G' N N := ⟨⟨w.l.a N, Nat.le_refl _, by rw [w.2.2.1 12 (by decide) (by decide) (by decide) (by decide) (by decide) (by decide)]; exact h12⟩, fun i i1 i2 i3 i4 i5 i6 i7 _ => w.2.2.1 i i1 i2 i3 i4 i5 i7, fun n hn j => w.1 n (by omega) j, w.2.2.2⟩
theorem jw_f.V {G G' : jg_G} {N : Nat} (w : jw_f G G') (h12 : G 92 12 = N) : jV G G' N N := ⟨⟨w.l.a N, Nat.le_refl _, by rw [w.2.2.1 12 (by decide) (by decide) (by decide) (by decide) (by decide) (by decide) (by decide)]; exact h12⟩, fun i i1 i2 i3 i4 i5 i6 i7 i8 => w.2.2.1 i i1 i2 i3 i4 i5 i7 i8, fun n hn j => w.1 n (by omega) (by omega) j, w.2.2.2⟩
theorem jY.h12 {K : jc_K} {G : jg_G} {N x : Nat} (h : jY K G N x) : G 92 12 = N := h.1.2.1.2.2.1
theorem jY.h7 {K : jc_K} {G : jg_G} {N x : Nat} (h : jY K G N x) : G 92 7 = 0 := h.1.2.1.1
theorem jE.h7 {K : jc_K} {G : jg_G} {x : Nat} (h : jE K G x) : G 92 7 ≠ 0 := by rw [h.2.1.1]; decide
theorem jY.seen {K : jc_K} {G : jg_G} {N x : Nat} (h : jY K G N x) {p : Int} (hp : 0 ≤ p ∧ p < 24) : fc3 K p = some (K, jq G p) ∧ 0 < jq G p ∧ jp_k K (jq G p) (jh G N p) ∧ (0 ≤ fr_ro G p ∧ fr_ro G p < 54) ∧ jp_r G (fr_ro G p) (jh G N p) ∧ jp_w (jh G N p) := by
  obtain ⟨a, b, c, _, e, f, _, _, j⟩ := jN_seen h.1 hp
  rw [jh_v] at c f j
  exact ⟨a, b, c, e, f, j⟩
theorem jY.alone {K : jc_K} {G : jg_G} {N x : Nat} (h : jY K G N x) : fc86 K = some (K, if (jh G N 0).1 = 2 ∧ (jh G N 0).2.1 = 1 then (jh G N 0).2.2.2 0 else -1) := by
  obtain ⟨a, b, c, _, _, w⟩ := h.seen (p := 0) (by decide)
  unfold fc86
  rw [a, jo_bs]
  dsimp only
  rw [if_neg (by omega), if_pos c.1, c.2.1, c.2.2.1]
  by_cases k : (jh G N 0).1 = 2
  · rw [if_pos k]
    by_cases n : (jh G N 0).2.1 = 1
    · rw [if_pos n, if_pos ⟨k, n⟩, jk_fc39 w k c (by decide) (by omega), jo_bs]
    · rw [if_neg n, if_neg (fun z => n z.2)]
  · rw [if_neg k, if_neg (fun z => k z.1)]
theorem jM.nf {G : jg_G} {N κ B : Nat} {W : jZW} (h : jM G N κ W B) : 1 ≤ jnf (fun p => jh G N p) := by
  obtain ⟨lo, hi, rk, hT⟩ := h.1.1.2.1 N (Nat.le_refl _)
  have := jsum_ge (f := fun p => if (jh G N p).1 = 0 then 0 else 1) (j := 0) 24 (by decide)
  have e : (if (jh G N ((0 : Nat) : Int)).1 = 0 then 0 else 1) = 1 := if_neg hT.1.2.1
  rw [e] at this
  exact this
theorem jM.q {G : jg_G} {N κ B : Nat} {W : jZW} (h : jM G N κ W B) : jT_q (fun p => jh G N p) := (h.1.1.2.2 N (Nat.le_refl _)).1
theorem jT_q.elim2 {g : Int → jp_C} (h : jT_q g) : (g 0).1 = 2 → 1 ≤ (g 0).2.1 := h.elim (fun _ z => z.2.1)
theorem jT_z.of {g g' : Int → jp_C} (he : ∀ z, 0 ≤ z → z < 24 → jp_e (g z) (g' z)) (h1 : ∀ p, 1 ≤ p → p < 24 → (g p).1 ≠ 0 → 0 < (g p).2.1) (h2 : (g 0).1 = 2 → 1 ≤ (g 0).2.1) (h3 : ¬ ((g' 0).1 = 2 ∧ (g' 0).2.1 = 1)) : jT_z g' := by
  refine ⟨fun p p0 p1 k => ?_, fun k => ?_⟩
  · have e := he p (by omega) p1
    rw [← e.2.1]
    exact h1 p p0 p1 (by rw [e.1]; exact k)
  · have e := he 0 (by decide) (by decide)
    have := h2 (by rw [e.1]; exact k)
    rw [e.2.1] at this
    have : (g' 0).2.1 ≠ 1 := fun z => h3 ⟨k, z⟩
    omega
section To
variable {x κ B : Nat} {W : jZW}
/-- alive behind all that: N' records -/
def jA9 (K' : jc_K) (G G' : jg_G) (N N' x κ : Nat) (W : jZW) (B : Nat) : Prop := jY K' G' N' x ∧ jV G G' N N' ∧ jM G' N' κ W B ∧ (∀ j, G' 112 j = G 112 j) ∧ G' 92 29 = G 92 29
def jA (K' : jc_K) (G G' : jg_G) (N N' x κ : Nat) (W : jZW) (B : Nat) : Prop := jY K' G' N' x ∧ jV G G' N N' ∧ jM G' N' κ W B ∧ (∀ j, G' 112 j = G 112 j) ∧ G' 92 29 = G 92 29 ∧ jNo G' N N'
theorem jto_l (hκ : κ ≤ 513) (hB : B ≤ 223) (hW : W.1 ≤ 2000000000) (l1 l2 : Int) : ∀ (m m' : Nat) (i : Int) (K : jc_K) (G : jg_G) (N : Nat), jY K G N x → jM G N κ W B → 0 ≤ i → (jnf (fun p => jh G N p) : Int) + i ≤ 24 → 24 < i + m → 24 < i + m' → ∃ K' G' b N', fc83_46 m K l1 l2 i = some (K', b) ∧ ((fo168 G 0).bind fun y => fo182_5 m' y.1) = some (G', 0) ∧ jk_g jQ K K' ∧ ((b = 1 ∧ jA K' G G' N N' x κ W B ∧ (∀ j, G' 108 j = G 108 j) ∧ ¬ ((jh G' N' 0).1 = 2 ∧ (jh G' N' 0).2.1 = 1) ∧ ((N' = N ∧ ∀ z, jh G' N' z = jh G N z) ∨ (jT_z (fun z => jh G' N' z) ∧ (jh G N 0).1 = 2 ∧ (jh G N 0).2.1 = 1))) ∨ (b = 0 ∧ jE K' G' x ∧ jMf G' κ W B)) := by
  intro m
  induction m with
  | zero =>
    intro m' i K G N hY hM h0 h1 h2 h3
    have := hM.nf
    omega
  | succ m ih =>
    intro m' i K G N hY hM h0 h1 h2 h3
    have nf1 := hM.nf
    cases m' with
    | zero => omega
    | succ m' =>
      have qS : ∀ n, jS_n n → jQ n := fun n e => Or.inl e
      obtain ⟨K1, G1, b1, u1, u2, u3, u4⟩ := jM_use hY hM hκ hB hW (p := 0) (by decide)
      unfold fc83_46
      rw [if_neg (by omega), u1, jo_bs, u2, jo_bs]
      dsimp only
      rcases u4 with ⟨e, y1, y2, y3, y4⟩ | ⟨e, y1, y2⟩
      · rw [if_neg (by omega), y1.alone, jo_bs]
        dsimp only
        have hh : ∀ z, jh G1 N z = jh G N z := fun z => y3.l.h N z
        obtain ⟨_, _, _, v4, v5, _⟩ := y1.seen (p := 0) (by decide)
        unfold fo182_5
        rw [if_pos y1.h7, if_pos (show (0 : Int) ≤ 0 ∧ (0 : Int) < 24 by decide), jo_le, if_pos (show 0 ≤ 67 * fr_ro G1 0 ∧ 67 * fr_ro G1 0 < 305118 by omega), v5.1]
        by_cases al : (jh G1 N 0).1 = 2 ∧ (jh G1 N 0).2.1 = 1
        · obtain ⟨al1, al2⟩ := id al
          rw [if_pos al, if_pos al1, jo_le, if_pos (show 0 ≤ 67 * fr_ro G1 0 + 2 ∧ 67 * fr_ro G1 0 + 2 < 305118 by omega), v5.2.1, if_pos al2, jo_le, if_pos (show 0 ≤ 67 * fr_ro G1 0 + 4 + 2 * 0 ∧ 67 * fr_ro G1 0 + 4 + 2 * 0 < 305118 by omega)]
          have vc := (v5.2.2 0 (by decide) (by omega)).2
          rw [vc]
          generalize hc : (jh G1 N 0).2.2.2 0 = c
          obtain ⟨lo, hi, rk, hT⟩ := y2.1.1.2.1 N (Nat.le_refl _)
          have cb := jT_child hT.1.1 (q := 0) (i := 0) ⟨by decide, al1, by decide, by show 0 < (jh G1 N 0).2.1; omega⟩
          rw [show jT_c (fun z => jh G1 N z) 0 0 = c from hc] at cb
          rw [if_neg (by omega)]
          obtain ⟨K2, G2, b2, w1, w2, w3, w4⟩ := jM_use y1 y2 hκ hB hW (p := c) (by omega)
          rw [w1, jo_bs, w2, jo_bs]
          dsimp only
          rcases w4 with ⟨e2, z1, z2, z3, z4⟩ | ⟨e2, z1, z2⟩
          · rw [if_neg (by omega), if_pos z1.h7]
            have hh2 : ∀ z, jh G2 N z = jh G1 N z := fun z => z3.l.h N z
            have q2 := z2.q
            have allb : ∀ p, 1 ≤ p → p < 24 → (jh G2 N p).1 ≠ 0 → 0 < (jh G2 N p).2.1 := by
              obtain ⟨_, _, _, q3⟩ := q2
              exact q3 (by show (jh G2 N 0).1 = 2; rw [hh2]; exact al1) (by show (jh G2 N 0).2.1 = 1; rw [hh2]; exact al2)
            have cnf : (jh G2 N c).1 ≠ 0 := by
              have := (hT.1.2.2.1 0 0 ⟨by decide, al1, by decide, by show 0 < (jh G1 N 0).2.1; omega⟩).1
              rw [show jT_c (fun z => jh G1 N z) 0 0 = c from hc] at this
              rw [hh2]; exact this
            have c0 : (0 : Int) ≠ c := by omega
            have q' : jT_q (fun z => if z = c then jp_0 else if z = 0 then jh G2 N c else jh G2 N z) := by
              refine ⟨-1, fun p p0 p1 k _ => ?_, fun _ => ?_, fun _ _ p p0 p1 k => ?_⟩
              · have k' : (if p = c then jp_0 else if p = 0 then jh G2 N c else jh G2 N p).1 ≠ 0 := k
                show 0 < (if p = c then jp_0 else if p = 0 then jh G2 N c else jh G2 N p).2.1
                by_cases e : p = c
                · rw [if_pos e] at k'; exact absurd rfl k'
                · rw [if_neg e, if_neg (by omega)] at k' ⊢
                  exact allb p p0 p1 k'
              · show 1 ≤ (if (0 : Int) = c then jp_0 else if (0 : Int) = 0 then jh G2 N c else jh G2 N 0).2.1
                rw [if_neg c0, if_pos rfl]
                exact allb c cb.1 cb.2 cnf
              · have k' : (if p = c then jp_0 else if p = 0 then jh G2 N c else jh G2 N p).1 ≠ 0 := k
                show 0 < (if p = c then jp_0 else if p = 0 then jh G2 N c else jh G2 N p).2.1
                by_cases e : p = c
                · rw [if_pos e] at k'; exact absurd rfl k'
                · rw [if_neg e, if_neg (by omega)] at k' ⊢
                  exact allb p p0 p1 k'
            obtain ⟨_, K3, q, K4, K5, G5, b5, t1, t2, t3, t4, t5, t6⟩ := jM_to z1 z2 hκ hB hW (c := c) (by rw [hh2]; exact al1) (by rw [hh2]; exact al2) (by rw [hh2]; exact hc) q' (fun x36 => (fo168 (x36.1) 0).bind fun x38 => fo182_5 m' x38.1)
            rw [t1, jo_bs]
            dsimp only
            rw [if_neg t2, t3, jo_bs]
            dsimp only
            rw [t4, jo_bs, t5]
            dsimp only
            obtain ⟨g5, o5⟩ := t6
            rcases o5 with ⟨e5, s1, s2, s3, s4, s5, s6, s7⟩ | ⟨e5, s1, s2⟩
            · rw [if_neg (by omega), if_pos (by omega)]
              have nfd := jnf_d (g := fun p => jh G2 N p) (g' := fun z => if z = c then jp_0 else if z = 0 then jh G2 N c else jh G2 N z) (p := c) ⟨by omega, cb.2⟩ cnf (by show (if c = c then jp_0 else _).1 = 0; rw [if_pos rfl]; rfl) (fun z _ _ z2 => by
                show (if z = c then jp_0 else if z = 0 then jh G2 N c else jh G2 N z).1 = 0 ↔ (jh G2 N z).1 = 0
                rw [if_neg z2]
                by_cases e : z = 0
                · rw [if_pos e, e, show (jh G2 N 0).1 = 2 by rw [hh2]; exact al1]
                  exact ⟨fun y => absurd y cnf, fun y => absurd y (by decide)⟩
                · rw [if_neg e])
              have nfe := jnf_e (g := fun z => if z = c then jp_0 else if z = 0 then jh G2 N c else jh G2 N z) (g' := fun p => jh G5 (N + 1) p) (fun z x0 x1 => by
                rw [← (s4 z x0 x1).1])
              have nfs : jnf (fun p => jh G2 N p) = jnf (fun p => jh G N p) := jnf_e (fun z _ _ => by
                show (jh G2 N z).1 = 0 ↔ (jh G N z).1 = 0
                rw [hh2, hh])
              obtain ⟨K', G', b, N', r1, r2, r3, r4⟩ := ih m' (i + 1) K5 G5 (N + 1) s1 s3 (by omega) (by omega) (by omega) (by omega)
              refine ⟨K', G', b, N', r1, r2, ((((jk_g.s u3).mono qS).trans ((jk_g.s w3).mono qS)).trans g5).trans r3, ?_⟩
              rcases r4 with ⟨eb, ⟨x1, x2, x3, x4, x5, x11⟩, x10, x6, x7⟩ | x
              · refine Or.inl ⟨eb, ⟨x1, (((y3.V hY.h12).trans (z3.V y1.h12)).trans s2).trans x2, x3, fun j => by rw [x4, (s5 j).1, z3.1 112 (by decide), y3.1 112 (by decide)], ?_, (jNo.one s7).trans x2.1.1 x11⟩, fun j => by rw [x10, (s5 j).2, z3.1 108 (by decide), y3.1 108 (by decide)], x6, Or.inr ⟨?_, by rw [← hh]; exact al1, by rw [← hh]; exact al2⟩⟩
                · rw [x5, s6, z3.2.2.1 29 (by decide) (by decide) (by decide) (by decide) (by decide) (by decide), y3.2.2.1 29 (by decide) (by decide) (by decide) (by decide) (by decide) (by decide)]
                · rcases x7 with ⟨_, x8⟩ | x8
                  · obtain ⟨_, qa, qb, qc⟩ := q'
                    refine jT_z.of (g := fun z => if z = c then jp_0 else if z = 0 then jh G2 N c else jh G2 N z) (fun z a b => by show jp_e _ (jh G' N' z); rw [x8]; exact s4 z a b) (fun p p0 p1 k => ?_) qb x6
                    have k' : (if p = c then jp_0 else if p = 0 then jh G2 N c else jh G2 N p).1 ≠ 0 := k
                    show 0 < (if p = c then jp_0 else if p = 0 then jh G2 N c else jh G2 N p).2.1
                    by_cases e : p = c
                    · rw [if_pos e] at k'; exact absurd rfl k'
                    · rw [if_neg e, if_neg (by omega)] at k' ⊢
                      exact allb p p0 p1 k'
                  · exact x8.1
              · exact Or.inr x
            · rw [if_pos e5, jo_168c s1.h7, jo_bs]
              dsimp only
              cases m' with
              | zero => omega
              | succ m' =>
                rw [jo_1825c s1.h7]
                exact ⟨K5, G5, 0, N, rfl, rfl, (((jk_g.s u3).mono qS).trans ((jk_g.s w3).mono qS)).trans g5, Or.inr ⟨rfl, s1, s2⟩⟩
          · rw [if_pos e2, if_neg z1.h7, jo_168c z1.h7, jo_bs]
            dsimp only
            cases m' with
            | zero => omega
            | succ m' =>
              rw [jo_1825c z1.h7]
              exact ⟨K2, G2, 0, N, rfl, rfl, ((jk_g.s u3).mono qS).trans ((jk_g.s w3).mono qS), Or.inr ⟨rfl, z1, z2⟩⟩
        · rw [if_neg al, if_pos rfl]
          refine ⟨K1, G1, 1, N, rfl, ?_, (jk_g.s u3).mono qS, Or.inl ⟨rfl, ⟨y1, y3.V hY.h12, y2, fun j => y3.1 112 (by decide) j, y3.2.2.1 29 (by decide) (by decide) (by decide) (by decide) (by decide) (by decide), jNo.refl _ _⟩, fun j => y3.1 108 (by decide) j, al, Or.inl ⟨rfl, hh⟩⟩⟩
          by_cases k : (jh G1 N 0).1 = 2
          · rw [if_pos k, jo_le, if_pos (by omega), v5.2.1, if_neg (fun z => al ⟨k, z⟩)]
          · rw [if_neg k]
      · rw [if_pos e, jo_1825c y1.h7]
        exact ⟨K1, G1, 0, N, rfl, rfl, (jk_g.s u3).mono qS, Or.inr ⟨rfl, y1, y2⟩⟩
end To
