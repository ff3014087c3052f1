/-! SMALL ACTIONS, with all that holds -/
/-- the records behind N up to M are nobody's -/
def jNo (G : jg_G) (N M : Nat) : Prop := ∀ r : Nat, N < r → r ≤ M → G 99 r = -1
theorem jNo.refl (G : jg_G) (N : Nat) : jNo G N N := fun r a b => by omega
theorem jNo.one {G : jg_G} {N : Nat} (h : G 99 ((N : Int) + 1) = -1) : jNo G N (N + 1) := fun r a b => by
  rw [show (r : Int) = (N : Int) + 1 by omega]; exact h
theorem jNo.trans {G1 G2 : jg_G} {N N1 N2 : Nat} (h : jNo G1 N N1) (hl : jl_a G1 G2 N1) (h2 : jNo G2 N1 N2) : jNo G2 N N2 := fun r a b => by
  by_cases e : r ≤ N1
  · rw [hl.l (m := 99) (by decide) (by omega) (by omega)]; exact h r a e
  · exact h2 r (by omega) b
/-- they say nothing of keys -/
theorem jNo.sem {G G' : jg_G} {N : Nat} (hl : jl_a G G' N) : ∀ d : Nat, jzF G' (N + d) → jNo G' N (N + d) → (∀ y, jzA G' y (N + d) = jzA G y N) ∧ (∀ t, 0 ≤ t → jzL G' t (N + d) = jzL G t N) ∧ ∀ y t, 0 ≤ t → jpp G' y t (N + d) = jpp G y t N
  | 0, _, _ => ⟨fun y => hl.zA y N (Int.le_refl _), fun t _ => hl.zL t N (Int.le_refl _), fun y t _ => hl.pp y t N (Int.le_refl _)⟩
  | d + 1, hF, hN => by
    obtain ⟨a, b, c⟩ := jNo.sem hl d (hF.le (by omega)) (fun r x y => hN r x (by omega))
    have h99 : G' 99 (((N + d : Nat) : Int) + 1) = -1 := by
      have := hN (N + d + 1) (by omega) (by omega)
      rw [show (((N + d : Nat) : Int) + 1) = ((N + d + 1 : Nat) : Int) by omega]
      exact this
    have k := (jzF.k (n := N + d) hF).2.1.1
    have w : ¬ G' 98 (((N + d : Nat) : Int) + 1) ≤ 1 := fun z => by
      have := k (by omega)
      omega
    exact ⟨fun y => (jzA_o (n := N + d) (fun z => w z.1)).trans (a y), fun t ht => (jzL_o (n := N + d) (by omega)).trans (b t ht), fun y t ht => (jpp_o (n := N + d) (by omega)).trans (c y t ht)⟩
theorem jNo.all {G G' : jg_G} {N N' : Nat} (hl : jl_a G G' N) (hN : N ≤ N') (hF : jzF G' N') (h : jNo G' N N') : (∀ y, jzA G' y N' = jzA G y N) ∧ (∀ t, 0 ≤ t → jzL G' t N' = jzL G t N) ∧ ∀ y t, 0 ≤ t → jpp G' y t N' = jpp G y t N := by
  obtain ⟨d, rfl⟩ : ∃ d, N' = N + d := ⟨N' - N, by omega⟩
  exact jNo.sem hl d hF h
def jO (K K' : jc_K) (G G' : jg_G) (N x κ : Nat) (W : jZW) (B : Nat) (b : Int) (g' : Int → jp_C) : Prop := jk_g jQ K K' ∧ ((b = 1 ∧ jY K' G' (N + 1) x ∧ jV G G' N (N + 1) ∧ jM G' (N + 1) κ W B ∧ (∀ z, 0 ≤ z → z < 24 → jp_e (g' z) (jh G' (N + 1) z)) ∧ (∀ j, G' 112 j = G 112 j ∧ G' 108 j = G 108 j) ∧ G' 92 29 = G 92 29 ∧ G' 99 ((N : Int) + 1) = -1) ∨ (b = 0 ∧ jE K' G' x ∧ jMf G' κ W B))
theorem jnf_e {g g' : Int → jp_C} (h : ∀ z, 0 ≤ z → z < 24 → ((g' z).1 = 0 ↔ (g z).1 = 0)) : jnf g' = jnf g := by
  unfold jnf
  refine jsum_e 24 (fun i hi => ?_)
  have := h i (by omega) (by omega)
  show (if (g' i).1 = 0 then 0 else 1) = (if (g i).1 = 0 then 0 else 1)
  by_cases e : (g i).1 = 0
  · rw [if_pos e, if_pos (this.2 e)]
  · rw [if_neg e, if_neg (fun z => e (this.1 z))]
theorem jnf_d {g g' : Int → jp_C} {p : Int} (hp : 0 ≤ p ∧ p < 24) (h : (g p).1 ≠ 0) (h' : (g' p).1 = 0) (ho : ∀ z, 0 ≤ z → z < 24 → z ≠ p → ((g' z).1 = 0 ↔ (g z).1 = 0)) : jnf g' + 1 = jnf g := by
  have e : ((p.toNat : Nat) : Int) = p := by omega
  refine jsum_u (j := p.toNat) (d := 1) ?_ 24 (by omega) (fun i hi hj => ?_)
  · rw [e]
    show (if (g' p).1 = 0 then 0 else 1) + 1 = (if (g p).1 = 0 then 0 else 1)
    rw [if_pos h', if_neg h]
  · have := ho i (by omega) (by omega) (by omega)
    show (if (g' i).1 = 0 then 0 else 1) = (if (g i).1 = 0 then 0 else 1)
    by_cases e : (g i).1 = 0
    · rw [if_pos e, if_pos (this.2 e)]
    · rw [if_neg e, if_neg (fun z => e (this.1 z))]
theorem jO_sa {K K' : jc_K} {G G' : jg_G} {N x κ B : Nat} {W : jZW} {w b : Int} {P : Int → Prop} {c g' : Int → jp_C} (hM : jM G N κ W B) (hκ : κ ≤ 513) (hB : B ≤ 223) (hw : 5 ≤ w ∧ w ≤ 7) (s : jSA K K' G G' N x w b P c) (hg : ∀ z, (P z → g' z = c z) ∧ (¬ P z → g' z = jh G N z)) (hT : ∃ lo hi rk, jTs g' lo hi rk) (hn : jnf g' + (if 6 ≤ w then 1 else 0) ≤ jnf (fun p => jh G N p) + (if w = 5 then 2 else 0)) (hq : jT_q g') (hE : jzE g' (fun x => jzA G x N)) (hD : jzD g') : jO K K' G G' N x κ W (if w = 5 then B + 1 else B) b g' := by
  have he : ∀ z, jp_e (g' z) (jh G' (N + 1) z) := fun z => by
    obtain ⟨a, a'⟩ := s.2.1.2.2 z
    rcases Classical.em (P z) with e | e
    · rw [(hg z).1 e]; exact (a e).symm
    · rw [(hg z).2 e, a' e]; exact jp_e.refl _
  obtain ⟨lo, hi, rk, hT'⟩ := hT
  have T2 : ∃ lo hi rk, jTs (fun p => jh G' (N + 1) p) lo hi rk := ⟨lo, hi, rk, hT'.e (fun z _ _ => he z)⟩
  have n2 : jnf (fun p => jh G' (N + 1) p) = jnf g' := jnf_e (fun z _ _ => by
    show (jh G' (N + 1) z).1 = 0 ↔ (g' z).1 = 0
    rw [(he z).1])
  obtain ⟨r1, r2⟩ := jM_sa hM hκ hB hw s T2 (by rw [n2]; exact hn) (hq.e (fun z _ _ => ⟨(he z).1.symm, (he z).2.1.symm⟩)) (hE.e (fun z _ _ => he z) (fun _ => rfl)) (hD.e (fun z _ _ => he z))
  refine ⟨s.1, ?_⟩
  rcases s.2.2 with ⟨e, y1, y2, y3, y4, y5⟩ | ⟨e, y1, y2, y3, _⟩
  · exact Or.inl ⟨e, y1, y2, r1 e, fun z _ _ => he z, fun j => ⟨(y4 j).2.2, (y4 j).1⟩, y5, s.2.1.2.1.2.1⟩
  · exact Or.inr ⟨e, y1, r2 e⟩
section Sm
variable {K : jc_K} {G : jg_G} {N x κ B : Nat} {W : jZW}
theorem jM_go {p up k : Int} (hY : jY K G N x) (hM : jM G N κ W B) (hκ : κ ≤ 513) (hB : B ≤ 223) (hW : W.1 ≤ 2000000000) (he : jT_i (fun z => jh G N z) up k) (hkp : (jh G N up).2.2.2 k = p) (hb : (jh G N p).2.1 = 0) (hq : jT_q (fun z => if z = p then jp_0 else if z = up then jp_fg (jp_del (jh G N up) k) else jh G N z)) : ∃ K1 q K2 K' G' b, fc20 K 6 (-1) = some (K1, q) ∧ q ≠ 0 ∧ fc84 K1 q p up = some (K2, 0) ∧ fc80 K2 (jc_i K2 63 4) = some (K', b) ∧ fo181 G p up = some (G', 0) ∧ jO K K' G G' N x κ W B b (fun z => if z = p then jp_0 else if z = up then jp_fg (jp_del (jh G N up) k) else jh G N z) := by
  have hN := hM.len hκ hB
  obtain ⟨lo, hi, rk, hT⟩ := hM.1.1.2.1 N (Nat.le_refl _)
  have hc := jT_child hT.1.1 he
  obtain ⟨v1, v2, _⟩ := hT.1.2.2.1 up k he
  rw [show jT_c (fun z => jh G N z) up k = p from hkp] at hc v1 v2
  have hne : p ≠ up := fun e => by rw [e] at v2; omega
  obtain ⟨hu, h2, hk⟩ := he
  have hP := hM.2.2.2.2.2.1
  obtain ⟨K1, q, K2, K', G', b, a1, a2, a3, a4, a5, a6⟩ := ja_go hY (by omega) ⟨by omega, hc.2⟩ hu hne h2 hk hkp (fun i i0 i1 e => (hT.1.2.2.2.1 up i up k ⟨hu, h2, i0, i1⟩ ⟨hu, h2, hk⟩ (e.trans hkp.symm)).2) hM.2.2.1 (by omega)
  refine ⟨K1, q, K2, K', G', b, a1, a2, a3, a4, a5, ?_⟩
  have := jO_sa (g' := fun z => if z = p then jp_0 else if z = up then jp_fg (jp_del (jh G N up) k) else jh G N z) hM hκ hB (by decide) a6 (fun z => ⟨fun hz => ?_, fun hz => ?_⟩) ⟨lo, hi, rk, jTs_go hT hc hu hne h2 hk hkp hb (fun z z1 z2 => ?_) (if_pos rfl) ?_⟩ ?_ hq (hM.1.1.E.go hb h2 (fun z => rfl)) (hM.1.1.D.go hu h2 hk (fun z => rfl))
  · rw [if_neg (by decide)] at this; exact this
  · show (if z = p then jp_0 else if z = up then jp_fg (jp_del (jh G N up) k) else jh G N z) = (if z = p then jp_0 else jp_fg (jp_del (jh G N up) k))
    by_cases e : z = p
    · rw [if_pos e, if_pos e]
    · rw [if_neg e, if_neg e, if_pos (hz.resolve_left e)]
  · show (if z = p then jp_0 else if z = up then jp_fg (jp_del (jh G N up) k) else jh G N z) = jh G N z
    rw [if_neg (fun e => hz (Or.inl e)), if_neg (fun e => hz (Or.inr e))]
  · show (if z = p then jp_0 else if z = up then jp_fg (jp_del (jh G N up) k) else jh G N z) = jh G N z
    rw [if_neg z1, if_neg z2]
  · show (if up = p then jp_0 else if up = up then jp_fg (jp_del (jh G N up) k) else jh G N up) = _
    rw [if_neg (fun e => hne e.symm), if_pos rfl]
  · have := jnf_d (g := fun p => jh G N p) (g' := fun z => if z = p then jp_0 else if z = up then jp_fg (jp_del (jh G N up) k) else jh G N z) (p := p) ⟨by omega, hc.2⟩ v1 (by show (if p = p then jp_0 else _).1 = 0; rw [if_pos rfl]; rfl) (fun z _ _ z2 => by
      show (if z = p then jp_0 else if z = up then jp_fg (jp_del (jh G N up) k) else jh G N z).1 = 0 ↔ (jh G N z).1 = 0
      rw [if_neg z2]
      by_cases e : z = up
      · rw [if_pos e, e]
        exact Iff.rfl
      · rw [if_neg e])
    rw [if_pos (by decide), if_neg (by decide)]
    omega
theorem jM_to {c : Int} (hY : jY K G N x) (hM : jM G N κ W B) (hκ : κ ≤ 513) (hB : B ≤ 223) (hW : W.1 ≤ 2000000000) (h2 : (jh G N 0).1 = 2) (h1 : (jh G N 0).2.1 = 1) (hc : (jh G N 0).2.2.2 0 = c) (hq : jT_q (fun z => if z = c then jp_0 else if z = 0 then jh G N c else jh G N z)) (f : jg_G × Int → Option (jg_G × Int)) : (1 ≤ c ∧ c < 24) ∧ ∃ K1 q K2 K' G' b, fc20 K 7 (-1) = some (K1, q) ∧ q ≠ 0 ∧ fc85 K1 q c = some (K2, 0) ∧ fc80 K2 (jc_i K2 63 4) = some (K', b) ∧ ((fo171 G 7 0 c (-1)).bind fun x19 => if 0 ≤ c ∧ c < 24 then jo_l (fr_ro (x19.1) c) fun x22 => if 1 ≤ (x19.2) ∧ (x19.2) < 1501 then if 0 ≤ (x19.1) 105 (x19.2) ∧ (x19.1) 105 (x19.2) ≤ 3 then jo_l (fr_ri (x19.1) (x19.2) (0 : Int)) fun x26 => if 0 ≤ x22 ∧ x22 < 4554 then if 0 ≤ x26 ∧ x26 < 4554 then if 0 ≤ (fr_copies (x19.1) x22 x26) 105 (x19.2) ∧ (fr_copies (x19.1) x22 x26) 105 (x19.2) ≤ 3 then jo_l (fr_ri (fr_copies (x19.1) x22 x26) (x19.2) c) fun x32 => if 0 ≤ x32 ∧ x32 < 4554 then (fo174 (fr_empties (fr_copies (x19.1) x22 x26) x32 (0 : Int)) (x19.2)).bind f else none else none else none else none else none else none else none) = f (G', 0) ∧ jO K K' G G' N x κ W B b (fun z => if z = c then jp_0 else if z = 0 then jh G N c else jh G N z) := by
  have hN := hM.len hκ hB
  obtain ⟨lo, hi, rk, hT⟩ := hM.1.1.2.1 N (Nat.le_refl _)
  have re : jT_i (fun z => jh G N z) 0 0 := ⟨by decide, h2, by decide, by show 0 < (jh G N 0).2.1; rw [h1]; decide⟩
  have cb := jT_child hT.1.1 re
  obtain ⟨v1, v2, _⟩ := hT.1.2.2.1 0 0 re
  rw [show jT_c (fun z => jh G N z) 0 0 = c from hc] at cb v1 v2
  have cn0 : c ≠ 0 := by omega
  have hP := hM.2.2.2.2.2.1
  obtain ⟨K1, q, K2, K', G', b, a1, a2, a3, a4, a5, a6⟩ := ja_to hY (by omega) cb hM.2.2.1 (by omega) f
  refine ⟨cb, K1, q, K2, K', G', b, a1, a2, a3, a4, a5, ?_⟩
  have := jO_sa (g' := fun z => if z = c then jp_0 else if z = 0 then jh G N c else jh G N z) hM hκ hB (by decide) a6 (fun z => ⟨fun hz => ?_, fun hz => ?_⟩) ⟨lo, hi, rk, jTs_to hT h2 h1 hc (fun z z1 z2 => ?_) ?_ (if_pos rfl)⟩ ?_ hq (hM.1.1.E.to cb h2 (fun z => rfl)) (hM.1.1.D.to hT.1.1 cb (fun z => rfl))
  · rw [if_neg (by decide)] at this; exact this
  · show (if z = c then jp_0 else if z = 0 then jh G N c else jh G N z) = (if z = c then jp_0 else jh G N c)
    by_cases e : z = c
    · rw [if_pos e, if_pos e]
    · rw [if_neg e, if_neg e, if_pos (hz.resolve_right e)]
  · show (if z = c then jp_0 else if z = 0 then jh G N c else jh G N z) = jh G N z
    rw [if_neg (fun e => hz (Or.inr e)), if_neg (fun e => hz (Or.inl e))]
  · show (if z = c then jp_0 else if z = 0 then jh G N c else jh G N z) = jh G N z
    rw [if_neg z2, if_neg z1]
  · show (if (0 : Int) = c then jp_0 else if (0 : Int) = 0 then jh G N c else jh G N 0) = _
    rw [if_neg (by omega), if_pos rfl]
  · have := jnf_d (g := fun p => jh G N p) (g' := fun z => if z = c then jp_0 else if z = 0 then jh G N c else jh G N z) (p := c) ⟨by omega, cb.2⟩ v1 (by show (if c = c then jp_0 else _).1 = 0; rw [if_pos rfl]; rfl) (fun z _ _ z2 => by
      show (if z = c then jp_0 else if z = 0 then jh G N c else jh G N z).1 = 0 ↔ (jh G N z).1 = 0
      rw [if_neg z2]
      by_cases e : z = 0
      · rw [if_pos e, e, h2]
        exact ⟨fun y => absurd y v1, fun y => absurd y (by decide)⟩
      · rw [if_neg e])
    rw [if_pos (by decide), if_neg (by decide)]
    omega
theorem jnf_i {g g' : Int → jp_C} {p : Int} (hp : 0 ≤ p ∧ p < 24) (ho : ∀ z, 0 ≤ z → z < 24 → z ≠ p → ((g' z).1 = 0 ↔ (g z).1 = 0)) : jnf g' ≤ jnf g + 1 := by
  by_cases h : (g p).1 = 0
  · by_cases h' : (g' p).1 = 0
    · have := jnf_e (g := g) (g' := g') (fun z z0 z1 => by
        by_cases e : z = p
        · rw [e, h, h']
        · exact ho z z0 z1 e)
      omega
    · have := jnf_d (g := g') (g' := g) hp h' h (fun z z0 z1 z2 => (ho z z0 z1 z2).symm)
      omega
  · by_cases h' : (g' p).1 = 0
    · have := jnf_d (g := g) (g' := g') hp h h' ho
      omega
    · have := jnf_e (g := g) (g' := g') (fun z z0 z1 => by
        by_cases e : z = p
        · rw [e]; exact ⟨fun y => absurd y h', fun y => absurd y h⟩
        · exact ho z z0 z1 e)
      omega
theorem jM_sp0 {a b : Int} {c : jp_C} (hY : jY K G N x) (hM : jM G N κ W B) (hκ : κ ≤ 513) (hB : B ≤ 223) (hW : W.1 ≤ 2000000000) (hc : jh G N 0 = c) (hn : 4 ≤ c.2.1) (ha : jfr (fun p => (jh G N p).1) 1 a) (hb : jfr (fun p => (jh G N p).1) (a + 1) b) (hb24 : b < 24) (hq : jT_q (fun z => if z = 0 then jp_rt a b (c.2.2.1 ((c.2.1 + 1) / 2)) else if z = a then jp_part c 0 ((c.2.1 + 1) / 2) else if z = b then jp_part c ((c.2.1 + 1) / 2) c.2.1 else jh G N z)) : ∃ K1 q G1 K2 K' G' b', fc20 K 5 (-1) = some (K1, q) ∧ q ≠ 0 ∧ (jq G1 0 = jq G 0) ∧ fc78 K1 q (jq G 0) = some (K2, 0) ∧ fc80 K2 (jc_i K2 63 4) = some (K', b') ∧ fo178 G = some (G', 0) ∧ jO K K' G G' N x κ W (B + 1) b' (fun z => if z = 0 then jp_rt a b (c.2.2.1 ((c.2.1 + 1) / 2)) else if z = a then jp_part c 0 ((c.2.1 + 1) / 2) else if z = b then jp_part c ((c.2.1 + 1) / 2) c.2.1 else jh G N z) := by
  have hN := hM.len hκ hB
  obtain ⟨lo, hi, rk, hT⟩ := hM.1.1.2.1 N (Nat.le_refl _)
  have hk : c.1 ≠ 0 := by rw [← hc]; exact hT.1.2.1
  have hab : 1 ≤ a ∧ a < b := ⟨ha.1.1, by have := hb.1.1; omega⟩
  have fa : (jh G N a).1 = 0 := ha.2.1 (by omega)
  have fb : (jh G N b).1 = 0 := hb.2.1 (by omega)
  have hP := hM.2.2.2.2.2.1
  obtain ⟨K1, q, G1, K2, K', G', b', a1, a2, a2', a3, a4, a5, a6⟩ := ja_sp0 hY (by omega) hc hn hk ha hb hb24 hM.2.2.1 (by omega)
  refine ⟨K1, q, G1, K2, K', G', b', a1, a2, a2', a3, a4, a5, ?_⟩
  have hT2 := jTs_sp0 (a := a) (b := b) (H := (c.2.1 + 1) / 2) (g' := fun z => if z = 0 then jp_rt a b (c.2.2.1 ((c.2.1 + 1) / 2)) else if z = a then jp_part c 0 ((c.2.1 + 1) / 2) else if z = b then jp_part c ((c.2.1 + 1) / 2) c.2.1 else jh G N z) hT (by show 2 ≤ _ ∧ _ < (jh G N 0).2.1; rw [hc]; omega) (by omega) (by omega) (by omega) fa fb (fun z z1 z2 z3 => by
    show (if z = 0 then _ else if z = a then _ else if z = b then _ else jh G N z) = _
    rw [if_neg z1, if_neg z2, if_neg z3]) (by
    show (if (0 : Int) = 0 then jp_rt a b (c.2.2.1 ((c.2.1 + 1) / 2)) else _) = jp_rt a b ((jh G N 0).2.2.1 _)
    rw [if_pos rfl, hc]) (by
    show (if a = 0 then _ else if a = a then jp_part c 0 ((c.2.1 + 1) / 2) else _) = jp_part (jh G N 0) 0 _
    rw [if_neg (by omega), if_pos rfl, hc]) (by
    show (if b = 0 then _ else if b = a then _ else if b = b then jp_part c ((c.2.1 + 1) / 2) c.2.1 else _) = jp_part (jh G N 0) _ (jh G N 0).2.1
    rw [if_neg (by omega), if_neg (by omega), if_pos rfl, hc])
  have q0 : (fun z => if z = 0 then jp_rt a b (c.2.2.1 ((c.2.1 + 1) / 2)) else if z = a then jp_part c 0 ((c.2.1 + 1) / 2) else if z = b then jp_part c ((c.2.1 + 1) / 2) c.2.1 else jh G N z) 0 = jp_rt a b (c.2.2.1 ((c.2.1 + 1) / 2)) := if_pos rfl
  have qa : (fun z => if z = 0 then jp_rt a b (c.2.2.1 ((c.2.1 + 1) / 2)) else if z = a then jp_part c 0 ((c.2.1 + 1) / 2) else if z = b then jp_part c ((c.2.1 + 1) / 2) c.2.1 else jh G N z) a = jp_part ((fun z => jh G N z) 0) 0 ((c.2.1 + 1) / 2) := by
    show (if a = 0 then _ else if a = a then jp_part c 0 ((c.2.1 + 1) / 2) else _) = jp_part (jh G N 0) 0 _
    rw [if_neg (by omega), if_pos rfl, hc]
  have qb : (fun z => if z = 0 then jp_rt a b (c.2.2.1 ((c.2.1 + 1) / 2)) else if z = a then jp_part c 0 ((c.2.1 + 1) / 2) else if z = b then jp_part c ((c.2.1 + 1) / 2) c.2.1 else jh G N z) b = jp_part ((fun z => jh G N z) 0) ((c.2.1 + 1) / 2) ((fun z => jh G N z) 0).2.1 := by
    show (if b = 0 then _ else if b = a then _ else if b = b then jp_part c ((c.2.1 + 1) / 2) c.2.1 else _) = jp_part (jh G N 0) _ (jh G N 0).2.1
    rw [if_neg (by omega), if_neg (by omega), if_pos rfl, hc]
  have qo : ∀ z, z ≠ 0 → z ≠ a → z ≠ b → (fun z => if z = 0 then jp_rt a b (c.2.2.1 ((c.2.1 + 1) / 2)) else if z = a then jp_part c 0 ((c.2.1 + 1) / 2) else if z = b then jp_part c ((c.2.1 + 1) / 2) c.2.1 else jh G N z) z = (fun z => jh G N z) z := fun z z1 z2 z3 => by
    show (if z = 0 then _ else if z = a then _ else if z = b then _ else jh G N z) = jh G N z
    rw [if_neg z1, if_neg z2, if_neg z3]
  have qH : 0 ≤ (c.2.1 + 1) / 2 ∧ (c.2.1 + 1) / 2 ≤ ((fun z => jh G N z) 0).2.1 := by
    show 0 ≤ (c.2.1 + 1) / 2 ∧ (c.2.1 + 1) / 2 ≤ (jh G N 0).2.1
    rw [hc]; omega
  have := jO_sa hM hκ hB (by decide) a6 (fun z => ⟨fun hz => ?_, fun hz => ?_⟩) hT2 ?_ hq (hM.1.1.E.two (p := 0) (a := a) (b := b) (u := 0) (by decide) (by omega) (by omega) (by omega) (Or.inr (by show ¬ (jh G N a).1 = 1; omega)) (by show ¬ (jh G N b).1 = 1; omega) qH (by omega) (Or.inl rfl) (Or.inr rfl) rfl qa qb q0 (fun z z1 z2 z3 => qo z z3 z1 z2)) (hM.1.1.D.sp0 hT.1 (by omega) (by omega) fa fb qH q0 qa qb qo)
  · rw [if_pos rfl] at this; exact this
  · show (if z = 0 then _ else if z = a then _ else if z = b then _ else jh G N z) = (if z = 0 then _ else if z = a then _ else _)
    by_cases e : z = 0
    · rw [if_pos e, if_pos e]
    · rw [if_neg e, if_neg e]
      by_cases e2 : z = a
      · rw [if_pos e2, if_pos e2]
      · rw [if_neg e2, if_neg e2, if_pos ((hz.resolve_left e).resolve_left e2)]
  · show (if z = 0 then _ else if z = a then _ else if z = b then _ else jh G N z) = jh G N z
    rw [if_neg (fun e => hz (Or.inl e)), if_neg (fun e => hz (Or.inr (Or.inl e))), if_neg (fun e => hz (Or.inr (Or.inr e)))]
  · rw [if_neg (by decide), if_pos rfl]
    have s1 := jnf_i (g := fun p => jh G N p) (g' := fun z => if z = a then jp_part c 0 ((c.2.1 + 1) / 2) else jh G N z) (p := a) (by omega) (fun z _ _ z2 => by
      show (if z = a then _ else jh G N z).1 = 0 ↔ (jh G N z).1 = 0
      rw [if_neg z2])
    have s2 := jnf_i (g := fun z => if z = a then jp_part c 0 ((c.2.1 + 1) / 2) else jh G N z) (g' := fun z => if z = 0 then jp_rt a b (c.2.2.1 ((c.2.1 + 1) / 2)) else if z = a then jp_part c 0 ((c.2.1 + 1) / 2) else if z = b then jp_part c ((c.2.1 + 1) / 2) c.2.1 else jh G N z) (p := b) (by omega) (fun z _ _ z2 => by
      show (if z = 0 then _ else if z = a then _ else if z = b then _ else jh G N z).1 = 0 ↔ (if z = a then _ else jh G N z).1 = 0
      by_cases e : z = 0
      · rw [if_pos e, if_neg (by omega), e, hc]
        exact ⟨fun y => absurd y (show ¬ (2 : Int) = 0 by decide), fun y => absurd y hk⟩
      · rw [if_neg e]
        by_cases e2 : z = a
        · rw [if_pos e2, if_pos e2]
        · rw [if_neg e2, if_neg e2, if_neg z2])
    omega
theorem jM_sp {p up a k : Int} {c cu : jp_C} (hY : jY K G N x) (hM : jM G N κ W B) (hκ : κ ≤ 513) (hB : B ≤ 223) (hW : W.1 ≤ 2000000000) (he : jT_i (fun z => jh G N z) up k) (hkp : (jh G N up).2.2.2 k = p) (hc : jh G N p = c) (hcu : jh G N up = cu) (hn : 4 ≤ c.2.1) (hu4 : cu.2.1 < 4) (ha : jfr (fun p => (jh G N p).1) 1 a) (ha24 : a < 24) (hq : jT_q (fun z => if z = up then jp_ins cu (k + 1) (c.2.2.1 ((c.2.1 + 1) / 2)) a else if z = p then jp_part c 0 ((c.2.1 + 1) / 2) else if z = a then jp_part c ((c.2.1 + 1) / 2) c.2.1 else jh G N z)) : ∃ K1 q K2 K' G' b', fc20 K 5 (-1) = some (K1, q) ∧ q ≠ 0 ∧ fc79 K1 q (jq G p) p up = some (K2, 0) ∧ fc80 K2 (jc_i K2 63 4) = some (K', b') ∧ fo180 G p up = some (G', 0) ∧ jO K K' G G' N x κ W (B + 1) b' (fun z => if z = up then jp_ins cu (k + 1) (c.2.2.1 ((c.2.1 + 1) / 2)) a else if z = p then jp_part c 0 ((c.2.1 + 1) / 2) else if z = a then jp_part c ((c.2.1 + 1) / 2) c.2.1 else jh G N z) := by
  have hN := hM.len hκ hB
  obtain ⟨lo, hi, rk, hT⟩ := hM.1.1.2.1 N (Nat.le_refl _)
  have hcb := jT_child hT.1.1 he
  obtain ⟨v1, v2, _⟩ := hT.1.2.2.1 up k he
  rw [show jT_c (fun z => jh G N z) up k = p from hkp] at hcb v1 v2
  have hne : p ≠ up := fun e => by rw [e] at v2; omega
  obtain ⟨hu, h2, hk⟩ := id he
  have fa : (jh G N a).1 = 0 := ha.2.1 ha24
  have ha1 := ha.1.1
  have hP := hM.2.2.2.2.2.1
  have apn : a ≠ p := fun e => by rw [e] at fa; exact v1 fa
  have aun : a ≠ up := fun e => by rw [e] at fa; have h2' : (jh G N up).1 = 2 := h2; omega
  have hT2 := jTs_sp (a := a) (H := (c.2.1 + 1) / 2) (g' := fun z => if z = up then jp_ins cu (k + 1) (c.2.2.1 ((c.2.1 + 1) / 2)) a else if z = p then jp_part c 0 ((c.2.1 + 1) / 2) else if z = a then jp_part c ((c.2.1 + 1) / 2) c.2.1 else jh G N z) hT hu h2 hk (by show (jh G N up).2.1 < 4; rw [hcu]; exact hu4) hkp hne (by show 2 ≤ _ ∧ _ < (jh G N p).2.1; rw [hc]; omega) (by omega) fa (fun z z1 z2 z3 => by
    show (if z = up then _ else if z = p then _ else if z = a then _ else jh G N z) = _
    rw [if_neg z1, if_neg z2, if_neg z3]) (by
    show (if up = up then jp_ins cu (k + 1) (c.2.2.1 ((c.2.1 + 1) / 2)) a else _) = jp_ins (jh G N up) (k + 1) ((jh G N p).2.2.1 _) a
    rw [if_pos rfl, hc, hcu]) (by
    show (if p = up then _ else if p = p then jp_part c 0 ((c.2.1 + 1) / 2) else _) = jp_part (jh G N p) 0 _
    rw [if_neg hne, if_pos rfl, hc]) (by
    show (if a = up then _ else if a = p then _ else if a = a then jp_part c ((c.2.1 + 1) / 2) c.2.1 else _) = jp_part (jh G N p) _ (jh G N p).2.1
    rw [if_neg aun, if_neg apn, if_pos rfl, hc])
  obtain ⟨⟨t1, t2⟩, hT2⟩ := hT2
  have t1' : (if k = 0 then lo up else cu.2.2.1 k) ≤ c.2.2.1 ((c.2.1 + 1) / 2) := by rw [← hc, ← hcu]; rw [← hc] at t1; exact t1
  have t2' : k + 1 < cu.2.1 → c.2.2.1 ((c.2.1 + 1) / 2) ≤ cu.2.2.1 (k + 1) := by rw [← hc, ← hcu]; rw [← hc] at t2; exact t2
  have hw : jp_w cu := by rw [← hcu]; exact hT.1.1 up hu.1 hu.2
  have hwc : jp_w c := by rw [← hc]; exact hT.1.1 p (by omega) hcb.2
  have kc : 0 ≤ k ∧ k < cu.2.1 := by rw [← hcu]; exact hk
  have h2c : cu.1 = 2 := by rw [← hcu]; exact h2
  obtain ⟨K1, q, K2, K', G', b', a1, a2, a3, a4, a5, a6⟩ := ja_sp hY (by omega) ⟨by omega, hcb.2⟩ hu hne hc hcu hn (by rw [← hc]; exact v1) h2c hu4 kc (by rw [← hcu]; exact hkp) (fun i i0 i1 e => (hT.1.2.2.2.1 up i up k ⟨hu, h2, i0, by show i < (jh G N up).2.1; rw [hcu]; exact i1⟩ he (by show (jh G N up).2.2.2 i = (jh G N up).2.2.2 k; rw [hkp, hcu]; exact e)).2) ha ha24 hT.1.2.1 (by
    by_cases z : k = 0
    · rw [z]
      obtain ⟨_, w⟩ := id hw
      have w0 := ((w.resolve_left (fun z => by omega)).resolve_left (fun z => by omega)).2.2.1 (by omega)
      rw [w0]
      have hb := hwc.1
      exact (jp_cell hwc (i := (c.2.1 + 1) / 2) (by omega) (by omega)).1.1
    · rw [if_neg z] at t1'; exact t1') t2' hM.2.2.1 (by omega)
  refine ⟨K1, q, K2, K', G', b', a1, a2, a3, a4, a5, ?_⟩
  have qu : (fun z => if z = up then jp_ins cu (k + 1) (c.2.2.1 ((c.2.1 + 1) / 2)) a else if z = p then jp_part c 0 ((c.2.1 + 1) / 2) else if z = a then jp_part c ((c.2.1 + 1) / 2) c.2.1 else jh G N z) up = jp_ins ((fun z => jh G N z) up) (k + 1) (c.2.2.1 ((c.2.1 + 1) / 2)) a := by
    show (if up = up then jp_ins cu (k + 1) (c.2.2.1 ((c.2.1 + 1) / 2)) a else _) = jp_ins (jh G N up) (k + 1) _ a
    rw [if_pos rfl, hcu]
  have qp : (fun z => if z = up then jp_ins cu (k + 1) (c.2.2.1 ((c.2.1 + 1) / 2)) a else if z = p then jp_part c 0 ((c.2.1 + 1) / 2) else if z = a then jp_part c ((c.2.1 + 1) / 2) c.2.1 else jh G N z) p = jp_part ((fun z => jh G N z) p) 0 ((c.2.1 + 1) / 2) := by
    show (if p = up then _ else if p = p then jp_part c 0 ((c.2.1 + 1) / 2) else _) = jp_part (jh G N p) 0 _
    rw [if_neg hne, if_pos rfl, hc]
  have qa : (fun z => if z = up then jp_ins cu (k + 1) (c.2.2.1 ((c.2.1 + 1) / 2)) a else if z = p then jp_part c 0 ((c.2.1 + 1) / 2) else if z = a then jp_part c ((c.2.1 + 1) / 2) c.2.1 else jh G N z) a = jp_part ((fun z => jh G N z) p) ((c.2.1 + 1) / 2) ((fun z => jh G N z) p).2.1 := by
    show (if a = up then _ else if a = p then _ else if a = a then jp_part c ((c.2.1 + 1) / 2) c.2.1 else _) = jp_part (jh G N p) _ (jh G N p).2.1
    rw [if_neg aun, if_neg apn, if_pos rfl, hc]
  have qo : ∀ z, z ≠ up → z ≠ p → z ≠ a → (fun z => if z = up then jp_ins cu (k + 1) (c.2.2.1 ((c.2.1 + 1) / 2)) a else if z = p then jp_part c 0 ((c.2.1 + 1) / 2) else if z = a then jp_part c ((c.2.1 + 1) / 2) c.2.1 else jh G N z) z = (fun z => jh G N z) z := fun z z1 z2 z3 => by
    show (if z = up then _ else if z = p then _ else if z = a then _ else jh G N z) = jh G N z
    rw [if_neg z1, if_neg z2, if_neg z3]
  have qH : 0 ≤ (c.2.1 + 1) / 2 ∧ (c.2.1 + 1) / 2 ≤ ((fun z => jh G N z) p).2.1 := by
    show 0 ≤ (c.2.1 + 1) / 2 ∧ (c.2.1 + 1) / 2 ≤ (jh G N p).2.1
    rw [hc]; omega
  have := jO_sa hM hκ hB (by decide) a6 (fun z => ⟨fun hz => ?_, fun hz => ?_⟩) hT2 ?_ hq (hM.1.1.E.two (p := p) (a := p) (b := a) (u := up) ⟨by omega, hcb.2⟩ ⟨by omega, hcb.2⟩ (by omega) (fun z => apn z.symm) (Or.inl rfl) (by show ¬ (jh G N a).1 = 1; omega) qH ⟨fun z => hne z.symm, fun z => aun z.symm⟩ (Or.inr h2) (Or.inl rfl) (show (jp_ins (jh G N up) (k + 1) (c.2.2.1 ((c.2.1 + 1) / 2)) a).1 = 2 from h2) qp qa qu (fun z z1 z2 z3 => qo z z3 z1 z2)) (hM.1.1.D.sp hT.1 hu ⟨by omega, hcb.2⟩ h2 hk hkp hne (by omega) fa v1 qH qu qp qa qo)
  · rw [if_pos rfl] at this; exact this
  · show (if z = up then _ else if z = p then _ else if z = a then _ else jh G N z) = (if z = up then _ else if z = p then _ else _)
    by_cases e : z = up
    · rw [if_pos e, if_pos e]
    · rw [if_neg e, if_neg e]
      by_cases e2 : z = p
      · rw [if_pos e2, if_pos e2]
      · rw [if_neg e2, if_neg e2, if_pos ((hz.resolve_left e).resolve_left e2)]
  · show (if z = up then _ else if z = p then _ else if z = a then _ else jh G N z) = jh G N z
    rw [if_neg (fun e => hz (Or.inl e)), if_neg (fun e => hz (Or.inr (Or.inl e))), if_neg (fun e => hz (Or.inr (Or.inr e)))]
  · rw [if_neg (by decide), if_pos rfl]
    have s1 := jnf_i (g := fun p => jh G N p) (g' := fun z => if z = up then jp_ins cu (k + 1) (c.2.2.1 ((c.2.1 + 1) / 2)) a else if z = p then jp_part c 0 ((c.2.1 + 1) / 2) else if z = a then jp_part c ((c.2.1 + 1) / 2) c.2.1 else jh G N z) (p := a) (by omega) (fun z _ _ z2 => by
      show (if z = up then _ else if z = p then _ else if z = a then _ else jh G N z).1 = 0 ↔ (jh G N z).1 = 0
      by_cases e : z = up
      · rw [if_pos e, e, hcu]
        exact Iff.rfl
      · rw [if_neg e]
        by_cases e2 : z = p
        · rw [if_pos e2, e2, hc]
          exact Iff.rfl
        · rw [if_neg e2, if_neg z2])
    omega
end Sm
