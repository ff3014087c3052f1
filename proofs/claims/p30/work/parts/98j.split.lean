/-! A PAGE SPLIT for a key: what put() does ahead of its change -/
theorem jW.at {K : jc_K} {G : jg_G} {N L : Nat} {key j : Int} (h : jW K G N key L) (hL : L < 24) (h0 : 0 ≤ j) (h1 : j ≤ L) : fc69 K j = some (K, G 112 j) := by
  unfold fc69
  rw [if_neg (by omega), if_neg (by omega), if_pos ⟨h0, by omega⟩, (h.2.1 j h0 h1).1]
theorem jW.end' {K : jc_K} {G : jg_G} {N L : Nat} {key : Int} (h : jW K G N key L) (hL : L < 24) : fc70 K = some (K, G 112 L) := by
  unfold fc70
  rw [h.1.1, h.at hL (by omega) (Int.le_refl _), jo_bs]
theorem jW.rk {K : jc_K} {G : jg_G} {N L : Nat} {key : Int} {lo hi rk : Int → Int} (h : jW K G N key L) (hT : jTs (fun z => jh G N z) lo hi rk) : ∀ j : Int, 0 ≤ j → j < L → ∃ k, jT_i (fun z => jh G N z) (G 112 j) k ∧ (jh G N (G 112 j)).2.2.2 k = G 112 (j + 1) := fun j j0 j1 => by
  obtain ⟨k2, k, kc, ke⟩ := h.2.2.2.1 j j0 j1
  exact ⟨k, ⟨(h.2.1 j j0 (by omega)).2, k2, kc.1.1, kc.1.2⟩, ke⟩
section Sp
variable {K : jc_K} {G : jg_G} {N x κ B L : Nat} {W : jZW} {key : Int}
theorem jY.full {p : Int} (h : jY K G N x) (hp : 0 ≤ p ∧ p < 24) : fo177 G p = some (G, if (jh G N p).2.1 < 4 then 0 else 1) := by
  obtain ⟨_, _, _, a, b, _⟩ := h.seen hp
  unfold fo177
  rw [if_pos hp, jo_le, if_pos (by omega), b.2.1]
  by_cases e : (jh G N p).2.1 < 4
  · rw [if_pos e, if_pos e]
  · rw [if_neg e, if_neg e]
theorem jtop_c (hY : jY K G N x) (hw : jW K G N key L) (hL : L < 24) : ∀ (m t : Nat), t ≤ L → t < m → ∃ d : Nat, d ≤ t ∧ fc74_12 m K t ((t : Int) - 1) = some (K, (d : Int)) ∧ (∀ j : Nat, d ≤ j → j < t → 4 ≤ (jh G N (G 112 j)).2.1) ∧ (0 < d → (jh G N (G 112 ((d : Int) - 1))).2.1 < 4) := by
  intro m
  induction m with
  | zero => intro t _ h; omega
  | succ m ih =>
    intro t ht hm
    unfold fc74_12
    cases t with
    | zero => exact ⟨0, Nat.le_refl _, by rw [if_pos (by omega)], fun j a b => by omega, fun z => by omega⟩
    | succ t =>
      have e1 : (((t + 1 : Nat) : Nat) : Int) - 1 = t := by omega
      obtain ⟨a, b, c, _, _, _⟩ := hY.seen (hw.2.1 (t : Int) (by omega) (by omega)).2
      rw [e1, if_neg (by omega), hw.at hL (by omega) (by omega), jo_bs]
      dsimp only
      rw [a, jo_bs]
      dsimp only
      rw [if_neg (by omega), if_pos c.1, c.2.2.1]
      by_cases e : 4 ≤ (jh G N (G 112 t)).2.1
      · rw [if_pos e, if_pos (by omega)]
        obtain ⟨d, d1, d2, d3, d4⟩ := ih t (by omega) (by omega)
        refine ⟨d, by omega, ?_, fun j a b => ?_, d4⟩
        · rw [show (t : Int) + (-1) = t - 1 by omega]; exact d2
        · by_cases z : j = t
          · rw [z]; exact e
          · exact d3 j a (by omega)
      · rw [if_neg e]
        exact ⟨t + 1, Nat.le_refl _, rfl, fun j a b => by omega, fun _ => by rw [e1]; omega⟩
theorem jtop_r (hY : jY K G N x) (hw : jW K G N key L) (hL : L < 24) (l1 l3 l4 : Int) (k : Nat) (d : Nat) : ∀ n : Nat, d + n ≤ L → (∀ j : Nat, d ≤ j → j < d + n → 4 ≤ (jh G N (G 112 j)).2.1) → fo193_s (k + n) 153 G l1 key l3 l4 ((d + n : Nat) : Int) = fo193_s k 153 G l1 key l3 l4 (d : Int) := by
  intro n
  induction n with
  | zero => intro _ _; rfl
  | succ n ih =>
    intro h1 h2
    have e1 : (((d + (n + 1) : Nat) : Nat) : Int) - 1 = ((d + n : Nat) : Int) := by omega
    have pb := (hw.2.1 ((d + n : Nat) : Int) (by omega) (by omega)).2
    have fu := hY.full pb
    rw [if_neg (by have := h2 (d + n) (by omega) (by omega); omega)] at fu
    show fo193_s (k + n + 1) 153 G l1 key l3 l4 ((d + (n + 1) : Nat) : Int) = _
    conv => lhs; unfold fo193_s
    rw [if_neg (by decide), if_pos rfl, if_neg (by omega), e1, if_pos (by omega), fu, jo_bs]
    dsimp only
    rw [if_neg (by decide), if_pos (by omega), show (((d + (n + 1) : Nat) : Nat) : Int) + (-1) = ((d + n : Nat) : Int) by omega]
    exact ih (by omega) (fun j a b => h2 j a (by omega))
/-- the topmost page that is full is split, or there is no page left -/
theorem jsplit (hY : jY K G N x) (hM : jM G N κ W B) (hκ : κ ≤ 513) (hB : B ≤ 223) (hW : W.1 ≤ 2000000000) (hw : jW K G N key L) (hL : L < 24) (hz : jT_z (fun z => jh G N z)) (hf : 4 ≤ (jh G N (G 112 L)).2.1) (l1 l3 l4 : Int) (k : Nat) (f : jc_K × Int → Option (jc_K × Int)) : ∃ K' a, ((fc74 K).bind fun x8 => (fc76 (x8.1) (x8.2)).bind fun x10 => if x10.2 = 0 then (some (x10.1, (-5))) else ((fc77 (x10.1) (x8.2)).bind fun x13 => if x13.2 = 0 then (some (x13.1, (-4))) else f x13)) = (if a = -5 then some (K, -5) else if a = -4 then some (K', -4) else f (K', 1)) ∧ jk_g jQ K K' ∧ ((a = -5 ∧ fo193_s (k + L + 1) 153 G l1 key l3 l4 L = some (G, -5)) ∨ (a = -4 ∧ ∃ G' n, fo193_s (k + L + 1) 153 G l1 key l3 l4 L = fo193_s (k + n) 97 G' l1 key l3 l4 0 ∧ jE K' G' x ∧ jMf G' κ W (B + 1)) ∨ (a = 0 ∧ ∃ G' n, fo193_s (k + L + 1) 153 G l1 key l3 l4 L = ((fo175 G' key).bind fun y => fo193_s (k + n) 97 (y.1) l1 key l3 l4 0) ∧ jA K' G G' N (N + 1) x κ W (B + 1) ∧ jT_z (fun z => jh G' (N + 1) z) ∧ jnf (fun z => jh G N z) + 1 ≤ jnf (fun z => jh G' (N + 1) z) ∧ ∀ j, G' 108 j = G 108 j)) := by
  obtain ⟨lo, hi, rk, hT⟩ := hM.1.1.2.1 N (Nat.le_refl _)
  have c0 := hT.1.2.1
  obtain ⟨d, d1, d2, d3, d4⟩ := jtop_c hY hw hL jo_N L (Nat.le_refl _) (by unfold jo_N; omega)
  have e74 : fc74 K = some (K, (d : Int)) := by
    unfold fc74
    rw [hw.1.1, if_pos (by omega)]
    exact d2
  have tr := jtop_r hY hw hL l1 l3 l4 (k + d + 1) d (L - d) (by omega) (fun j a b => d3 j a (by omega))
  rw [show k + d + 1 + (L - d) = k + L + 1 by omega, show d + (L - d) = L by omega] at tr
  have fulld : 4 ≤ (jh G N (G 112 d)).2.1 := by
    by_cases e : d = L
    · rw [e]; exact hf
    · exact d3 d (Nat.le_refl _) (by omega)
  have rows := hY.rows
  have kinds : ∀ p, 0 ≤ p → p < 24 → fc4 K p = some (K, (jh G N p).1) := fun p p0 p1 => by
    have := jN_kind hY.1 ⟨p0, p1⟩
    rw [jh_v] at this
    exact this
  obtain ⟨a, ha, ca⟩ := jc_fr75 kinds (l := 0) (by decide) (by decide)
  have ha0 : jfr (fun p => (jh G N p).1) 0 a := ha.up c0
  obtain ⟨a', ha', ra⟩ := jr_fr176 rows (l := 0) (by decide) (by decide)
  rw [ha'.u ha0] at ra
  have a1 : 1 ≤ a ∧ a ≤ 24 := by have := ha.1; omega
  rw [e74, jo_bs]
  dsimp only
  -- the reference, at the page that is to be split
  have ref0 : fo193_s (k + L + 1) 153 G l1 key l3 l4 L = ((fo176 G 0).bind fun x23 => if x23.2 = 24 then (some (x23.1, (-5))) else (if (d : Int) = 0 then (if -2147483648 ≤ ((x23.2) + 1) ∧ ((x23.2) + 1) < 2147483648 then (fo176 (x23.1) ((x23.2) + 1)).bind fun x35 => if x35.2 = 24 then (some (x35.1, (-5))) else ((fo178 (x35.1)).bind fun x38 => if (x38.1) 92 7 = 0 then ((fo175 (x38.1) key).bind fun x41 => fo193_s (k + d) 97 (x41.1) l1 key l3 l4 0) else (fo193_s (k + d) 97 (x38.1) l1 key l3 l4 0)) else none) else ((fo180 (x23.1) ((x23.1) 112 (d : Int)) ((x23.1) 112 ((d : Int) - 1))).bind fun x29 => if (x29.1) 92 7 = 0 then ((fo175 (x29.1) key).bind fun x32 => fo193_s (k + d) 97 (x32.1) l1 key l3 l4 0) else (fo193_s (k + d) 97 (x29.1) l1 key l3 l4 0)))) := by
    rw [tr]
    conv => lhs; unfold fo193_s
    rw [if_neg (by decide), if_pos rfl]
    by_cases e : d = 0
    · rw [if_pos (by omega), ra, jo_bs, jo_bs]
      dsimp only
      by_cases e24 : a = 24
      · rw [if_pos e24, if_pos e24]
      · rw [if_neg e24, if_neg e24, if_pos (show (d : Int) = 0 by omega), if_pos (show (d : Int) = 0 by omega)]
    · have fu := hY.full (hw.2.1 ((d : Int) - 1) (by omega) (by omega)).2
      rw [if_pos (d4 (by omega))] at fu
      rw [if_neg (by omega), if_pos (by omega), fu, jo_bs]
      dsimp only
      rw [if_pos rfl, ra, jo_bs, jo_bs]
      dsimp only
      by_cases e24 : a = 24
      · rw [if_pos e24, if_pos e24]
      · rw [if_neg e24, if_neg e24, if_neg (show ¬ (d : Int) = 0 by omega), if_neg (show ¬ (d : Int) = 0 by omega), if_pos (show 0 ≤ (d : Int) ∧ (d : Int) < 25 by omega)]
  rw [ref0, ra, jo_bs]
  dsimp only
  by_cases e24 : a = 24
  · have e76 : fc76 K d = some (K, 0) := by
      unfold fc76
      rw [ca, if_pos e24, jo_bs]
      dsimp only
      rw [if_pos rfl]
    rw [e76, jo_bs]
    dsimp only
    rw [if_pos rfl, if_pos e24]
    exact ⟨K, -5, by rw [if_pos rfl], jk_g.refl, Or.inl ⟨rfl, rfl⟩⟩
  · rw [if_neg e24] at ca ⊢
    have faa : (jh G N a).1 = 0 := ha.2.1 (by omega)
    by_cases hd0 : d = 0
    · subst hd0
      rw [if_pos (by omega), if_pos (by omega)]
      obtain ⟨b, hb, cb⟩ := jc_fr75 kinds (l := a) (by omega) (by omega)
      obtain ⟨b', hb', rb⟩ := jr_fr176 rows (l := a + 1) (by omega) (by omega)
      rw [hb'.u hb] at rb
      rw [rb, jo_bs]
      dsimp only
      have P0 : G 112 ((0 : Nat) : Int) = 0 := hw.2.2.1
      by_cases b24 : b = 24
      · have e76 : fc76 K ((0 : Nat) : Int) = some (K, 0) := by
          unfold fc76
          rw [ca, jo_bs]
          dsimp only
          rw [if_neg (by omega), if_neg (by decide), cb, if_pos b24, jo_bs]
          dsimp only
          rw [if_pos rfl]
        rw [e76, jo_bs]
        dsimp only
        rw [if_pos rfl, if_pos b24]
        exact ⟨K, -5, by rw [if_pos rfl], jk_g.refl, Or.inl ⟨rfl, rfl⟩⟩
      · have b1 := hb.1
        have e76 : fc76 K ((0 : Nat) : Int) = some (K, 1) := by
          unfold fc76
          rw [ca, jo_bs]
          dsimp only
          rw [if_neg (by omega), if_neg (by decide), cb, if_neg b24, jo_bs]
          dsimp only
          rw [if_neg (by omega)]
        rw [e76, jo_bs]
        dsimp only
        rw [if_neg (by decide), if_neg b24]
        rw [P0] at fulld
        generalize hc : jh G N 0 = c at *
        have wc : jp_w c := by rw [← hc]; exact hT.1.1 0 (by decide) (by decide)
        have cnt := wc.1
        have faa' : a ≠ 0 := by omega
        have fbb : (jh G N b).1 = 0 := hb.2.1 (by omega)
        have rt2 : (jp_rt a b (c.2.2.1 ((c.2.1 + 1) / 2))).2.1 = 2 := rfl
        have allb : ∀ p, 1 ≤ p → p < 24 → (if p = 0 then jp_rt a b (c.2.2.1 ((c.2.1 + 1) / 2)) else if p = a then jp_part c 0 ((c.2.1 + 1) / 2) else if p = b then jp_part c ((c.2.1 + 1) / 2) c.2.1 else jh G N p).1 ≠ 0 → 0 < (if p = 0 then jp_rt a b (c.2.2.1 ((c.2.1 + 1) / 2)) else if p = a then jp_part c 0 ((c.2.1 + 1) / 2) else if p = b then jp_part c ((c.2.1 + 1) / 2) c.2.1 else jh G N p).2.1 := fun p p0 p1 kk => by
          rw [if_neg (by omega)] at kk ⊢
          by_cases e1 : p = a
          · rw [if_pos e1]
            show 0 < (c.2.1 + 1) / 2 - 0
            omega
          · rw [if_neg e1] at kk ⊢
            by_cases e2 : p = b
            · rw [if_pos e2]
              show 0 < c.2.1 - (c.2.1 + 1) / 2
              omega
            · rw [if_neg e2] at kk ⊢
              exact hz.1 p p0 p1 kk
        have zz : jT_z (fun p => if p = 0 then jp_rt a b (c.2.2.1 ((c.2.1 + 1) / 2)) else if p = a then jp_part c 0 ((c.2.1 + 1) / 2) else if p = b then jp_part c ((c.2.1 + 1) / 2) c.2.1 else jh G N p) := ⟨allb, fun _ => by
          show 2 ≤ (if (0 : Int) = 0 then jp_rt a b (c.2.2.1 ((c.2.1 + 1) / 2)) else _).2.1
          rw [if_pos rfl, rt2]
          exact Int.le_refl _⟩
        obtain ⟨K1, q, G1, K2, K', G', b', r1, r2, r3, r4, r5, r6, g, o⟩ := jM_sp0 hY hM hκ hB hW hc fulld ha hb (by omega) zz.q
        have e77 : fc77 K ((0 : Nat) : Int) = some (K', b') := by
          obtain ⟨s1, s2, _⟩ := hY.seen (p := 0) (by decide)
          unfold fc77
          rw [hw.at hL (by decide) (by omega), jo_bs]
          dsimp only
          rw [P0, s1, jo_bs]
          dsimp only
          rw [r1, jo_bs]
          dsimp only
          rw [if_neg (by omega), if_neg r2, if_pos (by decide), r4, jo_bs]
          dsimp only
          rw [r5, jo_bs]
          dsimp only
          rw [if_pos (by rcases o with ⟨e, _⟩ | ⟨e, _⟩ <;> omega)]
        rw [e77, jo_bs, r6, jo_bs]
        dsimp only
        rcases o with ⟨e, s1, s2, s3, s4, s5, s6, s7⟩ | ⟨e, s1, s2⟩
        · rw [if_neg (by omega), if_pos s1.h7, e]
          refine ⟨K', 0, by rw [if_neg (by decide), if_neg (by decide)], g, Or.inr (Or.inr ⟨rfl, G', 0, rfl, ⟨s1, s2, s3, fun j => (s5 j).1, s6, jNo.one s7⟩, ?_, ?_, fun j => (s5 j).2⟩)⟩
          · refine ⟨fun p p0 p1 kk => ?_, fun kk => ?_⟩
            · have e := s4 p (by omega) p1
              rw [← e.2.1]
              exact zz.1 p p0 p1 (by rw [e.1]; exact kk)
            · have e := s4 0 (by decide) (by decide)
              rw [← e.2.1]
              exact zz.2 (by rw [e.1]; exact kk)
          · have n1 := jnf_e (g := fun p => if p = 0 then jp_rt a b (c.2.2.1 ((c.2.1 + 1) / 2)) else if p = a then jp_part c 0 ((c.2.1 + 1) / 2) else if p = b then jp_part c ((c.2.1 + 1) / 2) c.2.1 else jh G N p) (g' := fun z => jh G' (N + 1) z) (fun z z0 z1 => by rw [← (s4 z z0 z1).1])
            have ck : c.1 ≠ 0 := by rw [← hc]; exact c0
            have n2 := jnf_d (g := fun p => if p = a then jp_part c 0 ((c.2.1 + 1) / 2) else jh G N p) (g' := fun p => jh G N p) (p := a) (by omega) (by show (if a = a then jp_part c 0 _ else _).1 ≠ 0; rw [if_pos rfl]; exact ck) faa (fun z _ _ z2 => by
              show (jh G N z).1 = 0 ↔ (if z = a then _ else jh G N z).1 = 0
              rw [if_neg z2])
            have n3 := jnf_d (g := fun p => if p = 0 then jp_rt a b (c.2.2.1 ((c.2.1 + 1) / 2)) else if p = a then jp_part c 0 ((c.2.1 + 1) / 2) else if p = b then jp_part c ((c.2.1 + 1) / 2) c.2.1 else jh G N p) (g' := fun p => if p = a then jp_part c 0 ((c.2.1 + 1) / 2) else jh G N p) (p := b) (by omega) (by
              show (if b = 0 then jp_rt a b (c.2.2.1 ((c.2.1 + 1) / 2)) else if b = a then jp_part c 0 ((c.2.1 + 1) / 2) else if b = b then jp_part c ((c.2.1 + 1) / 2) c.2.1 else jh G N b).1 ≠ 0
              rw [if_neg (by omega), if_neg (by omega), if_pos rfl]; exact ck) (by show (if b = a then _ else jh G N b).1 = 0; rw [if_neg (by omega)]; exact fbb) (fun z _ _ z2 => by
              show (if z = a then jp_part c 0 ((c.2.1 + 1) / 2) else jh G N z).1 = 0 ↔ (if z = 0 then jp_rt a b (c.2.2.1 ((c.2.1 + 1) / 2)) else if z = a then jp_part c 0 ((c.2.1 + 1) / 2) else if z = b then jp_part c ((c.2.1 + 1) / 2) c.2.1 else jh G N z).1 = 0
              by_cases e0 : z = 0
              · rw [if_neg (by omega), if_pos e0, e0, hc]
                exact ⟨fun y => absurd y ck, fun y => absurd y (show ¬ (2 : Int) = 0 by decide)⟩
              · rw [if_neg e0]
                by_cases e1 : z = a
                · rw [if_pos e1, if_pos e1]
                · rw [if_neg e1, if_neg e1, if_neg z2])
            omega
        · rw [if_pos e, if_neg s1.h7]
          exact ⟨K', -4, by rw [if_neg (by decide), if_pos rfl], g, Or.inr (Or.inl ⟨rfl, G', 0, rfl, s1, s2⟩)⟩
    · have e76 : fc76 K (d : Int) = some (K, 1) := by
        unfold fc76
        rw [ca, jo_bs]
        dsimp only
        rw [if_neg (by omega), if_pos (by omega)]
      rw [e76, jo_bs, if_neg (by omega)]
      dsimp only
      rw [if_neg (show ¬ (d : Int) = 0 by omega)]
      obtain ⟨kk, edge, ke⟩ := hw.rk hT ((d : Int) - 1) (by omega) (by omega)
      rw [show (d : Int) - 1 + 1 = d by omega] at ke
      have up4 := d4 (by omega)
      have cb := jT_child hT.1.1 edge
      rw [show jT_c (fun z => jh G N z) (G 112 ((d : Int) - 1)) kk = G 112 d from ke] at cb
      have v1 := (hT.1.2.2.1 _ kk edge).1
      rw [show jT_c (fun z => jh G N z) (G 112 ((d : Int) - 1)) kk = G 112 d from ke] at v1
      have vrk := (hT.1.2.2.1 _ kk edge).2.1
      rw [show jT_c (fun z => jh G N z) (G 112 ((d : Int) - 1)) kk = G 112 d from ke] at vrk
      generalize hup : G 112 ((d : Int) - 1) = up at *
      generalize hp : G 112 (d : Int) = p at *
      have hne : p ≠ up := fun e => by rw [e] at vrk; omega
      obtain ⟨ub, u2, uk⟩ := id edge
      dsimp only at u2 uk
      have apn : a ≠ p := fun e => by rw [e] at faa; exact v1 faa
      have aun : a ≠ up := fun e => by rw [e, u2] at faa; exact absurd faa (by decide)
      have wc : jp_w (jh G N p) := hT.1.1 p (by omega) cb.2
      have cnt := wc.1
      have allb : ∀ z, 1 ≤ z → z < 24 → (if z = up then jp_ins (jh G N up) (kk + 1) ((jh G N p).2.2.1 (((jh G N p).2.1 + 1) / 2)) a else if z = p then jp_part (jh G N p) 0 (((jh G N p).2.1 + 1) / 2) else if z = a then jp_part (jh G N p) (((jh G N p).2.1 + 1) / 2) (jh G N p).2.1 else jh G N z).1 ≠ 0 → 0 < (if z = up then jp_ins (jh G N up) (kk + 1) ((jh G N p).2.2.1 (((jh G N p).2.1 + 1) / 2)) a else if z = p then jp_part (jh G N p) 0 (((jh G N p).2.1 + 1) / 2) else if z = a then jp_part (jh G N p) (((jh G N p).2.1 + 1) / 2) (jh G N p).2.1 else jh G N z).2.1 := fun z z0 z1 h => by
        by_cases e0 : z = up
        · rw [if_pos e0]
          show 0 < (jh G N up).2.1 + 1
          omega
        · rw [if_neg e0] at h ⊢
          by_cases e1 : z = p
          · rw [if_pos e1]
            show 0 < ((jh G N p).2.1 + 1) / 2 - 0
            omega
          · rw [if_neg e1] at h ⊢
            by_cases e2 : z = a
            · rw [if_pos e2]
              show 0 < (jh G N p).2.1 - ((jh G N p).2.1 + 1) / 2
              omega
            · rw [if_neg e2] at h ⊢
              exact hz.1 z z0 z1 h
      have p0 : ¬ (0 : Int) = p := by omega
      have zz : jT_z (fun z => if z = up then jp_ins (jh G N up) (kk + 1) ((jh G N p).2.2.1 (((jh G N p).2.1 + 1) / 2)) a else if z = p then jp_part (jh G N p) 0 (((jh G N p).2.1 + 1) / 2) else if z = a then jp_part (jh G N p) (((jh G N p).2.1 + 1) / 2) (jh G N p).2.1 else jh G N z) := ⟨allb, fun h => by
        have h' : (if (0 : Int) = up then jp_ins (jh G N up) (kk + 1) ((jh G N p).2.2.1 (((jh G N p).2.1 + 1) / 2)) a else if (0 : Int) = p then jp_part (jh G N p) 0 (((jh G N p).2.1 + 1) / 2) else if (0 : Int) = a then jp_part (jh G N p) (((jh G N p).2.1 + 1) / 2) (jh G N p).2.1 else jh G N 0).1 = 2 := h
        show 2 ≤ (if (0 : Int) = up then jp_ins (jh G N up) (kk + 1) ((jh G N p).2.2.1 (((jh G N p).2.1 + 1) / 2)) a else if (0 : Int) = p then jp_part (jh G N p) 0 (((jh G N p).2.1 + 1) / 2) else if (0 : Int) = a then jp_part (jh G N p) (((jh G N p).2.1 + 1) / 2) (jh G N p).2.1 else jh G N 0).2.1
        by_cases e0 : (0 : Int) = up
        · rw [if_pos e0]
          show 2 ≤ (jh G N up).2.1 + 1
          omega
        · rw [if_neg e0, if_neg p0, if_neg (by omega)] at h' ⊢
          exact hz.2 h'⟩
      obtain ⟨K1, q, K2, K', G', b', r1, r2, r4, r5, r6, g, o⟩ := jM_sp hY hM hκ hB hW edge ke rfl rfl fulld up4 ha (by omega) zz.q
      have e77 : fc77 K (d : Int) = some (K', b') := by
        obtain ⟨s1, s2, _⟩ := hY.seen (p := p) (by omega)
        have w1 := hw.at hL (j := (d : Int)) (by omega) (by omega)
        have w2 := hw.at hL (j := (d : Int) - 1) (by omega) (by omega)
        rw [hp] at w1
        rw [hup] at w2
        have gq : jk_g (jA_S q) K K1 := by
          obtain ⟨K1', q', t1, t2, t3, _⟩ := jB.start (w := 5) (t := -1) hY (by have := hM.len hκ hB; omega) (by decide)
          rw [r1] at t1
          obtain ⟨t4, t5⟩ := Prod.mk.inj (Option.some.inj t1)
          rw [t4, t5]
          exact t3
        have q120 : 98 ≤ q ∧ 98 ≤ K1.1.1 := by
          obtain ⟨K1', q', t1, t2, t3, _⟩ := jB.start (w := 5) (t := -1) hY (by have := hM.len hκ hB; omega) (by decide)
          rw [r1] at t1
          obtain ⟨t4, t5⟩ := Prod.mk.inj (Option.some.inj t1)
          rw [t4, t5]
          exact ⟨t2.2.2.2.2.1.2.1.1, t2.2.2.2.1.1.1⟩
        have at1 : ∀ j : Int, 0 ≤ j → j ≤ L → fc69 K1 j = some (K1, G 112 j) := fun j j0 j1 => by
          unfold fc69
          rw [if_neg (by omega), if_neg (by omega), if_pos ⟨j0, by omega⟩, gq.2.2.2 80 j (by have := hY.2.2.2.1.1; omega) (by unfold jA_S; omega), (hw.2.1 j j0 j1).1]
        unfold fc77
        rw [w1, jo_bs]
        dsimp only
        rw [s1, jo_bs]
        dsimp only
        rw [r1, jo_bs]
        dsimp only
        rw [if_neg (by omega), if_neg r2, if_neg (by omega), at1 d (by omega) (by omega), jo_bs]
        dsimp only
        rw [if_pos (by omega), at1 ((d : Int) - 1) (by omega) (by omega), jo_bs]
        dsimp only
        rw [hp, hup, r4, jo_bs]
        dsimp only
        rw [r5, jo_bs]
        dsimp only
        rw [if_pos (by rcases o with ⟨e, _⟩ | ⟨e, _⟩ <;> omega)]
      rw [e77, jo_bs, r6, jo_bs]
      dsimp only
      rcases o with ⟨e, s1, s2, s3, s4, s5, s6, s7⟩ | ⟨e, s1, s2⟩
      · rw [if_neg (by omega), if_pos s1.h7, e]
        refine ⟨K', 0, by rw [if_neg (by decide), if_neg (by decide)], g, Or.inr (Or.inr ⟨rfl, G', d, rfl, ⟨s1, s2, s3, fun j => (s5 j).1, s6, jNo.one s7⟩, ?_, ?_, fun j => (s5 j).2⟩)⟩
        · refine ⟨fun z z0 z1 h => ?_, fun h => ?_⟩
          · have e := s4 z (by omega) z1
            rw [← e.2.1]
            exact zz.1 z z0 z1 (by rw [e.1]; exact h)
          · have e := s4 0 (by decide) (by decide)
            rw [← e.2.1]
            exact zz.2 (by rw [e.1]; exact h)
        · have n1 := jnf_e (g := fun z => if z = up then jp_ins (jh G N up) (kk + 1) ((jh G N p).2.2.1 (((jh G N p).2.1 + 1) / 2)) a else if z = p then jp_part (jh G N p) 0 (((jh G N p).2.1 + 1) / 2) else if z = a then jp_part (jh G N p) (((jh G N p).2.1 + 1) / 2) (jh G N p).2.1 else jh G N z) (g' := fun z => jh G' (N + 1) z) (fun z z0 z1 => by rw [← (s4 z z0 z1).1])
          have n2 := jnf_d (g := fun z => if z = up then jp_ins (jh G N up) (kk + 1) ((jh G N p).2.2.1 (((jh G N p).2.1 + 1) / 2)) a else if z = p then jp_part (jh G N p) 0 (((jh G N p).2.1 + 1) / 2) else if z = a then jp_part (jh G N p) (((jh G N p).2.1 + 1) / 2) (jh G N p).2.1 else jh G N z) (g' := fun z => jh G N z) (p := a) (by omega) (by
            show (if a = up then _ else if a = p then _ else if a = a then jp_part (jh G N p) _ (jh G N p).2.1 else _).1 ≠ 0
            rw [if_neg aun, if_neg apn, if_pos rfl]; exact v1) faa (fun z _ _ z2 => by
            show (jh G N z).1 = 0 ↔ (if z = up then jp_ins (jh G N up) (kk + 1) ((jh G N p).2.2.1 (((jh G N p).2.1 + 1) / 2)) a else if z = p then jp_part (jh G N p) 0 (((jh G N p).2.1 + 1) / 2) else if z = a then jp_part (jh G N p) (((jh G N p).2.1 + 1) / 2) (jh G N p).2.1 else jh G N z).1 = 0
            by_cases e0 : z = up
            · rw [if_pos e0, e0]
              exact Iff.rfl
            · rw [if_neg e0]
              by_cases e1 : z = p
              · rw [if_pos e1, e1]
                exact Iff.rfl
              · rw [if_neg e1, if_neg z2])
          omega
      · rw [if_pos e, if_neg s1.h7]
        exact ⟨K', -4, by rw [if_neg (by decide), if_pos rfl], g, Or.inr (Or.inl ⟨rfl, G', d, rfl, s1, s2⟩)⟩
end Sp
