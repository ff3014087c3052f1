/-! A KEY LOCKED: lock() and locks() -/
/-- alive, between calls -/
def jLv (K : jc_K) (G : jg_G) (N x κ : Nat) (W : jZW) (B : Nat) : Prop := jY K G N x ∧ jM G N κ W B ∧ jT_z (fun z => jh G N z) ∧ jTr K G ∧ jWt G ∧ ∀ s, 0 ≤ s → s < 4 → G 107 s = 0 → jt G s N = 0
/-- what stays when only waits, holders and what no action touches change -/
theorem jY.g {K : jc_K} {G G' : jg_G} {N x : Nat} (h : jY K G N x) (hg : ∀ n j, ¬ (n = 110 ∨ n = 111 ∨ (n = 92 ∧ j = 0) ∨ 112 ≤ n) → G' n j = G n j) : jY K G' N x := by
  have hl : jl_a G G' N := fun m j e => hg m j (by omega)
  have ev : (fun p => jv G' p N) = fun p => jv G p N := funext fun p => hl.v p N (Int.le_refl _)
  refine ⟨?_, ⟨h.2.1.1, h.2.1.2.s (jk_s.refl (S := fun _ => False)) (fun _ _ z => z) hl⟩, fun t t0 t1 => ?_, h.2.2.2⟩
  · rw [ev]
    exact h.1.ref (Nat.le_refl _) h.1.2.1.2.2.2.1 ((hg 92 12 (by omega)).trans h.h12) (fun i _ => hg 92 i (by omega)) (fun n hn j => hg n j (by omega)) (fun j _ => hg 93 j (by omega)) hl
  · rw [hg 107 t (by omega), hg 108 t (by omega), hg 109 t (by omega)]
    exact h.2.2.1 t t0 t1
theorem jM.g {G G' : jg_G} {N κ κ' B : Nat} {W W' : jZW} (h : jM G N κ W B) (hg : ∀ n j, ¬ (n = 110 ∨ n = 111 ∨ (n = 92 ∧ j = 0) ∨ 112 ≤ n) → G' n j = G n j) (h1 : ∀ k, 0 ≤ k → k < 32 → -1 ≤ G' 111 k ∧ G' 111 k < 4) (h2 : jph G' N ≤ κ') (h3 : jgz W' G') (h4 : W.1 ≤ W'.1) (h5 : ∀ x, 0 ≤ x → x < 32 → G' 113 (-1 - x) = G 113 (-1 - x)) (h6 : ∀ k s, 0 ≤ k → k < 32 → 0 ≤ s → s < 4 → G 107 s = 1 → jpp G k s N ≠ -2 → G 111 k = s → G' 111 k = s) : jM G' N κ' W' B := by
  obtain ⟨⟨m1, m2⟩, m3, m4, m5, m6, m7, m8, m9, m10⟩ := h
  have hl : jl_a G G' N := fun m j e => hg m j (by omega)
  have hd : jd_m G G' := jd_m.same (fun j _ _ => hg 93 j (by omega))
  refine ⟨⟨m1.a hl (Nat.le_refl _), m2.a hl hd (Nat.le_refl _)⟩, fun t t0 t1 => ?_, h1, h2, ?_, ?_, h3, fun m q1 q2 y y0 y1 => ?_, fun y s y0 y1 s0 s1 h7 hq => ?_, fun s s0 s1 h7 => ?_⟩
  · rw [hg 108 t (by omega), hl.t t N (Int.le_refl _)]; exact m3 t t0 t1
  · rw [hl.cw 0 N (Int.le_refl _), hl.cw 5 N (Int.le_refl _), hl.cw 4 N (Int.le_refl _)]; exact m6
  · have : jP G' = jP G := jP_same (fun i => hg 97 i (by omega)) (hg 92 3 (by omega))
    omega
  · rw [hg 92 13 (by omega)] at q2
    rw [hl.pv y m (by omega), h5 y y0 y1]
    exact m9 m q1 q2 y y0 y1
  · rw [hg 107 s (by omega)] at h7
    rw [hl.pp y s N (Int.le_refl _)] at hq
    exact h6 y s y0 y1 s0 s1 h7 hq (m10.1 y s y0 y1 s0 s1 h7 hq)
  · rw [hg 107 s (by omega)] at h7
    rw [hg 109 s (by omega), hl.zn s N (Int.le_refl _)]
    exact m10.2 s s0 s1 h7
theorem jph_110 {G : jg_G} {N : Nat} {t w : Int} (ht : 0 ≤ t ∧ t < 4) : jph (jg_u G 110 t w) N + jtm G N t = jph G N + jtm (jg_u G 110 t w) N t := by
  have hl : jl_a G (jg_u G 110 t w) N := fun m j e => jg_uN (by omega)
  have a := jtm_sum (G := G) (N := N) ht
  have b := jtm_sum (G := jg_u G 110 t w) (N := N) ht
  have e : jsum (fun s => if s = t then 0 else jtm (jg_u G 110 t w) N s) 4 = jsum (fun s => if s = t then 0 else jtm G N s) 4 := jsum_e 4 (fun i hi => by
    show (if (i : Int) = t then 0 else jtm (jg_u G 110 t w) N i) = (if (i : Int) = t then 0 else jtm G N i)
    by_cases z : (i : Int) = t
    · rw [if_pos z, if_pos z]
    · rw [if_neg z, if_neg z]
      unfold jtm
      rw [hl.t _ N (Int.le_refl _), jg_uN (by decide), jg_uI z])
  rw [jph_tm, jph_tm, hl.cw 2 N (Int.le_refl _), hl.cw 3 N (Int.le_refl _)]
  omega
def jopn (G : jg_G) (t : Int) : Nat := jsum (fun s => if s = t then 0 else if G 107 s = 1 then 1 else 0) 4
theorem jopn_3 (G : jg_G) {t : Int} (ht : 0 ≤ t ∧ t < 4) : jopn G t ≤ 3 := by
  have e : ((t.toNat : Nat) : Int) = t := by omega
  have a := jsum_u (f := fun s => if s = t then 0 else if G 107 s = 1 then 1 else 0) (g := fun s => if s = t then 1 else if G 107 s = 1 then 1 else 0) (j := t.toNat) (d := 1) (by
    rw [e]
    show (if t = t then 0 else _) + 1 = (if t = t then 1 else _)
    rw [if_pos rfl, if_pos rfl]) 4 (by omega) (fun i h1 h2 => by
    show (if (i : Int) = t then 0 else _) = (if (i : Int) = t then 1 else _)
    rw [if_neg (show ¬ (i : Int) = t by omega), if_neg (show ¬ (i : Int) = t by omega)])
  have b := jsum_le (f := fun s => if s = t then 1 else if G 107 s = 1 then 1 else 0) (g := fun _ => 1) 4 (fun i hi => by
    show (if (i : Int) = t then 1 else if G 107 i = 1 then 1 else 0) ≤ 1
    split
    · decide
    · split <;> decide)
  have c : jsum (fun _ => 1) 4 = 4 := rfl
  unfold jopn
  omega
theorem jopn_d {G G' : jg_G} {t v : Int} (hv : 0 ≤ v ∧ v < 4) (hne : v ≠ t) (ho : G 107 v = 1) (hc : ∀ s, 0 ≤ s → s < 4 → G' 107 s = if s = v then 0 else G 107 s) : jopn G' t + 1 = jopn G t := by
  have e : ((v.toNat : Nat) : Int) = v := by omega
  refine jsum_u (j := v.toNat) (d := 1) ?_ 4 (by omega) (fun i h1 h2 => ?_)
  · rw [e]
    show (if v = t then 0 else if G' 107 v = 1 then 1 else 0) + 1 = (if v = t then 0 else if G 107 v = 1 then 1 else 0)
    rw [if_neg hne, if_neg hne, hc v hv.1 hv.2, if_pos rfl, ho, if_neg (by decide), if_pos rfl]
  · show (if (i : Int) = t then 0 else if G' 107 i = 1 then 1 else 0) = (if (i : Int) = t then 0 else if G 107 i = 1 then 1 else 0)
    rw [hc i (by omega) (by omega), if_neg (show ¬ (i : Int) = v by omega)]
/-- v has been undone, and has ended -/
def jzV (G : jg_G) (N : Nat) (G' : jg_G) (N' : Nat) (v : Int) : Prop := jcl G G' v ∧ jt G' v N' = 0 ∧ (∀ s, 0 ≤ s → s < 4 → s ≠ v → jt G' s N' = jt G s N) ∧ jl_a G G' N ∧ N ≤ N' ∧ (∀ y, jzA G' y N' = (jzP G 0 (jzL G v N) (fun y => jzA G y N)).2.1 y) ∧ jzL G' v N' = [] ∧ (∀ s, 0 ≤ s → s < 4 → s ≠ v → G 107 s = 1 → G' 109 s = G 109 s) ∧ ∀ j, G' 113 j = G 113 j
theorem jzV.of {G G' : jg_G} {N N' κ κ' B B' : Nat} {W : jZW} {v : Int} (hM : jM G N κ W B) (hM' : jM G' N' κ' W B') (c : jcl G G' v) (h0 : jt G' v N' = 0) (h1 : ∀ s, 0 ≤ s → s < 4 → s ≠ v → jt G' s N' = jt G s N) (h2 : jl_a G G' N) (h3 : N ≤ N') (h4 : ∀ y, jzA G' y N' = (jzP G 0 (jzL G v N) (fun y => jzA G y N)).2.1 y) (h5 : jzL G' v N' = []) : jzV G N G' N' v :=
  ⟨c, h0, h1, h2, h3, h4, h5, fun s s0 s1 hs h7 => by
    rw [hM'.2.2.2.2.2.2.2.2.2 s s0 s1 (by rw [c.1 s s0 s1, if_neg hs]; exact h7), hM.2.2.2.2.2.2.2.2.2 s s0 s1 h7]
    exact jzn_ot h2 (h1 s s0 s1 hs), fun j => (hM'.2.2.2.2.2.2.1.2 j).trans (hM.2.2.2.2.2.2.1.2 j).symm⟩
/-- what the locking of a key does, ring by ring; the last: what is told -/
def jLk (t key : Int) : Nat → jg_G → Nat → jg_G → Nat → Int → Prop
  | 0, _, _, _, _, _ => False
  | m + 1, G, N, G', N', a => ((G 111 key = -1 ∨ G 111 key = t) ∧ G' = jg_u G 111 key t ∧ N' = N ∧ a = 0) ∨ ((G 111 key ≠ -1 ∧ G 111 key ≠ t) ∧ ∃ v, fo189_9 5 (jg_u G 110 t (G 111 key)) t t (G 111 key) = some (jg_u G 110 t (G 111 key), v) ∧ ((v = -1 ∧ G' = jg_u G 110 t (G 111 key) ∧ N' = N ∧ a = -2) ∨ (v ≠ -1 ∧ (0 ≤ v ∧ v < 4) ∧ ∃ G1 N1, jzV (jg_u G 110 t (G 111 key)) N G1 N1 v ∧ ((v = t ∧ G' = G1 ∧ N' = N1 ∧ a = -3) ∨ (v ≠ t ∧ jLk t key m (jg_u G1 110 t (-1)) N1 G' N' a)))))
theorem jlock_l {x κ B : Nat} {W : jZW} {t key : Int} (hκ : κ + 1 ≤ 513) (hB : B ≤ 223) (hW : W.1 ≤ 2000000000) (ht : 0 ≤ t ∧ t < 4) (hk : 0 ≤ key ∧ key < 32) : ∀ (m m' i : Nat) (K : jc_K) (G : jg_G) (N : Nat), jY K G N x → jM G N κ W B → jT_z (fun z => jh G N z) → jTr (jc_ui K 61 t (-1)) G → jWo G → (∃ ρ : Int → Int, ∀ s, 0 ≤ s → s < 4 → s ≠ t → 0 ≤ G 110 s → ρ (G 110 s) < ρ s) → G 107 t = 1 → G 110 t = -1 → (jc_i K 61 t = -1 ∨ (G 111 key ≠ -1 ∧ G 111 key ≠ t)) → (∀ s, 0 ≤ s → s < 4 → G 107 s = 0 → jt G s N = 0) → i + jopn G t ≤ 3 → 4 < i + m → 4 < i + m' → ∃ K' a G', fc142_12 m K t key i = some (K', a) ∧ fo190_7 m' G t key = some (G', a) ∧ jk_g jQA K K' ∧ ((a = 0 ∧ (∃ N', jLv K' G' N' x κ W B ∧ jLk t key (4 - i) G N G' N' 0) ∧ G' 107 t = 1 ∧ G' 111 key = t) ∨ ((a = -2 ∨ a = -3) ∧ ∃ N', jLv K' G' N' x (κ + 1) W B ∧ jLk t key (4 - i) G N G' N' a) ∨ (a = -4 ∧ jE K' G' x ∧ jMf G' (κ + 1) W B ∧ ∀ k, 0 ≤ k → k < 32 → -1 ≤ jc_i K' 62 k ∧ jc_i K' 62 k < 4)) := by
  intro m
  induction m with
  | zero => intro m' i K G N _ _ _ _ _ _ _ _ _ _ h1 h2; omega
  | succ m ih =>
    intro m' i K G N hY hM hz hT hWo hρ o1 w1 hw hcl hi h2 h3
    cases m' with
    | zero => omega
    | succ m' =>
      have n120 : 98 ≤ K.1.1 := hY.2.2.2.1.1
      obtain ⟨ρ, hρ⟩ := hρ
      have k62 : ∀ k, 0 ≤ k → k < 32 → jc_i K 62 k = G 111 k ∧ -1 ≤ G 111 k ∧ G 111 k < 4 := fun k k0 k1 => by
        have := hT.2 k k0 k1
        rw [jc_uN (by decide)] at this
        exact this
      have k58 : ∀ s, 0 ≤ s → s < 4 → jc_i K 58 s = G 107 s ∧ (G 107 s = 0 ∨ G 107 s = 1) := fun s s0 s1 => by
        have := hT.1 s s0 s1
        rw [jc_uN (by decide)] at this
        exact ⟨this.1, this.2.1⟩
      have k61 : ∀ s, 0 ≤ s → s < 4 → s ≠ t → jc_i K 61 s = G 110 s := fun s s0 s1 hs => by
        have := (hT.1 s s0 s1).2.2.1
        rw [jc_uI hs] at this
        exact this
      have b110 : ∀ s, 0 ≤ s → s < 4 → -1 ≤ G 110 s ∧ G 110 s < 4 := fun s s0 s1 => (hT.1 s s0 s1).2.2.2
      have kb := k62 key hk.1 hk.2
      unfold fc142_12 fo190_7
      rw [if_neg (by omega), if_pos hk, if_pos hk, kb.1]
      by_cases free : G 111 key = -1 ∨ G 111 key = t
      · have K61 : jc_i K 61 t = -1 := by
          rcases hw with h | ⟨h, h'⟩
          · exact h
          · exact absurd free (fun z => z.elim h h')
        have e1 : (if G 111 key = (-1) then (some (jc_ui K 62 key t, (0 : Int))) else (if G 111 key = t then (some (jc_ui K 62 key t, 0)) else (if 0 ≤ t ∧ t < 4 then (fc66 (jc_ui K 61 t (G 111 key)) t).bind fun x8 => if x8.2 = (-1) then (some (x8.1, (-2))) else ((fc90 (x8.1) (x8.2)).bind fun x11 => (fc92 (x11.1) 0 1).bind fun x13 => if x13.2 = 0 then (some (x13.1, (-4))) else (if x8.2 = t then (some (x13.1, (-3))) else (if -2147483648 ≤ ((i : Int) + 1) ∧ ((i : Int) + 1) < 2147483648 then fc142_12 m (x13.1) t key ((i : Int) + 1) else none))) else none))) = some (jc_ui K 62 key t, 0) := by
          by_cases e : G 111 key = -1
          · rw [if_pos e]
          · rw [if_neg e, if_pos (free.resolve_left e)]
        have e2 : (if G 111 key = (-1) then (some (jg_u G 111 key t, (0 : Int))) else (if G 111 key = t then (some (jg_u G 111 key t, 0)) else (if 0 ≤ t ∧ t < 4 then (fo189 (jg_u G 110 t (G 111 key)) t).bind fun x8 => if x8.2 = (-1) then (some (x8.1, (-2))) else ((fo188 (x8.1) (x8.2)).bind fun x11 => if (x11.1) 92 7 = 0 then (if x8.2 = t then (some (x11.1, (-3))) else (fo190_7 m' (jg_u (x11.1) 110 t (-1)) t key)) else (some (x11.1, (-4)))) else none))) = some (jg_u G 111 key t, 0) := by
          by_cases e : G 111 key = -1
          · rw [if_pos e]
          · rw [if_neg e, if_pos (free.resolve_left e)]
        rw [e1, e2]
        have hg : ∀ n j, ¬ (n = 110 ∨ n = 111 ∨ (n = 92 ∧ j = 0) ∨ 112 ≤ n) → jg_u G 111 key t n j = G n j := fun n j h => jg_uN (by omega)
        have s62 : jk_s (fun n => n = 62) K (jc_ui K 62 key t) := jk_s.u rfl
        have hl : jl_a G (jg_u G 111 key t) N := fun m j e => jg_uN (by omega)
        have hY1 : jY (jc_ui K 62 key t) G N x := hY.f (hY.1.grow (jk_g.s s62) (fun n e z => by unfold jN_k at e; omega) n120) s62 (fun n e => by omega) (jw_f.refl G)
        refine ⟨_, 0, _, rfl, rfl, (jk_g.s s62).mono (fun n e => Or.inr (Or.inr (Or.inr (Or.inr e)))), Or.inl ⟨rfl, ⟨N, ⟨hY1.g hg, hM.g hg (fun k k0 k1 => ?_) ?_ ⟨(jg_uN (by decide)).trans hM.2.2.2.2.2.2.1.1, fun j => (jg_uN (by decide)).trans (hM.2.2.2.2.2.2.1.2 j)⟩ (Nat.le_refl _) (fun _ _ _ => jg_uN (by decide)) (fun y s y0 y1 s0 s1 h7 hq hs => ?_), hz.same (fun z => hl.h z N (Int.le_refl _)), ⟨fun s s0 s1 => ?_, fun k k0 k1 => ?_⟩, ⟨⟨fun k k0 k1 h0 => ?_, fun s s0 s1 h0 => ?_⟩, ρ, fun s s0 s1 h0 => ?_⟩, fun s s0 s1 h0 => ?_⟩, by rw [show 4 - i = (4 - (i + 1)) + 1 by omega]; exact Or.inl ⟨free, rfl, rfl, rfl⟩⟩, by rw [jg_uN (by decide)]; exact o1, jg_uH⟩⟩
        · by_cases e : k = key
          · rw [e, jg_uH]; omega
          · rw [jg_uI e]; exact (k62 k k0 k1).2
        · have : jph (jg_u G 111 key t) N = jph G N := by
            rw [jph_tm, jph_tm, hl.cw 2 N (Int.le_refl _), hl.cw 3 N (Int.le_refl _)]
            congr 1
            refine jsum_e 4 (fun i hi => ?_)
            unfold jtm
            rw [hl.t _ N (Int.le_refl _), jg_uN (by decide), jg_uN (by decide)]
          rw [this]
          exact hM.2.2.2.1
        · by_cases e : y = key
          · rw [e, jg_uH]
            rw [e] at hs
            omega
          · rw [jg_uI e]; exact hs
        · rw [jc_uN (by decide), jc_uN (by decide), jg_uN (by decide), jg_uN (by decide)]
          refine ⟨(k58 s s0 s1).1, (k58 s s0 s1).2, ?_, b110 s s0 s1⟩
          by_cases e : s = t
          · rw [e, K61, w1]
          · exact k61 s s0 s1 e
        · by_cases e : k = key
          · rw [e, jc_uH, jg_uH]; exact ⟨rfl, by omega, by omega⟩
          · rw [jc_uI e, jg_uI e]; exact k62 k k0 k1
        · by_cases e : k = key
          · rw [e, jg_uH, jg_uN (by decide)]; exact o1
          · rw [jg_uI e] at h0 ⊢
            rw [jg_uN (by decide)]
            exact hWo.1 k k0 k1 h0
        · rw [jg_uN (by decide)] at h0 ⊢
          rw [jg_uN (by decide), jg_uN (by decide)]
          exact hWo.2 s s0 s1 h0
        · rw [jg_uN (by decide)] at h0 ⊢
          by_cases e : s = t
          · rw [e, w1] at h0; omega
          · exact hρ s s0 s1 e h0
        · rw [jg_uN (by decide)] at h0
          rw [hl.t s N (Int.le_refl _)]
          exact hcl s s0 s1 h0
      · have f1 : G 111 key ≠ -1 := fun z => free (Or.inl z)
        have f2 : G 111 key ≠ t := fun z => free (Or.inr z)
        generalize ho : G 111 key = o at *
        have ob : 0 ≤ o ∧ o < 4 := by omega
        have oo : G 107 o = 1 := by rw [← ho]; exact hWo.1 key hk.1 hk.2 (by omega)
        rw [if_neg f1, if_neg f2, if_pos ht, if_neg f1, if_neg f2, if_pos ht]
        have s61 : jk_s (fun n => n = 61) K (jc_ui K 61 t o) := jk_s.u rfl
        have hY1 : jY (jc_ui K 61 t o) G N x := hY.f (hY.1.grow (jk_g.s s61) (fun n e z => by unfold jN_k at e; omega) n120) s61 (fun n e => by omega) (jw_f.refl G)
        have hg : ∀ n j, ¬ (n = 110 ∨ n = 111 ∨ (n = 92 ∧ j = 0) ∨ 112 ≤ n) → jg_u G 110 t o n j = G n j := fun n j h => jg_uN (by omega)
        have hl : jl_a G (jg_u G 110 t o) N := fun m j e => jg_uN (by omega)
        have hh : ∀ z, jh (jg_u G 110 t o) N z = jh G N z := fun z => hl.h z N (Int.le_refl _)
        have ejt : ∀ s, jt (jg_u G 110 t o) s N = jt G s N := fun s => hl.t s N (Int.le_refl _)
        have g107 : ∀ s, jg_u G 110 t o 107 s = G 107 s := fun s => jg_uN (by decide)
        have g111 : ∀ s, jg_u G 110 t o 111 s = G 111 s := fun s => jg_uN (by decide)
        have g110t : jg_u G 110 t o 110 t = o := jg_uH
        have g110 : ∀ s, s ≠ t → jg_u G 110 t o 110 s = G 110 s := fun s hs => jg_uI hs
        have tmt : jtm (jg_u G 110 t o) N t = 2 := by
          unfold jtm
          rw [ejt, g107, o1, g110t, if_pos rfl, if_neg f1]
          split <;> rfl
        have tm0 : jtm G N t = jbs G N t := by
          unfold jtm jbs
          rw [w1, if_pos rfl]
        have tmb : 1 ≤ jtm G N t ∧ jtm G N t ≤ 2 := by
          rw [tm0]
          unfold jbs
          rw [o1, if_pos rfl]
          split <;> omega
        have p110 := jph_110 (G := G) (N := N) (w := o) ht
        rw [tmt] at p110
        have hM1 : jM (jg_u G 110 t o) N (κ + 2 - jtm G N t) W B := hM.g hg (fun k k0 k1 => by rw [g111]; exact (k62 k k0 k1).2) (by have := hM.2.2.2.1; omega) ⟨(jg_uN (by decide)).trans hM.2.2.2.2.2.2.1.1, fun j => (jg_uN (by decide)).trans (hM.2.2.2.2.2.2.1.2 j)⟩ (Nat.le_refl _) (fun _ _ _ => jg_uN (by decide)) (fun _ _ _ _ _ _ _ _ h => by rw [g111]; exact h)
        have hT1 : jTr (jc_ui K 61 t o) (jg_u G 110 t o) := ⟨fun s s0 s1 => by
          rw [jc_uN (by decide), g107]
          refine ⟨(k58 s s0 s1).1, (k58 s s0 s1).2, ?_⟩
          by_cases e : s = t
          · rw [e, jc_uH, g110t]; exact ⟨rfl, by omega, by omega⟩
          · rw [jc_uI e, g110 s e]; exact ⟨k61 s s0 s1 e, b110 s s0 s1⟩, fun k k0 k1 => by
          rw [jc_uN (by decide), g111]; exact k62 k k0 k1⟩
        have hWo1 : jWo (jg_u G 110 t o) := ⟨fun k k0 k1 h0 => by
          rw [g111] at h0 ⊢
          rw [g107]; exact hWo.1 k k0 k1 h0, fun s s0 s1 h0 => by
          by_cases e : s = t
          · rw [e, g110t, g107, g107]; exact ⟨o1, oo⟩
          · rw [g110 s e] at h0 ⊢
            rw [g107, g107]; exact hWo.2 s s0 s1 h0⟩
        have hρ1 : ∀ s, 0 ≤ s → s < 4 → s ≠ t → 0 ≤ jg_u G 110 t o 110 s → ρ (jg_u G 110 t o 110 s) < ρ s := fun s s0 s1 hs h0 => by
          rw [g110 s hs] at h0 ⊢
          exact hρ s s0 s1 hs h0
        have bb : ∀ s, 0 ≤ s → s < 4 → -1 ≤ jg_u G 110 t o 110 s ∧ jg_u G 110 t o 110 s < 4 := fun s s0 s1 => (hT1.1 s s0 s1).2.2.2
        obtain ⟨v, v1, v2, v3, v4, v5⟩ := jvict (K := jc_ui K 61 t o) (G := jg_u G 110 t o) ht (fun s s0 s1 h => by
          rw [g107] at h
          rw [jc_uN (by decide), jg_uN (by decide)]
          exact (hY.2.2.1 s s0 s1).2 h) (fun s s0 s1 => ⟨(hT1.1 s s0 s1).2.2.1, bb s s0 s1⟩) hWo1.2 hρ1 (by rw [g110t]; exact ob.1)
        rw [g110t] at v5
        have gA : jk_g jQA K (jc_ui K 61 t o) := (jk_g.s s61).mono (fun n e => Or.inr (Or.inr (Or.inr (Or.inl e))))
        rw [v1, jo_bs, v2, jo_bs]
        dsimp only
        by_cases vn : v = -1
        · rw [if_pos vn, if_pos vn]
          refine ⟨_, -2, _, rfl, rfl, gA, Or.inr (Or.inl ⟨Or.inl rfl, N, ⟨hY1.g hg, hM1.le (by omega) (Nat.le_refl _), hz.same hh, hT1, ⟨hWo1, ?_⟩, fun s s0 s1 h0 => by rw [g107] at h0; rw [ejt]; exact hcl s s0 s1 h0⟩, by rw [show 4 - i = (4 - (i + 1)) + 1 by omega]; exact Or.inr ⟨⟨by rw [ho]; exact f1, by rw [ho]; exact f2⟩, v, by rw [ho]; exact v5, Or.inl ⟨vn, by rw [ho], rfl, rfl⟩⟩⟩)⟩
          exact jwait ht bb hρ1 (v3 vn)
        · obtain ⟨vb, vw⟩ := v4 vn
          rw [if_neg vn, if_neg vn]
          have ov := (hWo1.2 v vb.1 vb.2 vw).1
          have tmv : jtm (jg_u G 110 t o) N v = 2 := by
            unfold jtm
            rw [ov, if_pos rfl, if_neg (show ¬ jg_u G 110 t o 110 v = -1 by omega)]
            split <;> rfl
          obtain ⟨K0, K', G', st, n, c1, c2, c3, c4, c5⟩ := jua (hY1.g hg) hM1 (by omega) hB hW (hz.same hh) hT1 vb
          rw [c1, jo_bs]
          dsimp only
          rw [c2, jo_bs, c3, jo_bs]
          dsimp only
          rcases c5 with ⟨es, x1, N', x2, x3, x4, x5, x6, x7, x8, x9, x10, x11, x12, x13, x14⟩ | ⟨es, x1, x2, x3⟩
          · rw [if_neg (show ¬ st = 0 by omega), if_pos x2.h7]
            rw [tmv] at x3
            have b111 : ∀ k, 0 ≤ k → k < 32 → jg_u G 110 t o 111 k < 4 := fun k k0 k1 => by rw [g111]; exact (k62 k k0 k1).2.2
            have Wo2 := hWo1.cl x6 b111 (fun s s0 s1 => (bb s s0 s1).2)
            have ρ2 := jrho.cl x6 hρ1
            have cl2 : ∀ s, 0 ≤ s → s < 4 → G' 107 s = 0 → jt G' s N' = 0 := fun s s0 s1 h0 => by
              by_cases e : s = v
              · rw [e]; exact x7
              · rw [x6.1 s s0 s1, if_neg e, g107] at h0
                rw [x8 s s0 s1 e, ejt]
                exact hcl s s0 s1 h0
            have zV := jzV.of hM1 x3 x6 x7 x8 x10 x11 x13 x14
            by_cases vt : v = t
            · rw [if_pos vt, if_pos vt]
              refine ⟨K', -3, G', rfl, rfl, gA.trans c4, Or.inr (Or.inl ⟨Or.inr rfl, N', ⟨x2, x3.le (by omega) (Nat.le_refl _), x4, x5, ⟨Wo2, ρ, fun s s0 s1 h0 => ?_⟩, cl2⟩, by rw [show 4 - i = (4 - (i + 1)) + 1 by omega]; exact Or.inr ⟨⟨by rw [ho]; exact f1, by rw [ho]; exact f2⟩, v, by rw [ho]; exact v5, Or.inr ⟨vn, vb, G', N', by rw [ho]; exact zV, Or.inl ⟨vt, rfl, rfl, rfl⟩⟩⟩⟩)⟩
              by_cases e : s = t
              · rw [x6.2.1 s s0 s1, if_pos (Or.inl (by rw [e, vt]))] at h0
                omega
              · exact ρ2 s s0 s1 e h0
            · rw [if_neg vt, if_neg vt, if_pos (by omega)]
              have g2 : ∀ n j, ¬ (n = 110 ∨ n = 111 ∨ (n = 92 ∧ j = 0) ∨ 112 ≤ n) → jg_u G' 110 t (-1) n j = G' n j := fun n j h => jg_uN (by omega)
              have hl2 : jl_a G' (jg_u G' 110 t (-1)) N' := fun m j e => jg_uN (by omega)
              have h107 : ∀ s, jg_u G' 110 t (-1) 107 s = G' 107 s := fun s => jg_uN (by decide)
              have h111 : ∀ s, jg_u G' 110 t (-1) 111 s = G' 111 s := fun s => jg_uN (by decide)
              have o1' : G' 107 t = 1 := by rw [x6.1 t ht.1 ht.2, if_neg (fun z => vt z.symm), g107]; exact o1
              have jtt : jt G' t N' = jt G t N := by rw [x8 t ht.1 ht.2 (fun z => vt z.symm), ejt]
              have ph : jph (jg_u G' 110 t (-1)) N' ≤ κ := by
                have q := jph_110 (G := G') (N := N') (w := -1) ht
                have tmn : jtm (jg_u G' 110 t (-1)) N' t = jbs G N t := by
                  unfold jtm jbs
                  rw [hl2.t t N' (Int.le_refl _), jtt, h107, o1', o1, jg_uH, if_pos rfl, if_pos rfl, if_pos rfl]
                rw [tmn] at q
                have k5 := x3.2.2.2.1
                by_cases ov2 : o = v
                · have y := x9 t ht.1 ht.2 (fun z => vt z.symm) (by rw [g110t]; exact ov2)
                  have bs : jbs (jg_u G 110 t o) N t = jbs G N t := by
                    unfold jbs
                    rw [ejt, g107]
                  have tmp : jtm G' N' t = jbs G N t := by
                    unfold jtm jbs
                    rw [jtt, o1', o1, x6.2.1 t ht.1 ht.2, if_pos (Or.inr (by rw [g110t]; exact ov2)), if_pos rfl, if_pos rfl, if_pos rfl]
                  rw [tmt, tmv, bs] at y
                  omega
                · have tmp : jtm G' N' t = 2 := by
                    unfold jtm
                    rw [jtt, o1', x6.2.1 t ht.1 ht.2, if_neg (show ¬ (t = v ∨ jg_u G 110 t o 110 t = v) from fun z => z.elim (fun y => vt y.symm) (fun y => ov2 (by rw [← y, g110t]))), g110t, if_pos rfl, if_neg f1]
                    split <;> rfl
                  omega
              have hM2 : jM (jg_u G' 110 t (-1)) N' κ W B := x3.g g2 (fun k k0 k1 => by rw [h111]; exact x3.2.2.1 k k0 k1) ph ⟨(jg_uN (by decide)).trans x3.2.2.2.2.2.2.1.1, fun j => (jg_uN (by decide)).trans (x3.2.2.2.2.2.2.1.2 j)⟩ (Nat.le_refl _) (fun _ _ _ => jg_uN (by decide)) (fun _ _ _ _ _ _ _ _ h => by rw [h111]; exact h)
              have dec := jopn_d (t := t) vb vt ov x6.1
              have dec2 : jopn (jg_u G' 110 t (-1)) t = jopn G' t := jsum_e 4 (fun i hi => by
                show (if (i : Int) = t then 0 else if jg_u G' 110 t (-1) 107 i = 1 then 1 else 0) = (if (i : Int) = t then 0 else if G' 107 i = 1 then 1 else 0)
                rw [h107])
              have dec3 : jopn (jg_u G 110 t o) t = jopn G t := jsum_e 4 (fun i hi => by
                show (if (i : Int) = t then 0 else if jg_u G 110 t o 107 i = 1 then 1 else 0) = (if (i : Int) = t then 0 else if G 107 i = 1 then 1 else 0)
                rw [g107])
              obtain ⟨K2, a, G2, r1, r2, r3, r4⟩ := ih m' (i + 1) K' (jg_u G' 110 t (-1)) N' (x2.g g2) hM2 (x4.same (fun z => hl2.h z N' (Int.le_refl _))) ⟨fun s s0 s1 => by
                have := x5.1 s s0 s1
                rw [jc_uN (by decide), h107]
                refine ⟨this.1, this.2.1, ?_⟩
                by_cases e : s = t
                · rw [e, jc_uH, jg_uH]; exact ⟨rfl, by decide, by decide⟩
                · rw [jc_uI e, jg_uI e]; exact this.2.2, fun k k0 k1 => by
                rw [jc_uN (by decide), h111]; exact x5.2 k k0 k1⟩ ⟨fun k k0 k1 h0 => by
                rw [h111] at h0 ⊢
                rw [h107]; exact Wo2.1 k k0 k1 h0, fun s s0 s1 h0 => by
                by_cases e : s = t
                · rw [e, jg_uH] at h0; omega
                · rw [jg_uI e] at h0 ⊢
                  rw [h107, h107]; exact Wo2.2 s s0 s1 h0⟩ ⟨ρ, fun s s0 s1 hs h0 => by
                rw [jg_uI hs] at h0 ⊢
                exact ρ2 s s0 s1 hs h0⟩ (by rw [h107]; exact o1') jg_uH (by
                rw [h111, x6.2.2 key hk.1 hk.2, g111, ho]
                by_cases e : o = v
                · left
                  rw [(x5.1 t ht.1 ht.2).2.2.1, x6.2.1 t ht.1 ht.2, if_pos (Or.inr (by rw [g110t]; exact e))]
                · right
                  rw [if_neg e]
                  exact ⟨f1, f2⟩) (fun s s0 s1 h0 => by
                rw [h107] at h0
                rw [hl2.t s N' (Int.le_refl _)]
                exact cl2 s s0 s1 h0) (by omega) (by omega) (by omega)
              rw [show (i : Int) + 1 = ((i + 1 : Nat) : Int) by omega]
              have up : ∀ {N2 : Nat} {a' : Int}, jLk t key (4 - (i + 1)) (jg_u G' 110 t (-1)) N' G2 N2 a' → jLk t key (4 - i) G N G2 N2 a' := fun h => by
                rw [show 4 - i = (4 - (i + 1)) + 1 by omega]
                exact Or.inr ⟨⟨by rw [ho]; exact f1, by rw [ho]; exact f2⟩, v, by rw [ho]; exact v5, Or.inr ⟨vn, vb, G', N', by rw [ho]; exact zV, Or.inr ⟨vt, h⟩⟩⟩
              refine ⟨K2, a, G2, r1, r2, (gA.trans c4).trans r3, ?_⟩
              rcases r4 with ⟨q1, ⟨N2, q2, q3⟩, q4⟩ | ⟨q1, N2, q2, q3⟩ | q
              · exact Or.inl ⟨q1, ⟨N2, q2, up q3⟩, q4⟩
              · exact Or.inr (Or.inl ⟨q1, N2, q2, up q3⟩)
              · exact Or.inr (Or.inr q)
          · rw [if_pos es, if_neg x1.h7]
            refine ⟨K', -4, G', rfl, rfl, gA.trans c4, Or.inr (Or.inr ⟨rfl, x1, x2.le (by omega) (Nat.le_refl _), fun k k0 k1 => ?_⟩)⟩
            rw [x3, jc_uN (by decide), (k62 k k0 k1).1]
            exact (k62 k k0 k1).2
theorem jlock {K : jc_K} {G : jg_G} {N x κ B : Nat} {W : jZW} {t key : Int} (h : jLv K G N x κ W B) (hκ : κ + 1 ≤ 513) (hB : B ≤ 223) (hW : W.1 ≤ 2000000000) (ht : 0 ≤ t ∧ t < 4) (hk : 0 ≤ key ∧ key < 32) (ho : G 107 t = 1) : ∃ K' a G', fc142 K t key = some (K', a) ∧ fo190 G t key = some (G', a) ∧ jk_g jQA K K' ∧ ((a = 0 ∧ (∃ N', jLv K' G' N' x κ W B ∧ jLk t key 4 (jg_u G 110 t (-1)) N G' N' 0) ∧ G' 107 t = 1 ∧ G' 111 key = t) ∨ ((a = -2 ∨ a = -3) ∧ ∃ N', jLv K' G' N' x (κ + 1) W B ∧ jLk t key 4 (jg_u G 110 t (-1)) N G' N' a) ∨ (a = -4 ∧ jE K' G' x ∧ jMf G' (κ + 1) W B ∧ ∀ k, 0 ≤ k → k < 32 → -1 ≤ jc_i K' 62 k ∧ jc_i K' 62 k < 4)) := by
  obtain ⟨hY, hM, hz, hT, ⟨hWo, ρ, hρ⟩, hcl⟩ := h
  have s61 : jk_s (fun n => n = 61) K (jc_ui K 61 t (-1)) := jk_s.u rfl
  have hg : ∀ n j, ¬ (n = 110 ∨ n = 111 ∨ (n = 92 ∧ j = 0) ∨ 112 ≤ n) → jg_u G 110 t (-1) n j = G n j := fun n j h => jg_uN (by omega)
  have hl : jl_a G (jg_u G 110 t (-1)) N := fun m j e => jg_uN (by omega)
  have g107 : ∀ s, jg_u G 110 t (-1) 107 s = G 107 s := fun s => jg_uN (by decide)
  have g111 : ∀ s, jg_u G 110 t (-1) 111 s = G 111 s := fun s => jg_uN (by decide)
  have hY1 : jY (jc_ui K 61 t (-1)) G N x := hY.f (hY.1.grow (jk_g.s s61) (fun n e z => by unfold jN_k at e; omega) hY.2.2.2.1.1) s61 (fun n e => by omega) (jw_f.refl G)
  have q := jph_110 (G := G) (N := N) (w := -1) ht
  have tm : jtm (jg_u G 110 t (-1)) N t ≤ jtm G N t := jtm_le (hl.t t N (Int.le_refl _)) (g107 t) (Or.inr jg_uH)
  have op := jopn_3 (jg_u G 110 t (-1)) ht
  obtain ⟨K', a, G', r1, r2, r3, r4⟩ := jlock_l hκ hB hW ht hk jo_N jo_N 0 (jc_ui K 61 t (-1)) (jg_u G 110 t (-1)) N (hY1.g hg) (hM.g (κ' := κ) (W' := W) hg (fun k k0 k1 => by rw [g111]; exact hM.2.2.1 k k0 k1) (by have := hM.2.2.2.1; omega) ⟨(jg_uN (by decide)).trans hM.2.2.2.2.2.2.1.1, fun j => (jg_uN (by decide)).trans (hM.2.2.2.2.2.2.1.2 j)⟩ (Nat.le_refl _) (fun _ _ _ => jg_uN (by decide)) (fun _ _ _ _ _ _ _ _ h => by rw [g111]; exact h)) (hz.same (fun z => hl.h z N (Int.le_refl _))) ⟨fun s s0 s1 => by
    have := hT.1 s s0 s1
    rw [jc_uN (by decide), jc_uN (by decide), g107]
    refine ⟨this.1, this.2.1, ?_⟩
    by_cases e : s = t
    · rw [e, jc_uH, jg_uH]; exact ⟨rfl, by decide, by decide⟩
    · rw [jc_uI e, jc_uI e, jg_uI e]; exact this.2.2, fun k k0 k1 => by
    rw [jc_uN (by decide), jc_uN (by decide), g111]; exact hT.2 k k0 k1⟩ ⟨fun k k0 k1 h0 => by
    rw [g111] at h0 ⊢
    rw [g107]; exact hWo.1 k k0 k1 h0, fun s s0 s1 h0 => by
    by_cases e : s = t
    · rw [e, jg_uH] at h0; omega
    · rw [jg_uI e] at h0 ⊢
      rw [g107, g107]; exact hWo.2 s s0 s1 h0⟩ ⟨ρ, fun s s0 s1 hs h0 => by
    rw [jg_uI hs] at h0 ⊢
    exact hρ s s0 s1 h0⟩ (by rw [g107]; exact ho) jg_uH (Or.inl jc_uH) (fun s s0 s1 h0 => by
    rw [g107] at h0
    rw [hl.t s N (Int.le_refl _)]
    exact hcl s s0 s1 h0) (by omega) (by unfold jo_N; omega) (by unfold jo_N; omega)
  refine ⟨K', a, G', ?_, ?_, ((jk_g.s s61).mono (fun n e => Or.inr (Or.inr (Or.inr (Or.inl e))))).trans r3, r4⟩
  · unfold fc142
    rw [if_pos ht]
    exact r1
  · unfold fo190
    rw [if_pos ht]
    exact r2
