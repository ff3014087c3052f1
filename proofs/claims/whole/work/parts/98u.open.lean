/-! CALLS OF TRANSACTIONS: ends of calls; open, place -/
def jQX (n : Nat) : Prop := jQA n ∨ jQF n
theorem jQX_n : ¬ jQX 2 ∧ ¬ jQX 85 := by
  constructor <;> (intro h; unfold jQX jQA jQU jQB jQF jF_n jQ jS_n jTn at h; omega)
def jSt (K : jc_K) (G : jg_G) (N k : Nat) (W : jZW) : Prop := jPs K G ∧ jc_i K 2 8 = 0 ∧ W.1 ≤ 9000 * k ∧ jLv K G N k k W 223
section Fi
variable {K K' : jc_K} {G G' : jg_G} {N N' k : Nat} {W : jZW}
theorem jfinA (hs : jSt K G N k W) (g : jk_g jQX K K') (h : jLv K' G' N' k (k + 1) (W.1, 0, W.2.2) 223) : jIn K' G' (k + 1) ∧ G' 92 0 = 0 := by
  obtain ⟨h1, h2, h3, h4⟩ := hs
  have n120 : 120 ≤ K.1.1 := h4.1.2.2.2.1.1
  have gz := h.2.1.2.2.2.2.2.2
  have gz0 := h4.2.1.2.2.2.2.2.2
  refine ⟨⟨fun j j0 j1 => ?_, Or.inl ⟨?_, N', (W.1, 0, W.2.2), by show W.1 ≤ _; omega, h.le (by omega) (Nat.le_refl _) (Nat.le_refl _)⟩⟩, gz.1⟩
  · rw [g.2.2.2 85 j (by omega) jQX_n.2, gz.2 j, h1 j j0 j1]
    exact gz0.2 j
  · rw [g.2.2.2 2 8 (by omega) jQX_n.1]; exact h2
theorem jfinF (hs : jSt K G N k W) (g : jk_g jQX K K') (hE : jE K' G' k) (hM : jMf G' (k + 1) (W.1, 0, W.2.2) 223) (h62 : ∀ k, 0 ≤ k → k < 32 → -1 ≤ jc_i K' 62 k ∧ jc_i K' 62 k < 4) : (∃ K2, fc140 K' (-4) = some (K2, -4) ∧ jIn K2 G' (k + 1)) ∧ G' 92 0 = 0 := by
  obtain ⟨h1, h2, h3, h4⟩ := hs
  have n120 : 120 ≤ K.1.1 := h4.1.2.2.2.1.1
  have gz0 := h4.2.1.2.2.2.2.2.2
  have gz : jgz (W.1, 0, W.2.2) G' := by
    obtain ⟨n, _, _, _, _, _, f⟩ := hM
    exact f
  obtain ⟨K2, a1, a2, a3⟩ := jtold_f hE h62
  refine ⟨⟨K2, a1, fun j j0 j1 => ?_, Or.inr ⟨(W.1, 0, W.2.2), by show W.1 ≤ _; omega, a2.le (by omega), hM⟩⟩, gz.1⟩
  rw [a3, g.2.2.2 85 j (by omega) jQX_n.2, gz.2 j, h1 j j0 j1]
  exact gz0.2 j
theorem jIn.st (h : jIn K G k) (h7 : G 92 7 = 0) : ∃ N W, jSt K G N k W := by
  rcases h.2 with ⟨h8, N, W, hW, hL⟩ | ⟨W, hW, hF, hM⟩
  · exact ⟨N, W, h.1, h8, hW, hL⟩
  · exact absurd h7 hF.1.h7
theorem jIn.down (h : jIn K G k) : jc_i K 2 8 = 0 ↔ G 92 7 = 0 := by
  rcases h.2 with ⟨h8, N, W, hW, hL⟩ | ⟨W, hW, hF, hM⟩
  · exact ⟨fun _ => hL.1.h7, fun _ => h8⟩
  · exact ⟨fun z => by rw [hF.2.1] at z; exact absurd z (by decide), fun z => absurd z hF.1.h7⟩
theorem jSt.t {t : Int} (hs : jSt K G N k W) (ht : 0 ≤ t ∧ t < 4) : jc_i K 58 t = G 107 t ∧ (G 107 t = 0 ∨ G 107 t = 1) := ⟨(hs.2.2.2.2.2.2.1.1 t ht.1 ht.2).1, (hs.2.2.2.2.2.2.1.1 t ht.1 ht.2).2.1⟩
theorem jwt_e (h : jWt G) (hg : ∀ j, G' 107 j = G 107 j ∧ G' 110 j = G 110 j ∧ G' 111 j = G 111 j) : jWt G' := by
  obtain ⟨⟨a, b⟩, ρ, c⟩ := h
  refine ⟨⟨fun k k0 k1 h0 => ?_, fun s s0 s1 h0 => ?_⟩, ρ, fun s s0 s1 h0 => ?_⟩
  · rw [(hg k).2.2] at h0 ⊢
    rw [(hg _).1]; exact a k k0 k1 h0
  · rw [(hg s).2.1] at h0 ⊢
    rw [(hg s).1, (hg _).1]; exact b s s0 s1 h0
  · rw [(hg s).2.1] at h0 ⊢
    exact c s s0 s1 h0
theorem jV.tr {M : Nat} (h : jV G G' N M) : ∀ j, G' 107 j = G 107 j ∧ G' 110 j = G 110 j ∧ G' 111 j = G 111 j := fun j => ⟨h.2.2.1 107 (by decide) j, h.2.2.1 110 (by decide) j, h.2.2.1 111 (by decide) j⟩
end Fi
theorem jt1 {t : Int} (h1 : ¬ t < 0) (h2 : t < 4) : 0 ≤ t ∧ t < 4 := ⟨by omega, h2⟩
/-- open -/
theorem jcase0 {K : jc_K} {G : jg_G} {k : Nat} (h : jIn K G k) (a b e : Int) : ∃ K' G', js0 K G a b e = some (K', G') ∧ jIn K' G' (k + 1) := by
  unfold js0 fc107 fo191
  by_cases a0 : a < 0
  · rw [if_pos a0, if_pos a0, jo_bs, jo_bs]
    exact ⟨_, _, jl_cmv_r (by decide) jg_uH, h.thr 1⟩
  · by_cases a4 : a < 4
    · have ha : 0 ≤ a ∧ a < 4 := ⟨by omega, a4⟩
      rw [if_neg a0, if_pos a4, if_neg a0, if_neg (show ¬ 3 < a by omega)]
      by_cases d : G 92 7 = 0
      · obtain ⟨N, W, hs⟩ := h.st d
        obtain ⟨o1, o2⟩ := hs.t ha
        rw [if_pos hs.2.1, if_pos ha, o1, if_pos d, if_pos ha]
        rcases o2 with o | o
        · rw [if_pos o, if_pos o, if_pos ha]
          obtain ⟨hY, hM, hz, hT, ⟨⟨w1, w2⟩, ρ, w3⟩, hcl⟩ := hs.2.2.2.t 0
          have jt0 := hcl a ha.1 ha.2 (by rw [jg_uN (by decide)]; exact o)
          generalize hG0 : jg_u G 92 0 0 = G0 at *
          have o' : G0 107 a = 0 := by rw [← hG0, jg_uN (by decide)]; exact o
          have nw : G0 110 a < 0 := by
            by_cases z : G0 110 a < 0
            · exact z
            · have := (w2 a ha.1 ha.2 (by omega)).1
              omega
          have nh : ∀ j, 0 ≤ j → j < 32 → G0 111 j ≠ a := fun j j0 j1 z => by
            have := w1 j j0 j1 (by omega)
            rw [z] at this; omega
          have nw2 : ∀ j, 0 ≤ j → j < 4 → G0 110 j ≠ a := fun j j0 j1 z => by
            have := (w2 j j0 j1 (by omega)).2
            rw [z] at this; omega
          have e110 : ∀ j, 0 ≤ j → j < 4 → fr_cl G0 a 110 j = G0 110 j := fun j j0 j1 => by
            rw [fr_cl_10]
            by_cases z : j = a
            · rw [if_pos (Or.inl z), z]
              have := (hT.1 a ha.1 ha.2).2.2.2.1
              omega
            · rw [if_neg (fun y => y.elim z (fun y => nw2 j j0 j1 y.2.2))]
          have e111 : ∀ j, 0 ≤ j → j < 32 → fr_cl G0 a 111 j = G0 111 j := fun j j0 j1 => by
            rw [fr_cl_11, if_neg (fun y => nh j j0 j1 y.2.2)]
          have ec : fc62 K a = some (jc_ui (jc_ui (jc_ui K 58 a 1) 59 a 0) 60 a 0, 0) := by
            unfold fc62
            rw [if_pos ha]
          rw [ec, jo_bs, jo_bs]
          dsimp only
          have g0' : jg_u (fr_cl G0 a) 107 a 1 92 0 = 0 := by rw [jg_uN (by decide), fr_cl_o (by decide), ← hG0, jg_uH]
          refine ⟨_, _, jl_cmv_l (mp := jl_m231) g0', ?_⟩
          have sK : jk_s (fun n => n = 58 ∨ n = 59 ∨ n = 60) K (jc_ui (jc_ui (jc_ui K 58 a 1) 59 a 0) 60 a 0) := ((jk_s.u (Or.inl rfl)).trans (jk_s.u (Or.inr (Or.inl rfl)))).trans (jk_s.u (Or.inr (Or.inr rfl)))
          have o := fun (n : Nat) (j : Int) (hn : n < 107 ∨ 111 < n) => (jg_uN (G := fr_cl G0 a) (n := 107) (m := n) (i := a) (j := j) (v := 1) (by omega)).trans (fr_cl_o (G := G0) (t := a) hn)
          have hl : jl_a G0 (jg_u (fr_cl G0 a) 107 a 1) N := fun m j e => o m j (by omega)
          have g107 : ∀ j, jg_u (fr_cl G0 a) 107 a 1 107 j = if j = a then 1 else G0 107 j := fun j => by
            by_cases z : j = a
            · rw [z, jg_uH, if_pos rfl]
            · rw [jg_uI z, fr_cl_7 (by decide), if_neg z, if_neg z]
          have g108 : ∀ j, jg_u (fr_cl G0 a) 107 a 1 108 j = if j = a then 0 else G0 108 j := fun j => by rw [jg_uN (by decide), fr_cl_7 (by decide)]
          have g109 : ∀ j, jg_u (fr_cl G0 a) 107 a 1 109 j = if j = a then 0 else G0 109 j := fun j => by rw [jg_uN (by decide), fr_cl_7 (by decide)]
          have g110 : ∀ j, 0 ≤ j → j < 4 → jg_u (fr_cl G0 a) 107 a 1 110 j = G0 110 j := fun j j0 j1 => by rw [jg_uN (by decide)]; exact e110 j j0 j1
          have g111 : ∀ j, 0 ≤ j → j < 32 → jg_u (fr_cl G0 a) 107 a 1 111 j = G0 111 j := fun j j0 j1 => by rw [jg_uN (by decide)]; exact e111 j j0 j1
          generalize hG1 : jg_u (fr_cl G0 a) 107 a 1 = G1 at *
          have n120 : 120 ≤ K.1.1 := hY.2.2.2.1.1
          have ejt : ∀ s, jt G1 s N = jt G0 s N := fun s => hl.t s N (Int.le_refl _)
          have hY1 : jY (jc_ui (jc_ui (jc_ui K 58 a 1) 59 a 0) 60 a 0) G1 N k := by
            have n1 := (hY.1.grow (jk_g.s sK) (fun n e z => by unfold jN_k at e; omega) n120).ref (G' := G1) (Nat.le_refl _) hY.1.2.1.2.2.2.1 ((o 92 12 (by decide)).trans hY.h12) (fun i _ => o 92 i (by decide)) (fun n hn j => o n j (by omega)) (fun j _ => o 93 j (by decide)) hl
            have ev : (fun p => jv G1 p N) = fun p => jv G0 p N := funext fun p => hl.v p N (Int.le_refl _)
            refine ⟨by rw [ev]; exact n1, ⟨by rw [sK.2 63 (by decide)]; exact hY.2.1.1, hY.2.1.2.s sK (fun n hn z => by omega) hl⟩, fun s s0 s1 => ?_, hY.2.2.2.1.s sK, hY.2.2.2.2.s sK⟩
            rw [g107, g108, g109]
            by_cases z : s = a
            · rw [z, jc_uN (by decide), jc_uH, jc_uH, if_pos rfl, if_pos rfl]
              exact ⟨rfl, fun _ => (if_pos rfl).symm⟩
            · rw [jc_uN (by decide), jc_uI z, jc_uN (by decide), jc_uI z, jc_uN (by decide), jc_uN (by decide), if_neg z, if_neg z, if_neg z]
              exact hY.2.2.1 s s0 s1
          have ph : jph G1 N ≤ k + 1 := by
            have tm : ∀ s, 0 ≤ s → s < 4 → s ≠ a → jtm G1 N s = jtm G0 N s := fun s s0 s1 z => by
              unfold jtm
              rw [ejt, g107, if_neg z, g110 s s0 s1]
            have x1 := jtm_sum (G := G1) (N := N) ha
            have x2 := jtm_sum (G := G0) (N := N) ha
            have e : jsum (fun s => if s = a then 0 else jtm G1 N s) 4 = jsum (fun s => if s = a then 0 else jtm G0 N s) 4 := jsum_e 4 (fun i hi => by
              show (if (i : Int) = a then 0 else jtm G1 N i) = (if (i : Int) = a then 0 else jtm G0 N i)
              by_cases z : (i : Int) = a
              · rw [if_pos z, if_pos z]
              · rw [if_neg z, if_neg z, tm i (by omega) (by omega) z])
            have ta : jtm G1 N a = 1 := by
              unfold jtm
              rw [ejt, jt0, if_neg (by decide), g107, if_pos rfl, if_pos rfl, g110 a ha.1 ha.2, if_pos]
              have := (hT.1 a ha.1 ha.2).2.2.2.1
              omega
            have k5 := hM.2.2.2.1
            rw [jph_tm] at k5 ⊢
            rw [hl.cw 2 N (Int.le_refl _), hl.cw 3 N (Int.le_refl _)]
            omega
          have hM1 : jM G1 N (k + 1) (W.1, 0, W.2.2) 223 := by
            obtain ⟨⟨m1, m2⟩, m3, m4, m5, m6, m7, m8⟩ := hM
            refine ⟨⟨m1.a hl (Nat.le_refl _), m2.a hl (jd_m.same (fun j _ _ => o 93 j (by decide))) (Nat.le_refl _)⟩, fun s s0 s1 => ?_, fun j j0 j1 => by rw [g111 j j0 j1]; exact m4 j j0 j1, ph, by rw [hl.cw 0 N (Int.le_refl _), hl.cw 5 N (Int.le_refl _), hl.cw 4 N (Int.le_refl _)]; exact m6, ?_, ⟨(o 92 0 (by decide)).trans m8.1, fun j => (o 113 j (by decide)).trans (m8.2 j)⟩⟩
            · rw [g108, ejt]
              by_cases z : s = a
              · rw [if_pos z, z, jt0]
              · rw [if_neg z]; exact m3 s s0 s1
            · have : jP G1 = jP G0 := jP_same (fun i => o 97 i (by decide)) (o 92 3 (by decide))
              omega
          refine (jfinA (N' := N) (K' := jc_ui (jc_ui (jc_ui K 58 a 1) 59 a 0) 60 a 0) (G' := G1) hs ((jk_g.s sK).mono (fun n e => Or.inl (by unfold jQA jQU jQB jQ jTn; omega))) ⟨hY1, hM1, hz.same (fun z => hl.h z N (Int.le_refl _)), ⟨fun s s0 s1 => ?_, fun j j0 j1 => ?_⟩, ⟨⟨fun j j0 j1 h0 => ?_, fun s s0 s1 h0 => ?_⟩, ρ, fun s s0 s1 h0 => ?_⟩, fun s s0 s1 h0 => ?_⟩).1
          · obtain ⟨x1, x2, x3, x4⟩ := hT.1 s s0 s1
            rw [jc_uN (n := 60) (m := 61) (by decide), jc_uN (n := 59) (m := 61) (by decide), jc_uN (n := 58) (m := 61) (by decide), jc_uN (n := 60) (m := 58) (by decide), jc_uN (n := 59) (m := 58) (by decide), g107, g110 s s0 s1]
            by_cases z : s = a
            · rw [z, jc_uH, if_pos rfl]
              rw [z] at x3 x4
              exact ⟨rfl, Or.inr rfl, x3, x4⟩
            · rw [jc_uI z, if_neg z]
              exact ⟨x1, x2, x3, x4⟩
          · rw [jc_uN (by decide), jc_uN (by decide), jc_uN (by decide), g111 j j0 j1]
            exact hT.2 j j0 j1
          · rw [g111 j j0 j1] at h0 ⊢
            rw [g107]
            split
            · rfl
            · exact w1 j j0 j1 h0
          · rw [g110 s s0 s1] at h0 ⊢
            have := w2 s s0 s1 h0
            rw [g107, g107]
            constructor
            · split
              · rfl
              · exact this.1
            · split
              · rfl
              · exact this.2
          · rw [g110 s s0 s1] at h0 ⊢
            exact w3 s s0 s1 h0
          · rw [g107] at h0
            by_cases z : s = a
            · rw [z, ejt]; exact jt0
            · rw [if_neg z] at h0
              rw [ejt]; exact hcl s s0 s1 h0
        · rw [if_neg (by omega), if_neg (by omega), jo_bs, jo_bs]
          exact ⟨_, _, jl_cmv_r (by decide) jg_uH, h.thr 2⟩
      · have d' : ¬ jc_i K 2 8 = 0 := fun z => d (h.down.1 z)
        rw [if_neg d', if_neg d, jo_bs, jo_bs]
        exact ⟨_, _, jl_cmv_r (by decide) jg_uH, h.thr 2⟩
    · rw [if_neg a0, if_neg a4, if_neg a0, if_pos (show 3 < a by omega), jo_bs, jo_bs]
      exact ⟨_, _, jl_cmv_r (by decide) jg_uH, h.thr 1⟩
