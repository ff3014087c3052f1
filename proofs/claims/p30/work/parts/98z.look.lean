/-! OPEN; CALLS THAT READ -/
section Rv
variable {K : jc_K} {G : jg_G} {N k : Nat} {W : jZW}
/-- open -/
theorem jopen (hs : jSt K G N k W) {a : Int} (ha : 0 ≤ a ∧ a < 4) (o : G 107 a = 0) : ∃ K' c G', fc107 K a = some (K', .inl c) ∧ jSt K' G' N (k + 1) (W.1, 0, W.2.2) ∧ (∀ j, G' 107 j = if j = a then 1 else jg_u G 92 0 0 107 j) ∧ (∀ j, G' 109 j = if j = a then 0 else jg_u G 92 0 0 109 j) ∧ (∀ j, 0 ≤ j → j < 4 → G' 110 j = jg_u G 92 0 0 110 j) ∧ (∀ j, 0 ≤ j → j < 32 → G' 111 j = jg_u G 92 0 0 111 j) ∧ jl_a (jg_u G 92 0 0) G' N ∧ ∀ j, G' 113 j = jg_u G 92 0 0 113 j := by
  obtain ⟨o1, _⟩ := hs.t ha
  have st0 : fc107 K a = ((fc62 K a).bind fun x6 => some (x6.1, .inl 0)) := by
    unfold fc107
    rw [if_neg (by omega), if_pos ha.2, if_pos hs.2.1, if_pos ha, o1, if_pos o]
  obtain ⟨hY, hM, hz, hT, ⟨⟨w1, w2⟩, ρ, w3⟩, hcl⟩ := hs.2.2.2.t 0
  have jt0 := hcl a ha.1 ha.2 (by rw [jg_uN (by decide)]; exact o)
  generalize hG0 : jg_u G 92 0 0 = G0 at *
  have o' : G0 107 a = 0 := by rw [← hG0, jg_uN (by decide)]; exact o
  have nw : G0 110 a < 0 := by
    by_cases z : G0 110 a < 0
    · exact z
    · have := (w2 a ha.1 ha.2 (by omega)).1
      omega
  have nh : ∀ j, 0 ≤ j → j < 32 → G0 111 j ≠ a := fun j j0 j1 z => by
    have := w1 j j0 j1 (by omega)
    rw [z] at this; omega
  have nw2 : ∀ j, 0 ≤ j → j < 4 → G0 110 j ≠ a := fun j j0 j1 z => by
    have := (w2 j j0 j1 (by omega)).2
    rw [z] at this; omega
  have e110 : ∀ j, 0 ≤ j → j < 4 → fr_cl G0 a 110 j = G0 110 j := fun j j0 j1 => by
    rw [fr_cl_10]
    by_cases z : j = a
    · rw [if_pos (Or.inl z), z]
      have := (hT.1 a ha.1 ha.2).2.2.2.1
      omega
    · rw [if_neg (fun y => y.elim z (fun y => nw2 j j0 j1 y.2.2))]
  have e111 : ∀ j, 0 ≤ j → j < 32 → fr_cl G0 a 111 j = G0 111 j := fun j j0 j1 => by
    rw [fr_cl_11, if_neg (fun y => nh j j0 j1 y.2.2)]
  have ec : fc62 K a = some (jc_ui (jc_ui (jc_ui K 58 a 1) 59 a 0) 60 a 0, 0) := by
    unfold fc62
    rw [if_pos ha]
  rw [st0, ec, jo_bs]
  refine ⟨_, _, jg_u (fr_cl G0 a) 107 a 1, rfl, ?_⟩
  have sK : jk_s (fun n => n = 58 ∨ n = 59 ∨ n = 60) K (jc_ui (jc_ui (jc_ui K 58 a 1) 59 a 0) 60 a 0) := ((jk_s.u (Or.inl rfl)).trans (jk_s.u (Or.inr (Or.inl rfl)))).trans (jk_s.u (Or.inr (Or.inr rfl)))
  have o := fun (n : Nat) (j : Int) (hn : n < 107 ∨ 111 < n) => (jg_uN (G := fr_cl G0 a) (n := 107) (m := n) (i := a) (j := j) (v := 1) (by omega)).trans (fr_cl_o (G := G0) (t := a) hn)
  have hl : jl_a G0 (jg_u (fr_cl G0 a) 107 a 1) N := fun m j e => o m j (by omega)
  have g107 : ∀ j, jg_u (fr_cl G0 a) 107 a 1 107 j = if j = a then 1 else G0 107 j := fun j => by
    by_cases z : j = a
    · rw [z, jg_uH, if_pos rfl]
    · rw [jg_uI z, fr_cl_7 (by decide), if_neg z, if_neg z]
  have g108 : ∀ j, jg_u (fr_cl G0 a) 107 a 1 108 j = if j = a then 0 else G0 108 j := fun j => by rw [jg_uN (by decide), fr_cl_7 (by decide)]
  have g109 : ∀ j, jg_u (fr_cl G0 a) 107 a 1 109 j = if j = a then 0 else G0 109 j := fun j => by rw [jg_uN (by decide), fr_cl_7 (by decide)]
  have g110 : ∀ j, 0 ≤ j → j < 4 → jg_u (fr_cl G0 a) 107 a 1 110 j = G0 110 j := fun j j0 j1 => by rw [jg_uN (by decide)]; exact e110 j j0 j1
  have g111 : ∀ j, 0 ≤ j → j < 32 → jg_u (fr_cl G0 a) 107 a 1 111 j = G0 111 j := fun j j0 j1 => by rw [jg_uN (by decide)]; exact e111 j j0 j1
  generalize hG1 : jg_u (fr_cl G0 a) 107 a 1 = G1 at *
  have n120 : 98 ≤ K.1.1 := hY.2.2.2.1.1
  have ejt : ∀ s, jt G1 s N = jt G0 s N := fun s => hl.t s N (Int.le_refl _)
  have hY1 : jY (jc_ui (jc_ui (jc_ui K 58 a 1) 59 a 0) 60 a 0) G1 N k := by
    have n1 := (hY.1.grow (jk_g.s sK) (fun n e z => by unfold jN_k at e; omega) n120).ref (G' := G1) (Nat.le_refl _) hY.1.2.1.2.2.2.1 ((o 92 12 (by decide)).trans hY.h12) (fun i _ => o 92 i (by decide)) (fun n hn j => o n j (by omega)) (fun j _ => o 93 j (by decide)) hl
    have ev : (fun p => jv G1 p N) = fun p => jv G0 p N := funext fun p => hl.v p N (Int.le_refl _)
    refine ⟨by rw [ev]; exact n1, ⟨by rw [sK.2 63 (by decide)]; exact hY.2.1.1, hY.2.1.2.s sK (fun n hn z => by omega) hl⟩, fun s s0 s1 => ?_, hY.2.2.2.1.s sK, hY.2.2.2.2.s sK⟩
    rw [g107, g108, g109]
    by_cases z : s = a
    · rw [z, jc_uN (by decide), jc_uH, jc_uH, if_pos rfl, if_pos rfl]
      exact ⟨rfl, fun _ => (if_pos rfl).symm⟩
    · rw [jc_uN (by decide), jc_uI z, jc_uN (by decide), jc_uI z, jc_uN (by decide), jc_uN (by decide), if_neg z, if_neg z, if_neg z]
      exact hY.2.2.1 s s0 s1
  have ph : jph G1 N ≤ k + 1 := by
    have tm : ∀ s, 0 ≤ s → s < 4 → s ≠ a → jtm G1 N s = jtm G0 N s := fun s s0 s1 z => by
      unfold jtm
      rw [ejt, g107, if_neg z, g110 s s0 s1]
    have x1 := jtm_sum (G := G1) (N := N) ha
    have x2 := jtm_sum (G := G0) (N := N) ha
    have e : jsum (fun s => if s = a then 0 else jtm G1 N s) 4 = jsum (fun s => if s = a then 0 else jtm G0 N s) 4 := jsum_e 4 (fun i hi => by
      show (if (i : Int) = a then 0 else jtm G1 N i) = (if (i : Int) = a then 0 else jtm G0 N i)
      by_cases z : (i : Int) = a
      · rw [if_pos z, if_pos z]
      · rw [if_neg z, if_neg z, tm i (by omega) (by omega) z])
    have ta : jtm G1 N a = 1 := by
      unfold jtm
      rw [ejt, jt0, if_neg (by decide), g107, if_pos rfl, if_pos rfl, g110 a ha.1 ha.2, if_pos]
      have := (hT.1 a ha.1 ha.2).2.2.2.1
      omega
    have k5 := hM.2.2.2.1
    rw [jph_tm] at k5 ⊢
    rw [hl.cw 2 N (Int.le_refl _), hl.cw 3 N (Int.le_refl _)]
    omega
  have hM1 : jM G1 N (k + 1) (W.1, 0, W.2.2) 223 := by
    obtain ⟨⟨m1, m2⟩, m3, m4, m5, m6, m7, m8, m9, m10⟩ := hM
    refine ⟨⟨m1.a hl (Nat.le_refl _), m2.a hl (jd_m.same (fun j _ _ => o 93 j (by decide))) (Nat.le_refl _)⟩, fun s s0 s1 => ?_, fun j j0 j1 => by rw [g111 j j0 j1]; exact m4 j j0 j1, ph, by rw [hl.cw 0 N (Int.le_refl _), hl.cw 5 N (Int.le_refl _), hl.cw 4 N (Int.le_refl _)]; exact m6, ?_, ⟨(o 92 0 (by decide)).trans m8.1, fun j => (o 113 j (by decide)).trans (m8.2 j)⟩, m9.same hl (Int.le_of_eq (o 92 13 (by decide)).symm) (fun j => o 113 j (by decide)), fun y s y0 y1 s0 s1 h7 hq => ?_, fun s s0 s1 h7 => ?_⟩
    · rw [g108, ejt]
      by_cases z : s = a
      · rw [if_pos z, z, jt0]
      · rw [if_neg z]; exact m3 s s0 s1
    · have : jP G1 = jP G0 := jP_same (fun i => o 97 i (by decide)) (o 92 3 (by decide))
      omega
    · rw [hl.pp y s N (Int.le_refl _)] at hq
      rw [g107] at h7
      by_cases z : s = a
      · rw [z] at hq
        exact absurd (jpp_jt N jt0) hq
      · rw [if_neg z] at h7
        rw [g111 y y0 y1]
        exact m10.1 y s y0 y1 s0 s1 h7 hq
    · rw [hl.zn s N (Int.le_refl _), g109]
      rw [g107] at h7
      by_cases z : s = a
      · rw [if_pos z, z]
        exact (jzn_jt N jt0).symm
      · rw [if_neg z] at h7 ⊢
        exact m10.2 s s0 s1 h7
  refine ⟨(jfinA (N' := N) (K' := jc_ui (jc_ui (jc_ui K 58 a 1) 59 a 0) 60 a 0) (G' := G1) hs ((jk_g.s sK).mono (fun n e => Or.inl (by unfold jQA jQU jQB jQ jTn; omega))) ⟨hY1, hM1, hz.same (fun z => hl.h z N (Int.le_refl _)), ⟨fun s s0 s1 => ?_, fun j j0 j1 => ?_⟩, ⟨⟨fun j j0 j1 h0 => ?_, fun s s0 s1 h0 => ?_⟩, ρ, fun s s0 s1 h0 => ?_⟩, fun s s0 s1 h0 => ?_⟩), g107, g109, fun j j0 j1 => g110 j j0 j1, fun j j0 j1 => g111 j j0 j1, hl, fun j => o 113 j (by decide)⟩
  · obtain ⟨x1, x2, x3, x4⟩ := hT.1 s s0 s1
    rw [jc_uN (n := 60) (m := 61) (by decide), jc_uN (n := 59) (m := 61) (by decide), jc_uN (n := 58) (m := 61) (by decide), jc_uN (n := 60) (m := 58) (by decide), jc_uN (n := 59) (m := 58) (by decide), g107, g110 s s0 s1]
    by_cases z : s = a
    · rw [z, jc_uH, if_pos rfl]
      rw [z] at x3 x4
      exact ⟨rfl, Or.inr rfl, x3, x4⟩
    · rw [jc_uI z, if_neg z]
      exact ⟨x1, x2, x3, x4⟩
  · rw [jc_uN (by decide), jc_uN (by decide), jc_uN (by decide), g111 j j0 j1]
    exact hT.2 j j0 j1
  · rw [g111 j j0 j1] at h0 ⊢
    rw [g107]
    split
    · rfl
    · exact w1 j j0 j1 h0
  · rw [g110 s s0 s1] at h0 ⊢
    have := w2 s s0 s1 h0
    rw [g107, g107]
    constructor
    · split
      · rfl
      · exact this.1
    · split
      · rfl
      · exact this.2
  · rw [g110 s s0 s1] at h0 ⊢
    exact w3 s s0 s1 h0
  · rw [g107] at h0
    by_cases z : s = a
    · rw [z, ejt]; exact jt0
    · rw [if_neg z] at h0
      rw [ejt]; exact hcl s s0 s1 h0
/-- nothing but what was thrown -/
theorem jSt.t0 (hs : jSt K G N k W) : jSt K (jg_u G 92 0 0) N (k + 1) (W.1, 0, W.2.2) :=
  ⟨fun j j0 j1 => by rw [jg_uN (by decide)]; exact hs.1 j j0 j1, hs.2.1, by show W.1 ≤ _; have := hs.2.2.1; omega, (hs.2.2.2.t 0).le (Nat.le_succ _) (Nat.le_succ _) (Nat.le_refl _)⟩
theorem jzs.t0 : jzs G N (jg_u G 92 0 0) N := by
  have hl : jl_a G (jg_u G 92 0 0) N := fun m j e => jg_uN (by omega)
  exact ⟨fun y => hl.zA y N (Int.le_refl _), fun t _ _ => hl.zL t N (Int.le_refl _), fun j => ⟨jg_uN (by decide), jg_uN (by decide), jg_uN (by decide)⟩, fun t _ _ _ => jg_uN (by decide), hl, Nat.le_refl _, fun j => jg_uN (by decide), fun t _ _ => jg_uN (by decide)⟩
/-- records, durable -/
theorem jcount (hs : jSt K G N k W) : fc126 K = some (K, (N : Int)) ∧ fc127 K = some (K, G 92 13) := by
  unfold fc126 fc127
  rw [hs.2.2.2.1.2.1.1, hs.2.2.2.1.1.1.2.1.1.1]
  exact ⟨rfl, rfl⟩
/-- holder -/
theorem jholder (hs : jSt K G N k W) {a : Int} (ha : 0 ≤ a ∧ a < 32) : fc129 K a = some (K, .inl (G 111 a)) := by
  unfold fc129
  rw [if_neg (by omega), if_pos ha.2, if_pos ha, (hs.2.2.2.2.2.2.1.2 a ha.1 ha.2).1]
/-- waitsFor -/
theorem jwaits (hs : jSt K G N k W) {a : Int} (ha : 0 ≤ a ∧ a < 4) : fc130 K a = some (K, .inl (G 110 a)) := by
  unfold fc130
  rw [if_neg (by omega), if_pos ha.2, if_pos ha, (hs.2.2.2.2.2.2.1.1 a ha.1 ha.2).2.2.1]
/-- page -/
theorem jpage (hs : jSt K G N k W) {p : Int} (hp : 0 ≤ p ∧ p < 24) : fc121 K p 0 = some (K, .inl (jh G N p).1) ∧ fc121 K p 2 = some (K, .inl (jh G N p).2.1) := by
  obtain ⟨s1, s2, s3, s4, _⟩ := jN_seen hs.2.2.2.1.1 hp
  have e : jh G (jv G p N) p = jh G N p := jh_v G p N
  rw [e] at s3
  refine ⟨?_, ?_⟩
  · unfold fc121
    rw [if_neg (by omega), if_pos hp.2, if_neg (by decide), if_pos (by decide), if_neg (by decide), s1, jo_bs]
    dsimp only
    rw [if_neg (by omega), if_pos (show (0 : Int) = 0 from rfl), if_pos s3.1, s3.2.1]
  · unfold fc121
    rw [if_neg (by omega), if_pos hp.2, if_neg (by decide), if_pos (by decide), if_neg (by decide), s1, jo_bs]
    dsimp only
    rw [if_neg (by omega), if_neg (show ¬ (2 : Int) = 0 by decide), if_neg (show ¬ (2 : Int) = 1 by decide), if_pos s3.1, s3.2.2.1]
/-- entry -/
theorem jentry (hs : jSt K G N k W) {p b : Int} (hp : 0 ≤ p ∧ p < 24) (b0 : 0 ≤ b) (bc : b < (jh G N p).2.1) : fc122 K p b = some (K, .inl (jp_un (jh G N p).1 * (jh G N p).2.2.1 b + (jh G N p).2.2.2 b)) := by
  obtain ⟨s1, s2, s3, s4, s5, s6, s7, s8, s9⟩ := jN_seen hs.2.2.2.1.1 hp
  have e : jh G (jv G p N) p = jh G N p := jh_v G p N
  rw [e] at s3 s9
  unfold fc122
  rw [if_neg (by omega), if_pos hp.2, if_pos b0, s1, jo_bs]
  dsimp only
  rw [if_neg (by omega), if_pos s3.1, s3.2.2.1, if_pos bc, jk_fc37i s9 s3 b0 bc, jo_bs]
end Rv
