/-! A PAGE WRITTEN, put together -/
/-- the versions on the disk do not fall -/
def jd_m (G X : jg_G) : Prop := ∀ p, 0 ≤ p → p < 24 → G 93 (67 * (5 + 2 * p) + 1) ≤ X 93 (67 * (5 + 2 * p) + 1)
theorem jd_m.refl (G : jg_G) : jd_m G G := fun _ _ _ => Int.le_refl _
theorem jd_m.trans {G X Y : jg_G} (h : jd_m G X) (h2 : jd_m X Y) : jd_m G Y := fun p a b => Int.le_trans (h p a b) (h2 p a b)
theorem jd_m.same {G X : jg_G} (h : ∀ j, 67 * 4 ≤ j → j < 67 * 54 → X 93 j = G 93 j) : jd_m G X := fun p a b => Int.le_of_eq (h _ (by omega) (by omega)).symm
/-- what a writing has changed, up to where it came -/
def jw_x (G X : jg_G) (v : Int) : Prop := (∀ n, n ≠ 92 → n ≠ 93 → n ≠ 94 → ∀ j, X n j = G n j) ∧ (∀ j, (j < 67 * 4 ∨ 67 * 54 ≤ j) → X 93 j = G 93 j) ∧ (∀ i, i ≠ 3 → i ≠ 4 → i ≠ 5 → i ≠ 6 → i ≠ 13 → X 92 i = G 92 i) ∧ X 92 3 = G 92 3 + 1 ∧ X 92 13 = G 92 13 + jd_due G v ∧ jd_m G X
theorem jw_x.l {G X : jg_G} {v : Int} (h : jw_x G X v) : jl_s G X := ⟨fun m a b j => h.1 m (by omega) (by omega) (by omega) j, fun j hj => h.2.1 j (Or.inr hj)⟩
theorem jw_x.step {G X X' : jg_G} {v f to : Int} (h : jw_x G X v) (hx : jx_e X X' f to) (ht : 4 ≤ to ∧ to < 54) (hd : ∀ p, 0 ≤ p → p < 24 → to = 5 + 2 * p → G 93 (67 * (5 + 2 * p) + 1) ≤ X 93 (67 * f + 1)) : jw_x G X' v :=
  ⟨fun n a b c j => (hx.2.2.2.2.2 n a b c j).trans (h.1 n a b c j), fun j hj => (hx.2.1 j (by omega)).trans (h.2.1 j hj), fun i a b c d e => (hx.2.2.2.2.1 i c d).trans (h.2.2.1 i a b c d e), (hx.2.2.2.2.1 3 (by decide) (by decide)).trans h.2.2.2.1, (hx.2.2.2.2.1 13 (by decide) (by decide)).trans h.2.2.2.2.1, fun p p0 p1 => by
    by_cases e : to = 5 + 2 * p
    · rw [← e, hx.1 1 (by decide) (by decide), e]; exact hd p p0 p1 e
    · rw [hx.2.1 _ (by omega)]; exact h.2.2.2.2.2 p p0 p1⟩
theorem jw_x.s4 {G X : jg_G} {v p : Int} (h : jw_x G X v) : jw_x G (jg_u X 92 4 p) v :=
  ⟨fun n a b c j => (jg_uN a).trans (h.1 n a b c j), fun j hj => (jg_uN (by decide)).trans (h.2.1 j hj), fun i a b c d e => (jg_uI b).trans (h.2.2.1 i a b c d e), (jg_uI (by decide)).trans h.2.2.2.1, (jg_uI (by decide)).trans h.2.2.2.2.1, fun p p0 p1 => by rw [jg_uN (by decide)]; exact h.2.2.2.2.2 p p0 p1⟩
theorem jm_add2 {x a : Int} : jb_m (jb_m (x + a) + 1) = jb_m (x + (a + 1)) := by rw [jb_m_add]; congr 1; omega
theorem jd_write {K : jc_K} {G : jg_G} {f : Int} {v : Nat} (hc : jdc K G (G 92 13)) (hn : jdn K G) (hU : jd_U G) (h7 : G 92 7 = 0) (h5 : jb_r (G 92 5)) (hW : G 92 3 < 2147483647) (hf : 0 ≤ f ∧ f < 4) (hp : 0 ≤ G 95 f ∧ G 95 f < 24) (hr : G 93 (67 * f + 1) = v) (hv : v < 1501) (hfh : jd_h G v f (G 95 f)) (hk : jd_k K (71 + 2 * f.toNat) G f (G 95 f)) (ho : G 93 (67 * (5 + 2 * G 95 f) + 1) ≤ v) :
    ∃ K' G' b, fc14 K (G 95 f) (71 + 2 * f.toNat) = some (K', b) ∧ fo167 G f = some (G', 0) ∧ jk_s (fun n => 3 ≤ n ∧ n < 57) K K' ∧ jdc K' G' (G' 92 13) ∧ jdn K' G' ∧ jb_r (G' 92 5) ∧
      ((b = 0 ∧ ∃ X, G' = fr_fw X ∧ ((∃ t, 1 ≤ t ∧ t ≤ jd_due G v ∧ X = jg_u (fr_w G (t - 1)) 92 13 (G 92 13 + (t - 1))) ∨ jw_x G X v)) ∨
       (b = 1 ∧ jd_U G' ∧ ∃ X, G' = jg_u X 97 f 0 ∧ jw_x G X v ∧ (∀ q, 0 ≤ q → q < 24 → q ≠ G 95 f → X 93 (67 * (4 + 2 * q) + 1) = G 93 (67 * (4 + 2 * q) + 1)) ∧ X 93 (67 * (4 + 2 * G 95 f) + 1) = v)) := by
  obtain ⟨⟨n8, n9, n10⟩, n6, n13, n3⟩ := hn
  have w7 := hc.1.1
  have hpq : jc_pg K (71 + 2 * f.toNat) := hk.2.1
  have due0 : 0 ≤ jd_due G v ∧ jd_due G v < 1501 ∧ (v : Int) ≤ G 92 13 + jd_due G v := by unfold jd_due; split <;> omega
  have e14 : fc14 K (G 95 f) (71 + 2 * f.toNat) = fc14_37 K (G 95 f) (71 + 2 * f.toNat) (jd_due G v) := by
    unfold fc14
    rw [if_neg (by omega), if_pos hp.2, if_pos hpq, hk.1, hr, n8]
    unfold jd_due
    by_cases c : (v : Int) ≤ G 92 13
    · rw [if_pos c, if_neg (by omega)]
    · rw [if_neg c, if_pos (by omega), if_pos (by omega)]
  have S3 : ∀ {A B : jc_K}, jk_s (fun n => n = 3) A B → jk_s (fun n => 3 ≤ n ∧ n < 57) A B := fun h => h.mono (fun n e => by omega)
  rw [e14]
  rcases jk_37 (p := G 95 f) (q := 71 + 2 * f.toNat) ⟨due0.1, due0.2.1⟩ n10 n6 n8 ⟨n13.1, n13.2⟩ w7 ⟨n3, hW⟩ with ⟨t1, t2, K', r1, s1, e8, e9, e10, ei⟩ | ⟨tA, j, K1, ⟨j0, j4, ej⟩, r1, s1, e8, e7, e9, e10, e45, e450, e6⟩
  · -- the told write comes while the log is made durable
    have hlt : G 92 13 < v := by unfold jd_due at t2; split at t2 <;> omega
    have hdue : jd_due G v = v - G 92 13 := if_pos hlt
    rcases jx_167 hf hp n6 h7 n13.1 hr ⟨by omega, by omega⟩ with ⟨_, _, _, rG⟩ | ⟨z, _⟩
    · have eG : fr_ha G v = fr_fw (jg_u (fr_w G (G 92 6 - 1)) 92 13 (G 92 13 + (G 92 6 - 1))) := by
        unfold fr_ha
        rw [if_pos ⟨h7, hlt⟩, if_pos ⟨t1, by omega⟩]
      have k := fr_fw_k (jg_u (fr_w G (G 92 6 - 1)) 92 13 (G 92 13 + (G 92 6 - 1)))
      have g5 : fr_fw (jg_u (fr_w G (G 92 6 - 1)) 92 13 (G 92 13 + (G 92 6 - 1))) 92 5 = jb_m (G 92 5 + (G 92 6 - 1)) := by
        rw [k.1 5 (by decide) (by decide) (by decide) (by decide), jg_uI (by decide)]
        exact jg_uH
      have g13 : fr_fw (jg_u (fr_w G (G 92 6 - 1)) 92 13 (G 92 13 + (G 92 6 - 1))) 92 13 = G 92 13 + (G 92 6 - 1) := by
        rw [k.1 13 (by decide) (by decide) (by decide) (by decide), jg_uH]
      have g3 : fr_fw (jg_u (fr_w G (G 92 6 - 1)) 92 13 (G 92 13 + (G 92 6 - 1))) 92 3 = G 92 3 := by
        rw [k.1 3 (by decide) (by decide) (by decide) (by decide), jg_uI (by decide)]
        exact (jg_uI (by decide)).trans (jg_uI (by decide))
      have g4 : fr_fw (jg_u (fr_w G (G 92 6 - 1)) 92 13 (G 92 13 + (G 92 6 - 1))) 92 4 = G 92 4 := by
        rw [k.1 4 (by decide) (by decide) (by decide) (by decide), jg_uI (by decide)]
        exact (jg_uI (by decide)).trans (jg_uI (by decide))
      have gn : ∀ n, (n = 93 ∨ n = 94 ∨ (98 ≤ n ∧ n ≤ 106) ∨ 112 ≤ n) → ∀ j, fr_fw (jg_u (fr_w G (G 92 6 - 1)) 92 13 (G 92 13 + (G 92 6 - 1))) n j = G n j := fun n h j => by
        rw [k.2 n h j, jg_uN (by omega)]
        exact (jg_uN (by omega)).trans (jg_uN (by omega))
      refine ⟨K', fr_ha G v, 0, r1, rG, S3 s1, ?_, ?_, ?_, Or.inl ⟨rfl, _, eG, Or.inl ⟨_, t1, t2, rfl⟩⟩⟩
      · rw [eG, g13]
        refine hc.keep (by omega) ⟨s1.1, fun i hi => ei i (by omega) (by omega) (by omega), fun n a b i => s1.2 n (by omega) i⟩ ?_ (by rw [g3]; exact Int.le_refl _) g4 ⟨fun m a b j => gn m (by omega) j, fun j _ => gn 93 (by decide) j⟩ (fun j _ _ => gn 93 (by decide) j) (fun i => gn 94 (by decide) i)
        rw [g3, ei 7 (by decide) (by decide) (by decide)]
        exact w7
      · rw [eG]
        refine ⟨⟨e8.trans g13.symm, ?_, ?_⟩, ?_, ?_, ?_⟩
        · rw [e9, g5, n9]
        · rw [e10, fr_fw6]
        · rw [fr_fw6]; decide
        · rw [g13]; omega
        · rw [g3]; exact n3
      · rw [eG, g5]
        exact jb_m_r _
    · exfalso
      have : fr_ha G v 92 7 = 0 := (jg_uI (by decide)).symm.trans z
      unfold fr_ha at this
      rw [if_pos ⟨h7, hlt⟩, if_pos ⟨t1, by omega⟩, fr_fw7] at this
      exact absurd this (by decide)
  · -- the halves
    have hA : ¬ (G 92 13 < v ∧ 1 ≤ G 92 6 ∧ G 92 6 ≤ v - G 92 13) := fun z => tA ⟨z.2.1, by unfold jd_due; rw [if_pos z.1]; exact z.2.2⟩
    obtain ⟨a13, a6, a5, ai, an⟩ := jx_ha (r := v) h7 h5 hA
    have em : jb_m (G 92 3 + 1) = G 92 3 + 1 := jb_m_e ⟨by omega, by omega⟩
    -- the states of the reference
    have x0 : jw_x G (jx_0 G v) v := by
      refine ⟨fun n a b c j => (jg_uN a).trans (an n a j), fun j _ => (jg_uN (by decide)).trans (an 93 (by decide) j), fun i a b c d e => (jg_uI a).trans (ai i c d e), ?_, (jg_uI (by decide)).trans a13, jd_m.same (fun j _ _ => (jg_uN (by decide)).trans (an 93 (by decide) j))⟩
      unfold jx_0
      rw [jg_uH, ai 3 (by decide) (by decide) (by decide), em]
    have x05 : jx_0 G v 92 5 = jb_m (G 92 5 + jd_due G v) := (jg_uI (by decide)).trans a5
    have x06 : jx_0 G v 92 6 = (if G 92 6 ≤ 0 then G 92 6 else G 92 6 - jd_due G v) := (jg_uI (by decide)).trans a6
    have x04 : jx_0 G v 92 4 = G 92 4 := (jg_uI (by decide)).trans (ai 4 (by decide) (by decide) (by decide))
    have x094 : ∀ i, jx_0 G v 94 i = G 94 i := fun i => (jg_uN (by decide)).trans (an 94 (by decide) i)
    have x093 : ∀ i, jx_0 G v 93 i = G 93 i := fun i => (jg_uN (by decide)).trans (an 93 (by decide) i)
    have ex1 : jx_e (jx_0 G v) (jx_1 G f v) f 52 := jx_h_e _ _ _
    have x1 := x0.step ex1 (by decide) (fun p _ _ e => by omega)
    have ex2 : jx_e (jx_1 G f v) (jx_2 G f v) f 53 := jx_h_e _ _ _
    have x2 := x1.step ex2 (by decide) (fun p _ _ e => by omega)
    have x2' : jw_x G (jx_2' G f v) v := x2.s4
    have ex3 : jx_e (jx_2' G f v) (jx_3 G f v) f (4 + 2 * G 95 f) := jx_h_e _ _ _
    have x3 := x2'.step ex3 (by omega) (fun p _ _ e => by omega)
    have ex4 : jx_e (jx_3 G f v) (jx_4 G f v) f (5 + 2 * G 95 f) := jx_h_e _ _ _
    have x4 := x3.step ex4 (by omega) (fun p _ _ e => by rw [x3.2.1 _ (Or.inl (by omega)), hr, show p = G 95 f by omega]; exact ho)
    have y1 : jx_1 G f v 92 5 = jb_m (G 92 5 + (jd_due G v + 1)) := by
      have : jx_1 G f v 92 5 = jb_m (jx_0 G v 92 5 + 1) := jx_h5
      rw [this, x05, jm_add2]
    have y2 : jx_2' G f v 92 5 = jb_m (G 92 5 + (jd_due G v + 2)) := by
      have : jx_2' G f v 92 5 = jb_m (jx_1 G f v 92 5 + 1) := (jg_uI (by decide)).trans jx_h5
      rw [this, y1, jm_add2]
      congr 1
      omega
    have y3 : jx_3 G f v 92 5 = jb_m (G 92 5 + (jd_due G v + 3)) := by
      have : jx_3 G f v 92 5 = jb_m (jx_2' G f v 92 5 + 1) := jx_h5
      rw [this, y2, jm_add2]
      congr 1
      omega
    have y4 : jx_4 G f v 92 5 = jb_m (G 92 5 + (jd_due G v + 4)) := by
      have : jx_4 G f v 92 5 = jb_m (jx_3 G f v 92 5 + 1) := jx_h5
      rw [this, y3, jm_add2]
      congr 1
      omega
    have z1 : jx_1 G f v 92 6 = _ := jx_h6
    have z2 : jx_2' G f v 92 6 = _ := (jg_uI (by decide)).trans jx_h6
    have z3 : jx_3 G f v 92 6 = _ := jx_h6
    have z4 : jx_4 G f v 92 6 = _ := jx_h6
    -- the class's state, the writing begun
    have hKb : jdc (jc_ui K 3 7 (G 92 3 + 1)) (jx_0 G v) (G 92 13 + jd_due G v) := by
      refine hc.keep (by omega) ⟨⟨rfl, rfl, rfl⟩, fun i hi => jc_uI (by omega), fun n a b i => jc_uN (by omega)⟩ ?_ ?_ x04 x0.l (fun j _ _ => x093 j) x094
      · rw [jc_uH, x0.2.2.2.1]
      · rw [x0.2.2.2.1]; omega
    have hU0 : jd_U (jx_0 G v) := fun p a b => by rw [x094, x094]; exact hU p a b
    have W0 : jx_0 G v 92 3 = G 92 3 + 1 := x0.2.2.2.1
    have b53 := hc.2.1 53 (by decide) (by decide)
    have k37 : ∀ {A : jc_K}, jc_i A 3 7 = G 92 3 + 1 → jc_i A 3 7 = jc_i (jc_ui K 3 7 (G 92 3 + 1)) 3 7 := fun h => by rw [h, jc_uH]
    -- counts at the end
    have fin0 : ∀ (K' : jc_K) (X : jg_G), jw_x G X v → jc_i K' 3 8 = G 92 13 + jd_due G v → jc_i K' 3 10 = 0 → jc_i K' 3 9 = X 92 5 → jdn K' (fr_fw X) := by
      intro K' X hX h8 h10 h9
      have k := fr_fw_k X
      refine ⟨⟨?_, ?_, ?_⟩, ?_, ?_, ?_⟩
      · rw [h8, k.1 13 (by decide) (by decide) (by decide) (by decide), hX.2.2.2.2.1]
      · rw [h9, k.1 5 (by decide) (by decide) (by decide) (by decide)]
      · rw [h10, fr_fw6]
      · rw [fr_fw6]; decide
      · rw [k.1 13 (by decide) (by decide) (by decide) (by decide), hX.2.2.2.2.1]
        unfold jd_due
        split <;> omega
      · rw [k.1 3 (by decide) (by decide) (by decide) (by decide), hX.2.2.2.1]; omega
    have f13 : ∀ X, jw_x G X v → fr_fw X 92 13 = G 92 13 + jd_due G v := fun X hX => by
      rw [(fr_fw_k X).1 13 (by decide) (by decide) (by decide) (by decide), hX.2.2.2.2.1]
    have f5 : ∀ X, jb_r (X 92 5) → jb_r (fr_fw X 92 5) := fun X h => by
      rw [(fr_fw_k X).1 5 (by decide) (by decide) (by decide) (by decide)]
      exact h
    have r05 : jb_r (jx_0 G v 92 5) := by rw [x05]; exact jb_m_r _
    have r15 : jb_r (jx_1 G f v 92 5) := by rw [y1]; exact jb_m_r _
    have r25 : jb_r (jx_2' G f v 92 5) := by rw [y2]; exact jb_m_r _
    have r35 : jb_r (jx_3 G f v 92 5) := by rw [y3]; exact jb_m_r _
    have r45 : jb_r (jx_4 G f v 92 5) := by rw [y4]; exact jb_m_r _
    rcases jx_167 hf hp n6 h7 n13.1 hr ⟨by omega, by omega⟩ with ⟨z, z', z'', _⟩ | ⟨_, zz⟩
    · exact absurd ⟨z, z', z''⟩ hA
    rw [x06] at zz
    have hc4 : (0 ≤ G 92 4 ∧ G 92 4 < 24) := hc.1.2.2.2.2.1
    have s5 : ∀ {A : jc_K}, jk_s (fun n => n = 3) K A → ∀ n, 5 ≤ n → n < 57 → n ≠ 7 → n ≠ 8 → ∀ i, jc_i A n i = jc_i (jc_ui K 3 7 (G 92 3 + 1)) n i := fun s n a b _ _ i => (s.2 n (by omega) i).trans (jc_uN (by omega)).symm
    rcases zz with ⟨q1, rG⟩ | ⟨q1, rG⟩ | ⟨q1, rG⟩ | ⟨q1, rG⟩ | ⟨q1, rG⟩
    · have ht : G 92 6 = jd_due G v + 1 := by split at q1 <;> omega
      have jj : j = 0 := by rw [ej, if_pos ⟨by omega, by omega⟩]; omega
      subst jj
      refine ⟨K1, _, 0, r1.trans (jk_c01 (by decide)), rG, S3 s1, ?_, fin0 K1 _ x0 e8 (by rw [e10, if_pos ⟨by omega, by omega⟩]) (by rw [e9, n9, x05, Int.add_zero]), f5 _ r05, Or.inl ⟨rfl, _, rfl, Or.inr x0⟩⟩
      rw [f13 _ x0]
      have h0 := e450 rfl
      refine (hc.keep (by omega) ⟨s1.1, fun i hi => ?_, fun n a b i => s1.2 n (by omega) i⟩ (by rw [e7, W0]) (by rw [W0]; omega) x04 x0.l (fun j _ _ => x093 j) x094).fall
      rcases hi with rfl | rfl | rfl
      · exact h0.1
      · exact h0.2
      · exact e6
    · have ht : G 92 6 = jd_due G v + 2 := by split at q1 <;> omega
      have jj : j = 1 := by rw [ej, if_pos ⟨by omega, by omega⟩]; omega
      subst jj
      have h1 := e45 (by decide)
      refine ⟨K1, _, 0, r1.trans (jk_c01 (by decide)), rG, S3 s1, ?_, fin0 K1 _ x1 e8 (by rw [e10, if_pos ⟨by omega, by omega⟩]) (by rw [e9, n9, y1]), f5 _ r15, Or.inl ⟨rfl, _, rfl, Or.inr x1⟩⟩
      rw [f13 _ x1]
      refine (hKb.spare (K' := K1) (G' := jx_1 G f v) hU0 ⟨s1.1, k37 e7, s5 s1⟩ (by rw [h1.2, ex1.2.2.1, W0]) (by rw [e6, ex1.2.2.2.1 53 (by decide), x094]; exact hc.1.2.2.1) (by rw [h1.1]; omega) (by rw [ex1.2.2.2.2.1 4 (by decide) (by decide), x04]; exact hc4) (ex1.2.2.2.2.1 3 (by decide) (by decide)) (ex1.l (by decide)) (fun j a b => ex1.2.1 j (by omega)) (fun i hi => ex1.2.2.2.1 i (by omega)) (fun i a b => ?_)).1.fall
      rw [W0]
      by_cases e : i = 52
      · rw [e, ex1.2.2.1, W0]; omega
      · rw [show i = 53 by omega, ex1.2.2.2.1 53 (by decide), x094]; omega
    all_goals
      have vD : (v : Int) ≤ G 92 13 + jd_due G v := due0.2.2
      have hcw : jp_w (jh G v (G 95 f)) := by
        obtain ⟨v', a1, a2, a3, a4, a5⟩ := hfh
        have : v' = v := by omega
        rw [← this]
        exact a4
      have hkc : jp_k K (71 + 2 * f.toNat) (jh G v (G 95 f)) := by
        have := hk.2
        rw [hr, Int.toNat_natCast] at this
        exact this
      have sA : jk_s (fun n => n = 3) K (jc_ui K1 3 6 (jc_i K1 3 7)) := s1.trans (jk_s.u rfl)
      obtain ⟨K2, t1, t2, t3, t4⟩ := jk_fc35 (p := 7) hcw ⟨by omega, by omega, by omega⟩ (sA.pg hc.1.2.2.2.2.2) (sA.k (by omega) (by omega) hkc)
      have t4' : jc_i K2 7 1 = v := by rw [t4, sA.2 _ (by omega), hk.1, hr]
      have c3 : ∀ i, jc_i K2 3 i = jc_i (jc_ui K1 3 6 (jc_i K1 3 7)) 3 i := fun i => t2.2 3 (by decide) (by decide) i
      have s2 : jk_s (fun n => n = 3 ∨ n = 7 ∨ n = 8) K K2 := (sA.mono (fun n e => Or.inl e)).trans (jk_s.f t2 (Or.inr (Or.inl rfl)) (Or.inr (Or.inr rfl)))
      have e37 : jc_i K2 3 7 = G 92 3 + 1 := by rw [c3, jc_uI (by decide), e7]
      have r93 : ∀ i, jx_2' G f v 93 i = jx_2 G f v 93 i := fun i => jg_uN (by decide)
      have r94 : ∀ i, jx_2' G f v 94 i = jx_2 G f v 94 i := fun i => jg_uN (by decide)
      have row52 : ∀ i, 0 ≤ i → i < 67 → jx_2' G f v 93 (67 * 52 + i) = G 93 (67 * f + i) := fun i a b => by
        rw [r93, ex2.row (r := 52) (by decide) i a b, ex1.1 i a b, x093]
      have row53 : ∀ i, 0 ≤ i → i < 67 → jx_2' G f v 93 (67 * 53 + i) = G 93 (67 * f + i) := fun i a b => by
        rw [r93, ex2.1 i a b, ex1.row (r := f) (by omega) i a b, x093]
      have rowf : ∀ i, 0 ≤ i → i < 67 → jx_2' G f v 93 (67 * f + i) = G 93 (67 * f + i) := fun i a b => x2'.2.1 _ (Or.inl (by omega))
      have rowq : ∀ r, 4 ≤ r → r < 52 → ∀ i, 0 ≤ i → i < 67 → jx_2' G f v 93 (67 * r + i) = G 93 (67 * r + i) := fun r a b i c d => by
        rw [r93, ex2.row (by omega) i c d, ex1.row (by omega) i c d, x093]
      have w94 : jx_2' G f v 94 52 = G 92 3 + 1 := by rw [r94, ex2.2.2.2.1 52 (by decide), ex1.2.2.1, W0]
      have w94' : jx_2' G f v 94 53 = G 92 3 + 1 := by rw [r94, ex2.2.2.1, ex1.2.2.2.2.1 3 (by decide) (by decide), W0]
      have o94 : ∀ i, i < 52 → jx_2' G f v 94 i = G 94 i := fun i hi => by rw [r94, ex2.2.2.2.1 i (by omega), ex1.2.2.2.1 i (by omega), x094]
      have W2 : jx_2' G f v 92 3 = G 92 3 + 1 := x2'.2.2.2.1
      have s4v : jx_2' G f v 92 4 = G 95 f := jg_uH
      have hj1 : 0 < j := by
        rw [ej]
        split at q1
        · rw [if_neg (by omega)]; decide
        · split <;> omega
      have h1 := e45 hj1
      have sp := hKb.spare (K' := K2) (G' := jx_2' G f v) hU0 ⟨s2.1, k37 e37, fun n a b c d i => (s2.2 n (by omega) i).trans (jc_uN (by omega)).symm⟩ (by rw [c3, jc_uI (by decide), h1.2, w94]) (by rw [c3, jc_uH, e7, w94']) (by rw [c3, jc_uI (by decide), h1.1]; omega) (by rw [s4v]; exact hp) (by rw [W2, W0]) (x2'.l.trans (jl_s.refl _) |> fun h => ⟨fun m a b i => (h.1 m a b i).trans (x0.l.1 m a b i).symm, fun i a => (h.2 i a).trans (x0.l.2 i a).symm⟩) (fun i a b => by rw [r93, ex2.2.1 i (by omega), ex1.2.1 i (by omega)]) (fun i hi => by rw [o94 i hi, x094]) (fun i a b => by
        rw [W0]
        by_cases e : i = 52
        · rw [e, w94]; omega
        · rw [show i = 53 by omega, w94']; omega)
      have hs2 : jd_h (jx_2' G f v) (G 92 13 + jd_due G v) 52 (G 95 f) ∧ jd_h (jx_2' G f v) (G 92 13 + jd_due G v) 53 (G 95 f) ∧ jx_2' G f v 93 (67 * 52 + 1) = jx_2' G f v 93 (67 * 53 + 1) ∧ jd_k K2 7 (jx_2' G f v) 53 (G 95 f) := by
        refine ⟨hfh.m x2'.l row52 vD, hfh.m x2'.l row53 vD, ?_, ?_, ?_⟩
        · rw [row52 1 (by decide) (by decide), row53 1 (by decide) (by decide)]
        · rw [row53 1 (by decide) (by decide), hr, t4']
        · rw [row53 1 (by decide) (by decide), hr, Int.toNat_natCast, x2'.l.h]
          exact t3
      have hs : jx_2' G f v 94 52 = jx_2' G f v 94 53 ∧ 0 < jx_2' G f v 92 3 ∧ jx_2' G f v 92 4 = G 95 f ∧ jc_i K2 3 4 = G 95 f := ⟨by rw [w94, w94'], by omega, s4v, by rw [c3, jc_uI (by decide), h1.1]⟩
    · have ht : G 92 6 = jd_due G v + 3 := by split at q1 <;> omega
      have jj : j = 2 := by rw [ej, if_pos ⟨by omega, by omega⟩]; omega
      subst jj
      refine ⟨K2, _, 0, r1.trans (jk_c2 t1), rG, s2.mono (fun n e => by omega), ?_, fin0 K2 _ x2' (by rw [c3, jc_uI (by decide), e8]) (by rw [c3, jc_uI (by decide), e10, if_pos ⟨by omega, by omega⟩]) (by rw [c3, jc_uI (by decide), e9, n9, y2]), f5 _ r25, Or.inl ⟨rfl, _, rfl, Or.inr x2'⟩⟩
      rw [f13 _ x2']
      exact sp.1.fall
    all_goals
      have b5 := hc.2.1 (5 + 2 * G 95 f) (by omega) (by omega)
      have hh1 := sp.1.half1 sp.2 hp ex3 (hfh.m x2'.l rowf vD) (by rw [rowq _ (by omega) (by omega) 1 (by decide) (by decide), rowf 1 (by decide) (by decide), hr]; exact ho) hs hs2 (by rw [row53 1 (by decide) (by decide), rowf 1 (by decide) (by decide)]) (by rw [o94 _ (by omega), W2]; omega) (by rw [w94, W2])
      rw [W2] at hh1
    · have ht : G 92 6 = jd_due G v + 4 := by split at q1 <;> omega
      have jj : j = 3 := by rw [ej, if_pos ⟨by omega, by omega⟩]; omega
      subst jj
      refine ⟨_, _, 0, r1.trans (jk_c3 hp t1), rG, (s2.mono (fun n e => by omega)).trans (jk_s.u (by decide)), ?_, fin0 _ _ x3 (by rw [jc_uN (by decide), c3, jc_uI (by decide), e8]) (by rw [jc_uN (by decide), c3, jc_uI (by decide), e10, if_pos ⟨by omega, by omega⟩]) (by rw [jc_uN (by decide), c3, jc_uI (by decide), e9, n9, y3]), f5 _ r35, Or.inl ⟨rfl, _, rfl, Or.inr x3⟩⟩
      rw [f13 _ x3, e37]
      exact hh1.fall
    · have jj : j = 4 := by
        rw [ej]
        split at q1
        · rw [if_neg (by omega)]
        · rw [if_neg (by omega)]
      subst jj
      have e37' : jc_i (jc_ui K2 5 (G 95 f) (jc_i K2 3 7)) 3 7 = G 92 3 + 1 := by rw [jc_uN (by decide), e37]
      have s3 : jk_s (fun n => n = 3 ∨ n = 5 ∨ n = 6 ∨ n = 7 ∨ n = 8) K (jc_ui (jc_ui K2 5 (G 95 f) (jc_i K2 3 7)) 6 (G 95 f) (jc_i (jc_ui K2 5 (G 95 f) (jc_i K2 3 7)) 3 7)) := ((s2.mono (fun n e => by omega)).trans (jk_s.u (by decide))).trans (jk_s.u (by decide))
      obtain ⟨K4, u1, u2, u3, u4⟩ := jk_fc35 (p := 9 + 2 * (G 95 f).toNat) hcw ⟨by omega, by omega, by omega⟩ (s3.pg (hc.2.2 (G 95 f) hp.1 hp.2).2.2.1.2.1) (s3.k (by omega) (by omega) hkc)
      have s4 : jk_s (fun n => 3 ≤ n ∧ n < 57) K K4 := (s3.mono (fun n e => by omega)).trans (jk_s.f u2 (by omega) (by omega))
      have k4 : ∀ i, jc_i K4 3 i = jc_i K2 3 i := fun i => by
        rw [u2.2 3 (by omega) (by omega), jc_uN (by decide), jc_uN (by decide)]
      have row3 : ∀ r, r ≠ 4 + 2 * G 95 f → ∀ i, 0 ≤ i → i < 67 → jx_3 G f v 93 (67 * r + i) = jx_2' G f v 93 (67 * r + i) := fun r e i a b => ex3.row e i a b
      have W3 : jx_3 G f v 92 3 = G 92 3 + 1 := x3.2.2.2.1
      have hh2 := hh1.half2 (K' := K4) (G' := jx_4 G f v) (f := f) (fun q a b e => by rw [ex3.2.2.2.1 _ (by omega), ex3.2.2.2.1 _ (by omega)]; exact sp.2 q a b) hp ex4 (hfh.m x3.l (fun i a b => by rw [row3 f (by omega) i a b, rowf i a b]) vD) (by rw [ex3.1 1 (by decide) (by decide), row3 f (by omega) 1 (by decide) (by decide)]) (by rw [ex3.2.2.1, W2, W3]) ⟨u2.1, by rw [u2.2 6 (by omega) (by omega), jc_uH, e37', W3], fun i hi => by rw [u2.2 6 (by omega) (by omega), jc_uI hi, jc_uN (by decide), jc_uN (by decide)], fun n a b c i => by rw [u2.2 n b c, jc_uN a, e37]⟩ ⟨by
        rw [u4, s3.2 _ (by omega), hk.1, hr, row3 f (by omega) 1 (by decide) (by decide), rowf 1 (by decide) (by decide), hr], by
        rw [row3 f (by omega) 1 (by decide) (by decide), rowf 1 (by decide) (by decide), hr, Int.toNat_natCast, x3.l.h]
        exact u3⟩
      have g97 : ∀ n i, n ≠ 97 → jg_u (jx_4 G f v) 97 f 0 n i = jx_4 G f v n i := fun n i h => jg_uN h
      refine ⟨K4, _, 1, r1.trans (jk_c4 hp t1 u1), rG, s4, ?_, ⟨⟨?_, ?_, ?_⟩, ?_, ?_, ?_⟩, ?_, Or.inr ⟨rfl, ?_, _, rfl, x4, fun q a b e => ?_, ?_⟩⟩
      · rw [g97 92 13 (by decide), x4.2.2.2.2.1]
        exact hh2.1.keep (Int.le_refl _) ⟨⟨rfl, rfl, rfl⟩, fun _ _ => rfl, fun _ _ _ _ => rfl⟩ (by rw [g97 92 3 (by decide)]; exact hh2.1.1.1) (by rw [g97 92 3 (by decide)]; exact Int.le_refl _) (g97 92 4 (by decide)) ⟨fun m a b i => g97 m i (by omega), fun i _ => g97 93 i (by decide)⟩ (fun i _ _ => g97 93 i (by decide)) (fun i => g97 94 i (by decide))
      · rw [k4, c3, jc_uI (by decide), e8, g97 92 13 (by decide), x4.2.2.2.2.1]
      · rw [k4, c3, jc_uI (by decide), e9, n9, g97 92 5 (by decide), y4]
      · rw [k4, c3, jc_uI (by decide), e10, g97 92 6 (by decide), z4, z3, z2, z1, x06]
        repeat' split
        all_goals omega
      · rw [g97 92 6 (by decide), z4, z3, z2, z1, x06]
        repeat' split
        all_goals omega
      · rw [g97 92 13 (by decide), x4.2.2.2.2.1]
        unfold jd_due
        split <;> omega
      · rw [g97 92 3 (by decide), x4.2.2.2.1]; omega
      · rw [g97 92 5 (by decide)]; exact r45
      · exact fun q a b => by rw [g97 94 _ (by decide), g97 94 _ (by decide)]; exact hh2.2 q a b
      · rw [ex4.row (by omega) 1 (by decide) (by decide), row3 _ (by omega) 1 (by decide) (by decide), rowq _ (by omega) (by omega) 1 (by decide) (by decide)]
      · rw [ex4.row (by omega) 1 (by decide) (by decide), ex3.1 1 (by decide) (by decide), rowf 1 (by decide) (by decide), hr]
