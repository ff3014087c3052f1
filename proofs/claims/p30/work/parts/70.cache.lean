/-! THE CACHE: a page used, class and reference alike. cv p: the version of p that stands (in its frame, else on the disk) -/
def jf_d (G : jg_G) (c : Nat) (p f : Int) : Prop := (G 97 f = 0 ∧ G 93 (67 * (5 + 2 * p) + 1) = c) ∨ ∃ d : Nat, G 97 f = d ∧ 0 < d ∧ G 93 (67 * (5 + 2 * p) + 1) < d ∧ d ≤ c ∧ jh_k G d p ≠ -1 ∧ ∀ r : Nat, G 93 (67 * (5 + 2 * p) + 1) < r → r < d → jh_k G r p = -1
def jf_g (K : jc_K) (G : jg_G) (cv : Int → Nat) (N : Nat) : Prop := jf_a K G ∧ (∀ f, 0 ≤ f → f < 4 → 0 ≤ G 95 f → G 93 (67 * f + 1) = cv (G 95 f) ∧ jd_h G N f (G 95 f) ∧ jd_k K (71 + 2 * f.toNat) G f (G 95 f) ∧ jf_d G (cv (G 95 f)) (G 95 f) f) ∧ (∀ f, 0 ≤ f → f < 4 → G 95 f < 0 → G 97 f = 0) ∧ ∀ p, 0 ≤ p → p < 24 → (∀ f, 0 ≤ f → f < 4 → G 95 f ≠ p) → G 93 (67 * (5 + 2 * p) + 1) = cv p
/-- the state while there is no crash -/
def jN (K : jc_K) (G : jg_G) (cv : Int → Nat) (N : Nat) : Prop := (jdc K G (G 92 13) ∧ jdn K G ∧ jd_U G) ∧ (G 92 7 = 0 ∧ jb_r (G 92 5) ∧ G 92 12 = N ∧ N ≤ 1100 ∧ G 92 13 ≤ N) ∧ jf_g K G cv N
/-- writings done, and frames that differ -/
def jP (G : jg_G) : Int := G 92 3 + ((if G 97 0 = 0 then 0 else 1) + (if G 97 1 = 0 then 0 else 1) + (if G 97 2 = 0 then 0 else 1) + (if G 97 3 = 0 then 0 else 1))
theorem jP_ge (G : jg_G) : G 92 3 ≤ jP G := by
  unfold jP
  repeat' split
  all_goals omega
theorem jP_ge1 {G : jg_G} {f : Int} (h : 0 ≤ f ∧ f < 4) (hd : G 97 f ≠ 0) : G 92 3 + 1 ≤ jP G := by
  unfold jP
  have : f = 0 ∨ f = 1 ∨ f = 2 ∨ f = 3 := by omega
  rcases this with rfl | rfl | rfl | rfl
  · rw [if_neg hd]; repeat' split
    all_goals omega
  · rw [if_neg hd]; repeat' split
    all_goals omega
  · rw [if_neg hd]; repeat' split
    all_goals omega
  · rw [if_neg hd]; repeat' split
    all_goals omega
theorem jP_clean {G G' : jg_G} {f : Int} (h : 0 ≤ f ∧ f < 4) (hd : G 97 f ≠ 0) (h0 : G' 97 f = 0) (ho : ∀ i, i ≠ f → G' 97 i = G 97 i) (h3 : G' 92 3 = G 92 3 + 1) : jP G' = jP G := by
  unfold jP
  have : f = 0 ∨ f = 1 ∨ f = 2 ∨ f = 3 := by omega
  rcases this with rfl | rfl | rfl | rfl
  · rw [h0, h3, if_neg hd, if_pos rfl, ho 1 (by decide), ho 2 (by decide), ho 3 (by decide)]; omega
  · rw [h0, h3, if_neg hd, if_pos rfl, ho 0 (by decide), ho 2 (by decide), ho 3 (by decide)]; omega
  · rw [h0, h3, if_neg hd, if_pos rfl, ho 0 (by decide), ho 1 (by decide), ho 3 (by decide)]; omega
  · rw [h0, h3, if_neg hd, if_pos rfl, ho 0 (by decide), ho 1 (by decide), ho 2 (by decide)]; omega
theorem jP_same {G G' : jg_G} (h : ∀ i, G' 97 i = G 97 i) (h3 : G' 92 3 = G 92 3) : jP G' = jP G := by
  unfold jP
  rw [h, h, h, h, h3]
/-- all but disk and cache is as it was -/
def jw_s (G X : jg_G) : Prop := (∀ n, 98 ≤ n → ∀ j, X n j = G n j) ∧ (∀ j, 67 * 54 ≤ j → X 93 j = G 93 j) ∧ (∀ i, i ≠ 3 → i ≠ 4 → i ≠ 5 → i ≠ 6 → i ≠ 8 → i ≠ 13 → X 92 i = G 92 i) ∧ G 92 13 ≤ X 92 13 ∧ jd_m G X
theorem jw_s.refl (G : jg_G) : jw_s G G := ⟨fun _ _ _ => rfl, fun _ _ => rfl, fun _ _ _ _ _ _ _ => rfl, Int.le_refl _, jd_m.refl G⟩
theorem jw_s.trans {G X Y : jg_G} (h : jw_s G X) (h2 : jw_s X Y) : jw_s G Y := ⟨fun n a j => (h2.1 n a j).trans (h.1 n a j), fun j a => (h2.2.1 j a).trans (h.2.1 j a), fun i a b c d e f => (h2.2.2.1 i a b c d e f).trans (h.2.2.1 i a b c d e f), Int.le_trans h.2.2.2.1 h2.2.2.2.1, h.2.2.2.2.trans h2.2.2.2.2⟩
theorem jw_s.l {G X : jg_G} (h : jw_s G X) : jl_s G X := ⟨fun m a _ j => h.1 m a j, h.2.1⟩
/-- fallen, in the midst of a method: what the class still has to do is fall() -/
def jX (K : jc_K) (G' G : jg_G) : Prop := (jdc K G' (G' 92 13) ∧ jdn K G' ∧ jb_r (G' 92 5)) ∧ ∃ X, G' = fr_fw X ∧ jw_s G X ∧ X 92 13 ≤ X 92 12
def jS_n (n : Nat) : Prop := (3 ≤ n ∧ n < 57) ∨ (66 ≤ n ∧ n < 79)
theorem jc_uS {K : jc_K} {n : Nat} {i v : Int} (h : jc_i K n i = v) : jc_ui K n i v = K := Prod.ext rfl (Prod.ext rfl (Prod.ext (jg_uS h) rfl))
theorem jd_h.s {G G' : jg_G} {D r p : Int} (h : jd_h G D r p) (hl : jl_s G G') (hr : ∀ j, 67 * r ≤ j → j < 67 * r + 67 → G' 93 j = G 93 j) : jd_h G' D r p := h.m hl (fun j a b => hr _ (by omega) (by omega)) (Int.le_refl _)
theorem jd_k.s {K K' : jc_K} {q : Nat} {G G' : jg_G} {r p : Int} {S : Nat → Prop} (h : jd_k K q G r p) (hl : jl_s G G') (hr : ∀ j, 67 * r ≤ j → j < 67 * r + 67 → G' 93 j = G 93 j) (s : jk_s S K K') (h0 : ¬ S q) (h1 : ¬ S (q + 1)) : jd_k K' q G' r p := h.m hl (hr _ (by omega) (by omega)) (s.2 q h0 1) (fun _ hc => s.k h0 h1 hc)
theorem jf_d.s {G G' : jg_G} {c : Nat} {p f : Int} (h : jf_d G c p f) (hl : jl_s G G') (h97 : G' 97 f = G 97 f) (h5 : G' 93 (67 * (5 + 2 * p) + 1) = G 93 (67 * (5 + 2 * p) + 1)) : jf_d G' c p f := by
  unfold jf_d
  rw [h97, h5]
  rcases h with h | ⟨d, a, b, e, k, t, u⟩
  · exact Or.inl h
  · refine Or.inr ⟨d, a, b, e, k, ?_, fun r r0 r1 => ?_⟩
    · rw [(hl.a d).k (by omega) (Int.le_refl _)]; exact t
    · have h5r : (0 : Int) ≤ G 93 (67 * (5 + 2 * p) + 1) ∨ ¬ (0 : Int) ≤ G 93 (67 * (5 + 2 * p) + 1) := Decidable.em _
      by_cases e0 : r = 0
      · have e9 : jh_k G' ((r : Nat) : Int) p = jh_k G ((r : Nat) : Int) p := by
          unfold jh_k
          rw [hl.1 105 (by decide) (by decide), hl.1 106 (by decide) (by decide), hl.1 106 (by decide) (by decide), hl.1 106 (by decide) (by decide)]
        rw [e9]
        exact u r r0 r1
      · rw [(hl.a r).k (by omega) (Int.le_refl _)]; exact u r r0 r1
/-- the hand moved, or who was used: the state is kept -/
theorem jN.c {K K1 : jc_K} {G G1 : jg_G} {cv : Int → Nat} {N : Nat} (h : jN K G cv N) (ha : jf_a K1 G1) (hc : jf_c K K1 G G1) : jN K1 G1 cv N := by
  obtain ⟨⟨a1, a2, a3⟩, ⟨b1, b2, b3, b4, b5⟩, c1, c2, c3, c4⟩ := h
  obtain ⟨⟨s, s66⟩, g, g92⟩ := hc
  have hl : jl_s G G1 := ⟨fun m a b j => g m (by omega) (by omega) j, fun j _ => g 93 (by decide) (by decide) j⟩
  refine ⟨⟨?_, ?_, fun p a b => by rw [g 94 (by decide) (by decide), g 94 (by decide) (by decide)]; exact a3 p a b⟩, ⟨by rw [g92 7 (by decide)]; exact b1, by rw [g92 5 (by decide)]; exact b2, by rw [g92 12 (by decide)]; exact b3, b4, by rw [g92 13 (by decide)]; exact b5⟩, ha, fun f f0 f1 hf => ?_, fun f f0 f1 hf => ?_, fun p p0 p1 hp => ?_⟩
  · rw [g92 13 (by decide)]
    exact a1.keep (Int.le_refl _) ⟨s.1, fun i _ => s.2 3 (by decide) i, fun n a b i => s.2 n (by omega) i⟩ (by rw [s.2 3 (by decide), g92 3 (by decide)]; exact a1.1.1) (by rw [g92 3 (by decide)]; exact Int.le_refl _) (g92 4 (by decide)) hl (fun j _ _ => g 93 (by decide) (by decide) j) (fun i => g 94 (by decide) (by decide) i)
  · obtain ⟨⟨n1, n2, n3⟩, n4, n5, n6⟩ := a2
    refine ⟨⟨?_, ?_, ?_⟩, ?_, ?_, ?_⟩
    · rw [s.2 3 (by decide), g92 13 (by decide)]; exact n1
    · rw [s.2 3 (by decide), g92 5 (by decide)]; exact n2
    · rw [s.2 3 (by decide), g92 6 (by decide)]; exact n3
    · rw [g92 6 (by decide)]; exact n4
    · rw [g92 13 (by decide)]; exact n5
    · rw [g92 3 (by decide)]; exact n6
  · rw [g 95 (by decide) (by decide)] at hf ⊢
    obtain ⟨d1, d2, d3, d4⟩ := c2 f f0 f1 hf
    refine ⟨by rw [g 93 (by decide) (by decide)]; exact d1, d2.s hl (fun j _ _ => g 93 (by decide) (by decide) j), d3.s hl (fun j _ _ => g 93 (by decide) (by decide) j) s (by omega) (by omega), d4.s hl (g 97 (by decide) (by decide) f) (g 93 (by decide) (by decide) _)⟩
  · rw [g 95 (by decide) (by decide)] at hf
    rw [g 97 (by decide) (by decide)]
    exact c3 f f0 f1 hf
  · rw [g 93 (by decide) (by decide)]
    exact c4 p p0 p1 (fun f f0 f1 => by rw [← g 95 (by decide) (by decide)]; exact hp f f0 f1)
/-- a page comes into a frame whose own does not differ -/
theorem jN_in {K : jc_K} {G : jg_G} {cv : Int → Nat} {N : Nat} {f p : Int} (h : jN (jc_ui K 70 f 0) G cv N) (hf : 0 ≤ f ∧ f < 4) (hp : 0 ≤ p ∧ p < 24) (hno : ∀ f, 0 ≤ f → f < 4 → G 95 f ≠ p) (h97 : G 97 f = 0) : ∃ K' G', fc5_65 K p f = some (K', 1) ∧ fo168_100 G p f = some (G', 0) ∧ jN K' G' cv N ∧ jk_s jS_n K K' ∧ jw_s G G' ∧ jP G' = jP G ∧ fr_fo G' p = f := by
  obtain ⟨⟨a1, a2, a3⟩, ⟨b1, b2, b3, b4, b5⟩, ⟨⟨ca1, ca2, ca3⟩, c2, c3, c4⟩⟩ := h
  have sK : jk_s (fun n => n = 70) K (jc_ui K 70 f 0) := jk_s.u rfl
  obtain ⟨p1, p2, p3, p4, p5⟩ := a1.2.2 p hp.1 hp.2
  obtain ⟨⟨cf1, cf2, cf3⟩, cf4, cf5, cf6⟩ := ca2 f hf.1 hf.2
  have untorn := a3 p hp.1 hp.2
  have nn := p4 untorn
  obtain ⟨v, v1, v2, v3, v4, v5⟩ := p2.2
  have hpgK : jc_pg K (71 + 2 * f.toNat) := cf6
  have hk9 : jp_k K (9 + 2 * p.toNat) (jh G v p) := by
    have := p3.2
    rw [v1, Int.toNat_natCast] at this
    obtain ⟨t1, t2, t3, t4⟩ := this
    exact ⟨t1, (jc_uN (by omega)).symm.trans t2, (jc_uN (by omega)).symm.trans t3, fun i i0 i1 => (jc_uN (by omega)).symm.trans (t4 i i0 i1)⟩
  have hk91 : jc_i K (9 + 2 * p.toNat) 1 = v := ((jc_uN (by omega)).symm.trans p3.1).trans v1
  obtain ⟨K1, r1, r2, r3, r4⟩ := jk_fc35 (p := 71 + 2 * f.toNat) v4 ⟨by omega, by omega, by omega⟩ hpgK hk9
  have e65 : fc5_65 K p f = some (jc_ui (jc_ui (jc_ui K1 68 f p) 70 f 0) 69 f 1, 1) := by
    unfold fc5_65
    rw [if_pos hf, if_pos hp, r1, jo_bs]
    unfold fc5_97
    rw [if_pos hf]
  have e100 : fo168_100 G p f = some (jg_u (fr_copies (jg_u G 95 f p) (4 + 2 * p) f) 96 f 1, 0) := by
    unfold fo168_100
    rw [if_pos b1, if_pos hf, if_pos ⟨by omega, by omega⟩, if_pos ⟨by omega, by omega⟩]
    unfold fo168_125
    rw [if_pos hf]
  have s1 : jk_s (fun n => n = 68 ∨ n = 69 ∨ n = 70 ∨ n = 71 + 2 * f.toNat ∨ n = 71 + 2 * f.toNat + 1) K (jc_ui (jc_ui (jc_ui K1 68 f p) 70 f 0) 69 f 1) :=
    (((jk_s.f r2 (by omega) (by omega)).trans (jk_s.u (Or.inl rfl))).trans (jk_s.u (by omega))).trans (jk_s.u (by omega))
  generalize hK' : jc_ui (jc_ui (jc_ui K1 68 f p) 70 f 0) 69 f 1 = K' at e65 s1
  have gc : ∀ n j, (n ≠ 93 ∨ j < 67 * f ∨ 67 * f + 67 ≤ j) → n ≠ 95 → n ≠ 96 → jg_u (fr_copies (jg_u G 95 f p) (4 + 2 * p) f) 96 f 1 n j = G n j := fun n j hn h5 h6 => by
    rw [jg_uN h6]
    unfold fr_copies
    rw [if_neg (by omega), jg_uN h5]
  have gr : ∀ j, 0 ≤ j → j < 67 → jg_u (fr_copies (jg_u G 95 f p) (4 + 2 * p) f) 96 f 1 93 (67 * f + j) = G 93 (67 * (4 + 2 * p) + j) := fun j j0 j1 => by
    rw [jg_uN (by decide)]
    unfold fr_copies
    rw [if_pos ⟨rfl, by omega, by omega⟩, jg_uN (by decide)]
    congr 1
    omega
  have g95 : ∀ i, jg_u (fr_copies (jg_u G 95 f p) (4 + 2 * p) f) 96 f 1 95 i = if i = f then p else G 95 i := fun i => by
    rw [jg_uN (by decide)]
    unfold fr_copies
    rw [if_neg (by omega)]
    by_cases e : i = f
    · rw [e, jg_uH, if_pos rfl]
    · rw [jg_uI e, if_neg e]
  have g96 : ∀ i, jg_u (fr_copies (jg_u G 95 f p) (4 + 2 * p) f) 96 f 1 96 i = if i = f then 1 else G 96 i := fun i => by
    by_cases e : i = f
    · rw [e, jg_uH, if_pos rfl]
    · rw [jg_uI e, if_neg e]
      unfold fr_copies
      rw [if_neg (by omega), jg_uN (by decide)]
  generalize jg_u (fr_copies (jg_u G 95 f p) (4 + 2 * p) f) 96 f 1 = G' at e100 gc gr g95 g96
  have g92 : ∀ i, G' 92 i = G 92 i := fun i => gc 92 i (Or.inl (by decide)) (by decide) (by decide)
  have g97 : ∀ i, G' 97 i = G 97 i := fun i => gc 97 i (Or.inl (by decide)) (by decide) (by decide)
  have hw : jw_s G G' := ⟨fun n a j => gc n j (Or.inl (by omega)) (by omega) (by omega), fun j hj => gc 93 j (by omega) (by decide) (by decide), fun i _ _ _ _ _ _ => g92 i, by rw [g92]; exact Int.le_refl _, jd_m.same (fun j a b => gc 93 j (by omega) (by decide) (by decide))⟩
  have hl := hw.l
  have k68 : ∀ i, jc_i K' 68 i = if i = f then p else jc_i (jc_ui K 70 f 0) 68 i := fun i => by
    rw [← hK', jc_uN (by decide), jc_uN (by decide)]
    by_cases e : i = f
    · rw [e, jc_uH, if_pos rfl]
    · rw [jc_uI e, if_neg e, r2.2 68 (by omega) (by omega), jc_uN (by decide)]
  have k69 : ∀ i, jc_i K' 69 i = if i = f then 1 else jc_i (jc_ui K 70 f 0) 69 i := fun i => by
    rw [← hK']
    by_cases e : i = f
    · rw [e, jc_uH, if_pos rfl]
    · rw [jc_uI e, if_neg e, jc_uN (by decide), jc_uN (by decide), r2.2 69 (by omega) (by omega), jc_uN (by decide)]
  have k70 : ∀ i, jc_i K' 70 i = jc_i (jc_ui K 70 f 0) 70 i := fun i => by
    rw [← hK', jc_uN (by decide)]
    by_cases e : i = f
    · rw [e, jc_uH, jc_uH]
    · rw [jc_uI e, jc_uN (by decide), r2.2 70 (by omega) (by omega), jc_uI e]
  have kp : jp_k K' (71 + 2 * f.toNat) (jh G v p) ∧ jc_i K' (71 + 2 * f.toNat) 1 = v := by
    rw [← hK']
    have u : jk_s (fun n => n = 68 ∨ n = 70 ∨ n = 69) K1 (jc_ui (jc_ui (jc_ui K1 68 f p) 70 f 0) 69 f 1) := ((jk_s.u (Or.inl rfl)).trans (jk_s.u (by omega))).trans (jk_s.u (by omega))
    exact ⟨u.k (by omega) (by omega) r3, by rw [u.2 _ (by omega), r4, hk91]⟩
  have s2 : jk_s (fun n => n = 68 ∨ n = 69 ∨ n = 70 ∨ n = 71 + 2 * f.toNat ∨ n = 71 + 2 * f.toNat + 1) (jc_ui K 70 f 0) K' := ⟨s1.1, fun n hn i => (s1.2 n hn i).trans (jc_uN (by omega)).symm⟩
  have hcv : (v : Int) = cv p := by rw [← v1]; exact c4 p hp.1 hp.2 hno
  refine ⟨K', G', e65, e100, ⟨⟨?_, ?_, fun q q0 q1 => by rw [gc 94 _ (Or.inl (by decide)) (by decide) (by decide), gc 94 _ (Or.inl (by decide)) (by decide) (by decide)]; exact a3 q q0 q1⟩, ⟨by rw [g92]; exact b1, by rw [g92]; exact b2, by rw [g92]; exact b3, b4, by rw [g92]; exact b5⟩, ⟨⟨?_, ?_, ?_⟩, ?_, ?_, ?_⟩⟩, s1.mono (fun n e => by unfold jS_n; omega), hw, jP_same g97 (g92 3), ?_⟩
  · rw [g92]
    exact a1.keep (Int.le_refl _) ⟨s2.1, fun i _ => s2.2 3 (by omega) i, fun n a b i => s2.2 n (by omega) i⟩ (by rw [s2.2 3 (by omega), g92]; exact a1.1.1) (by rw [g92]; exact Int.le_refl _) (g92 4) hl (fun j _ _ => gc 93 j (by omega) (by decide) (by decide)) (fun i => gc 94 i (Or.inl (by decide)) (by decide) (by decide))
  · obtain ⟨⟨n1, n2, n3⟩, n4, n5, n6⟩ := a2
    refine ⟨⟨?_, ?_, ?_⟩, ?_, ?_, ?_⟩
    · rw [s2.2 3 (by omega), g92]; exact n1
    · rw [s2.2 3 (by omega), g92]; exact n2
    · rw [s2.2 3 (by omega), g92]; exact n3
    · rw [g92]; exact n4
    · rw [g92]; exact n5
    · rw [g92]; exact n6
  · rw [s2.2 66 (by omega), g92]; exact ca1
  · intro i i0 i1
    obtain ⟨⟨x1, x2, x3⟩, x4, x5, x6⟩ := ca2 i i0 i1
    rw [k68, k69, k70, g95, g96, g97]
    refine ⟨⟨?_, ?_, x3⟩, ?_, ?_, s2.pg x6⟩
    · by_cases e : i = f
      · rw [if_pos e, if_pos e]
      · rw [if_neg e, if_neg e]; exact x1
    · by_cases e : i = f
      · rw [if_pos e, if_pos e]
      · rw [if_neg e, if_neg e]; exact x2
    · by_cases e : i = f
      · rw [if_pos e]; exact Or.inr rfl
      · rw [if_neg e]; exact x4
    · by_cases e : i = f
      · rw [if_pos e]; omega
      · rw [if_neg e]; exact x5
  · intro i j i0 i1 j0 j1 hi hij
    rw [g95] at hi hij
    rw [g95] at hij
    by_cases e1 : i = f
    · by_cases e2 : j = f
      · rw [e1, e2]
      · rw [if_pos e1, if_neg e2] at hij
        exact absurd hij.symm (hno j j0 j1)
    · by_cases e2 : j = f
      · rw [if_neg e1, if_pos e2] at hij
        exact absurd hij (hno i i0 i1)
      · rw [if_neg e1] at hi
        rw [if_neg e1, if_neg e2] at hij
        exact ca3 i j i0 i1 j0 j1 hi hij
  · intro i i0 i1 hi
    by_cases e : i = f
    · rw [e, g95, if_pos rfl]
      refine ⟨?_, ?_, ⟨?_, ?_⟩, Or.inl ⟨by rw [g97]; exact h97, ?_⟩⟩
      · rw [gr 1 (by decide) (by decide), nn, v1]; exact hcv
      · obtain ⟨v', w1, w2, w3, w4, w5⟩ := p2.1
        exact (show jd_h G N (4 + 2 * p) p from ⟨v', w1, by omega, w3, w4, w5⟩).m hl gr (Int.le_refl _)
      · rw [kp.2, gr 1 (by decide) (by decide), nn, v1]
      · rw [gr 1 (by decide) (by decide), nn, v1, Int.toNat_natCast, hl.h]; exact kp.1
      · rw [gc 93 _ (by omega) (by decide) (by decide), v1]; exact hcv
    · rw [g95, if_neg e] at hi ⊢
      obtain ⟨d1, d2, d3, d4⟩ := c2 i i0 i1 hi
      have hb := (ca2 i i0 i1).2.2.1
      refine ⟨by rw [gc 93 _ (by omega) (by decide) (by decide)]; exact d1, d2.s hl (fun j _ _ => gc 93 j (by omega) (by decide) (by decide)), d3.s hl (fun j _ _ => gc 93 j (by omega) (by decide) (by decide)) s2 (by omega) (by omega), d4.s hl (g97 i) (gc 93 _ (by omega) (by decide) (by decide))⟩
  · intro i i0 i1 hi
    rw [g97]
    by_cases e : i = f
    · rw [e]; exact h97
    · rw [g95, if_neg e] at hi
      exact c3 i i0 i1 hi
  · intro q q0 q1 hq
    rw [gc 93 _ (by omega) (by decide) (by decide)]
    have hqp : q ≠ p := fun z => hq f hf.1 hf.2 (by rw [g95, if_pos rfl, z])
    by_cases e : G 95 f = q
    · have d := (c2 f hf.1 hf.2 (by omega)).2.2.2
      rw [e] at d
      rcases d with d | ⟨d, x, y, _⟩
      · exact d.2
      · rw [h97] at x
        omega
    · refine c4 q q0 q1 (fun i i0 i1 => ?_)
      by_cases e2 : i = f
      · rw [e2]; exact e
      · have := hq i i0 i1
        rw [g95, if_neg e2] at this
        exact this
  · refine fr_fo_is (fun i j i0 i1 j0 j1 hi hij => ?_) hp.1 hf.1 hf.2 (by rw [g95, if_pos rfl])
    rw [g95] at hi hij
    rw [g95] at hij
    by_cases e1 : i = f
    · by_cases e2 : j = f
      · rw [e1, e2]
      · rw [if_pos e1, if_neg e2] at hij
        exact absurd hij.symm (hno j j0 j1)
    · by_cases e2 : j = f
      · rw [if_neg e1, if_pos e2] at hij
        exact absurd hij (hno i i0 i1)
      · rw [if_neg e1] at hi
        rw [if_neg e1, if_neg e2] at hij
        exact ca3 i j i0 i1 j0 j1 hi hij
