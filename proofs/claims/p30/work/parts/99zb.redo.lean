/-! RECOVER: one page of a record done again -/
def jrw (G0 G : jg_G) : Prop := jw_s (jg_u G0 113 1 (G 113 1)) G
theorem jrw.refl (G : jg_G) : jrw G G := by
  unfold jrw
  rw [jg_uS rfl]
  exact jw_s.refl G
theorem jrw.n {G0 G : jg_G} (h : jrw G0 G) {n : Nat} (a : 98 ≤ n) (b : n ≠ 113) (j : Int) : G n j = G0 n j := (h.1 n a j).trans (jg_uN b)
theorem jrw.l {G0 G : jg_G} (h : jrw G0 G) : jl_s G0 G := ⟨fun m a b j => h.n a (by omega) j, fun j a => (h.2.1 j a).trans (jg_uN (by decide))⟩
theorem jrw.step {G0 G G1 : jg_G} (h : jrw G0 G) (w : jw_s G G1) : jrw G0 G1 := by
  unfold jrw at *
  rw [w.1 113 (by decide) 1]
  exact h.trans w
theorem jrw.inc {G0 G : jg_G} (h : jrw G0 G) (v : Int) : jrw G0 (jg_u G 113 1 v) := by
  have e : jg_u G 113 1 v 113 1 = v := jg_uH
  unfold jrw at *
  rw [e]
  obtain ⟨a, b, c, d, f⟩ := h
  refine ⟨fun n hn j => ?_, fun j hj => ?_, fun i i1 i2 i3 i4 i5 i6 => ?_, ?_, fun p p0 p1 => ?_⟩
  · by_cases z : n = 113 ∧ j = 1
    · rw [z.1, z.2, jg_uH, jg_uH]
    · have x := a n hn j
      have y : ∀ (H : jg_G) (u : Int), jg_u H 113 1 u n j = H n j := fun H u => if_neg z
      rw [y] at x
      rw [y, y]
      exact x
  · rw [jg_uN (by decide), b j hj, jg_uN (by decide), jg_uN (by decide)]
  · rw [jg_uN (by decide), c i i1 i2 i3 i4 i5 i6, jg_uN (by decide), jg_uN (by decide)]
  · rw [jg_uN (by decide)] at d ⊢
    rw [jg_uN (by decide)]
    exact d
  · have := f p p0 p1
    rw [jg_uN (by decide)] at this ⊢
    rw [jg_uN (by decide)]
    exact this
def jRo (n : Nat) : Prop := jS_n n ∨ n = 85
theorem jRo.hi {n : Nat} (h : 98 ≤ n) : ¬ jRo n := by unfold jRo jS_n; omega
theorem jN.inc {K : jc_K} {G : jg_G} {cv : Int → Nat} {N : Nat} {v w : Int} (h : jN K G cv N) (hx : 98 ≤ K.1.1) : jN (jc_ui K 85 1 w) (jg_u G 113 1 v) cv N := by
  have h1 : jN (jc_ui K 85 1 w) G cv N := h.grow (jk_g.s (S := fun n => n = 85) (jk_s.u rfl)) (fun n hn z => by unfold jN_k at hn; omega) hx
  exact h1.ref (Nat.le_refl _) h.2.1.2.2.2.1 ((jg_uN (by decide)).trans h.2.1.2.2.1) (fun i _ => jg_uN (by decide)) (fun n hn j => jg_uN (by omega)) (fun j _ => jg_uN (by decide)) (fun m j e => jg_uN (by omega))
theorem jredo_p {K0 K : jc_K} {G0 G : jg_G} {cv : Int → Nat} {N r : Nat} {q : Nat} {k p F : Int} (h : jN K G cv N) (w : jrw G0 G) (s : jk_s jRo K0 K) (e85 : jc_i K 85 1 = G 113 1) (b113 : 0 ≤ G 113 1 ∧ G 113 1 < 1000000) (h120 : 98 ≤ K.1.1) (hq : jg_rec K0 G0 r q) (hv : jl_v G0 r) (hr : 1 ≤ r ∧ r ≤ N) (hk : 0 ≤ k ∧ k < G0 105 r) (hp : G0 106 (3 * (r : Int) + k) = p) (hF : jc_i K0 84 p = F ∧ G0 114 p = F ∧ 0 ≤ F) (hno : cv p < r → 1 ≤ F → F ≤ r → ∀ r' : Nat, cv p < r' → r' < r → jh_k G0 r' p = -1) (hP : jP G < 2000000000) : ∃ K' G' b, fc59 K q k r = some (K', b) ∧ (∀ (m : Nat) (l1 : Int), fo206_s (m + 1) 70 G l1 r k = fo206_s m 70 G' l1 r (k + 1)) ∧ jk_s jRo K K' ∧ (∀ i, i ≠ 1 → jc_i K' 85 i = jc_i K 85 i) ∧ jc_i K' 85 1 = G' 113 1 ∧ (0 ≤ G' 113 1 ∧ G' 113 1 ≤ G 113 1 + 1) ∧ ((b = 1 ∧ jN K' G' (if 1 ≤ F ∧ F ≤ r ∧ cv p < r then jcv cv p r else cv) N ∧ jrw G0 G' ∧ jP G' ≤ jP G + 1) ∨ (b = 0 ∧ G' 113 1 = G 113 1 ∧ jX K' G' G ∧ G' 92 3 ≤ jP G)) := by
  have hN := h.2.1.2.2.2.1
  have hl := w.l
  have q120 := hq.1.1.1
  have v3 := hv.2.1
  obtain ⟨cp, ckk⟩ := hv.2.2.1 k hk.1 hk.2
  rw [hp] at cp ckk
  have hq1 : jg_rec K G r q := hq.s s (fun n hn => jRo.hi hn) (hl.a r) (by omega) v3.2
  have hv1 : jl_v G r := hv.a (hl.a r) hr.1
  have e105 : G 105 r = G0 105 r := w.n (by decide) (by decide) _
  have e106 : G 106 (3 * (r : Int) + k) = p := (w.n (by decide) (by decide) _).trans hp
  have f84 : jc_i K 84 p = F := (s.2 84 (by unfold jRo jS_n; omega) p).trans hF.1
  have f114 : G 114 p = F := (w.n (by decide) (by decide) p).trans hF.2.1
  have e30 : fc30 K q k = some (K, p) := by
    unfold fc30
    rw [if_neg (by omega), if_pos hq1.1, hq1.2.1.2.2.2.2.2.2, if_neg (by omega), if_neg (by omega), if_pos ⟨by omega, by omega⟩, hq1.2.2.2.2.1 k hk.1 (by omega), e106]
  have h7 := h.2.1.1
  have unf : ∀ (m : Nat) (l1 : Int), fo206_s (m + 1) 70 G l1 r k = (if F < 1 then (fo206_s m 70 G l1 r (k + 1)) else (if (r : Int) < F then (fo206_s m 70 G l1 r (k + 1)) else ((fo168 G p).bind fun x14 => if (x14.1) 92 7 = 0 then (jo_l (fr_fo (x14.1) p) fun x18 => if 0 ≤ ((67 * x18) + 1) ∧ ((67 * x18) + 1) < 305118 then if (r : Int) ≤ (x14.1) 93 ((67 * x18) + 1) then (if -2147483648 ≤ (k + 1) ∧ (k + 1) < 2147483648 then fo206_s m 70 (x14.1) l1 r (k + 1) else none) else ((fo173 (x14.1) r k).bind fun x23 => if -2147483648 ≤ (k + 1) ∧ (k + 1) < 2147483648 then fo206_s m 70 (jg_u (x23.1) 113 1 (jb_m (((x23.1) 113 1) + 1))) l1 r (k + 1) else none) else none) else (if -2147483648 ≤ (k + 1) ∧ (k + 1) < 2147483648 then fo206_s m 70 (x14.1) l1 r (k + 1) else none)))) := fun m l1 => by
    conv => lhs; unfold fo206_s
    rw [if_neg (by decide), if_pos rfl, if_pos (by omega), e105, if_neg (by omega), if_pos h7, if_pos (by omega), e106, if_pos cp, f114, if_pos (show -2147483648 ≤ k + 1 ∧ k + 1 < 2147483648 by omega)]
  by_cases sk : 1 ≤ F ∧ F ≤ r
  case neg =>
    -- it isn't looked at
    refine ⟨K, G, 1, ?_, fun m l1 => ?_, jk_s.refl, fun _ _ => rfl, e85, by omega, Or.inl ⟨rfl, ?_, w, by omega⟩⟩
    · unfold fc59
      rw [if_pos hq1.1, e30, jo_bs]
      dsimp only
      rw [if_neg (by omega), if_neg (by omega), if_pos cp, f84]
      by_cases z : F = 0
      · rw [if_pos z]
      · rw [if_neg z, if_neg (by omega)]
    · rw [unf m l1]
      by_cases z : F < 1
      · rw [if_pos z]
      · rw [if_neg z, if_pos (by omega)]
    · rw [if_neg (fun z => sk ⟨z.1, z.2.1⟩)]
      exact h
  obtain ⟨K1, G1, b, u1, u2, u3, u4⟩ := jN_use h cp (by omega)
  have c59 : fc59 K q k r = ((fc5 K p).bind fun x9 => if x9.2 = 0 then (some (x9.1, 0)) else ((fc3 (x9.1) p).bind fun x12 => if x12.2 = 0 then (some (x12.1, 1)) else (if jc_pg (x12.1) (x12.2) then if (r : Int) ≤ jc_i (x12.1) (x12.2) 1 then (some (x12.1, 1)) else ((fc7 (x12.1) p r).bind fun x17 => if jc_rc (x17.1) q then (fc31 (x17.1) q k (x12.2)).bind fun x20 => some (jc_ui (x20.1) 85 1 (jb_m ((jc_i (x20.1) 85 1) + 1)), 1) else none) else none))) := by
    unfold fc59
    rw [if_pos hq1.1, e30, jo_bs]
    dsimp only
    rw [if_neg (by omega), if_neg (by omega), if_pos cp, f84, if_neg (by omega), if_pos sk.2]
  have unf2 : ∀ (m : Nat) (l1 : Int), fo206_s (m + 1) 70 G l1 r k = (if G1 92 7 = 0 then (jo_l (fr_fo G1 p) fun x18 => if 0 ≤ ((67 * x18) + 1) ∧ ((67 * x18) + 1) < 305118 then if (r : Int) ≤ G1 93 ((67 * x18) + 1) then (fo206_s m 70 G1 l1 r (k + 1)) else ((fo173 G1 r k).bind fun x23 => fo206_s m 70 (jg_u (x23.1) 113 1 (jb_m (((x23.1) 113 1) + 1))) l1 r (k + 1)) else none) else (fo206_s m 70 G1 l1 r (k + 1))) := fun m l1 => by
    have b1 : -2147483648 ≤ k + 1 ∧ k + 1 < 2147483648 := by omega
    rw [unf m l1, if_neg (by omega), if_neg (by omega), u2, jo_bs]
    simp only [if_pos b1]
  have s1 : jk_s jRo K K1 := u3.mono (fun n e => Or.inl e)
  have k85 : ∀ i, jc_i K1 85 i = jc_i K 85 i := fun i => u3.2 85 (by unfold jS_n; omega) i
  rw [c59, u1, jo_bs]
  dsimp only
  rcases u4 with ⟨rfl, n1, w1, P1, f1⟩ | ⟨rfl, x1, P1⟩
  · have g113 : G1 113 1 = G 113 1 := w1.1 113 (by decide) 1
    have f2 := fr_fo_r G1 p
    have hf95 := f2.2.2 f1
    obtain ⟨t1, t2, t3, t4, t5, t6, t7, t8, t9⟩ := jN_seen n1 cp
    have ro : fr_ro G1 p = fr_fo G1 p := by unfold fr_ro; rw [if_neg (by omega)]
    have eq : jq G1 p = 71 + 2 * (fr_fo G1 p).toNat := by unfold jq; rw [if_neg (by omega)]
    rw [ro] at t7
    have ur : ∀ (m : Nat) (l1 : Int), fo206_s (m + 1) 70 G l1 r k = (if (r : Int) ≤ cv p then (fo206_s m 70 G1 l1 r (k + 1)) else ((fo173 G1 r k).bind fun x23 => fo206_s m 70 (jg_u (x23.1) 113 1 (jb_m (((x23.1) 113 1) + 1))) l1 r (k + 1))) := fun m l1 => by
      rw [unf2 m l1, if_pos n1.2.1.1, jo_le, if_pos (by omega), t7]
    rw [if_neg (by decide), t1, jo_bs]
    dsimp only
    rw [if_neg (show ¬ jq G1 p = 0 by omega), if_pos t3.1, t4]
    by_cases c : (r : Int) ≤ cv p
    · rw [if_pos c]
      refine ⟨K1, G1, 1, rfl, fun m l1 => by rw [ur m l1, if_pos c], s1, fun i _ => k85 i, by rw [k85, g113]; exact e85, by omega, Or.inl ⟨rfl, ?_, w.step w1, by omega⟩⟩
      rw [if_neg (fun z => by omega)]
      exact n1
    · rw [if_neg c]
      have la : jl_s G G1 := w1.l
      have l := fun (m : Nat) (a : 98 ≤ m) (j : Int) => w1.1 m a j
      have hqG1 : jg_rec K1 G1 r q := hq1.s u3 (fun n hn => by unfold jS_n; omega) (la.a r) (by omega) (by rw [e105]; exact v3.2)
      have hvG1 : jl_v G1 r := hv1.a (la.a r) hr.1
      obtain ⟨K2, K3, G3, c1, c2, c3, c4, c5, c6, c7, c8, c9, c10⟩ := jN_change (r := r) (p := p) (k := k) (q := q) n1 ⟨f1, f2.2.1⟩ hf95 cp.1 hr hqG1 hvG1.2.1.2 hk.1 (by rw [l 105 (by decide), e105]; exact hk.2) (by rw [l 106 (by decide)]; exact e106) (by rw [((la.a r).k (by omega) (Int.le_refl _)), ((hl.a r).k (by omega) (Int.le_refl _))]; exact ckk) (by omega) (fun r' x y => by
        rw [((la.a r).k (by omega) (by omega)), ((hl.a r).k (by omega) (by omega))]
        exact hno (by omega) sk.1 sk.2 r' x y) (hvG1.2.2.2.2.2 p cp.1 cp.2) (fun z => by
        have := hvG1.2.2.2.1 z
        exact ⟨hvG1.1.1, this.1, this.2.1, this.2.2 p (by rw [((la.a r).k (by omega) (Int.le_refl _)), ((hl.a r).k (by omega) (Int.le_refl _)), ckk]; omega)⟩) (fun z => hvG1.2.2.2.2.1 (by rw [l 105 (by decide), e105]; omega) z)
      have s3 : jk_s jRo K1 K3 := c6.mono (fun n e => Or.inl e)
      have k85' : ∀ i, jc_i K3 85 i = jc_i K 85 i := fun i => by rw [c6.2 85 (by unfold jS_n; omega), k85]
      have g113' : G3 113 1 = G 113 1 := (c7.1 113 (by decide) 1).trans g113
      have m1 : jb_m (G 113 1 + 1) = G 113 1 + 1 := jb_m_e ⟨by omega, by omega⟩
      rw [c1, jo_bs]
      dsimp only
      rw [if_pos (c2.rc hqG1.1), eq, c3, jo_bs]
      dsimp only
      rw [k85', e85, m1]
      have hx3 : 98 ≤ K3.1.1 := by rw [s3.1.1, s1.1.1]; exact h120
      refine ⟨_, jg_u G3 113 1 (G 113 1 + 1), 1, rfl, fun m l1 => ?_, (s1.trans s3).trans (jk_s.u (Or.inr rfl)), fun i hi => by rw [jc_uI hi]; exact k85' i, by rw [jc_uH, jg_uH], by rw [jg_uH]; omega, Or.inl ⟨rfl, ?_, ((w.step w1).step c7).inc _, ?_⟩⟩
      · rw [ur m l1, if_neg c, c4, jo_bs]
        dsimp only
        rw [g113', m1]
      · rw [if_pos ⟨sk.1, sk.2, by omega⟩]
        exact c5.inc hx3
      · have : jP (jg_u G3 113 1 (G 113 1 + 1)) = jP G3 := jP_same (fun i => jg_uN (by decide)) (jg_uN (by decide))
        omega
  · have g113 : G1 113 1 = G 113 1 := by
      obtain ⟨X, e, wx, _⟩ := x1.2
      rw [e, (fr_fw_k X).2 113 (by decide)]
      exact wx.1 113 (by decide) 1
    rw [if_pos rfl]
    refine ⟨K1, G1, 0, rfl, fun m l1 => ?_, s1, fun i _ => k85 i, by rw [k85, g113]; exact e85, by omega, Or.inr ⟨rfl, g113, x1, P1⟩⟩
    rw [unf2 m l1, if_neg (by rw [x1.c]; decide)]
