/-! RECOVER: tidying, the doing again -/
def jrk3 (K : jc_K) : Option (jc_K × (Int ⊕ Nat)) := (fc60 K).bind fun x14 => if x14.2 = 0 then ((fc140 (x14.1) (-4)).bind fun x28 => some (x28.1, .inl (x28.2))) else jrk4 (x14.1)
def jrg3 (G : jg_G) : Option (jg_G × Int) := (fo210 G).bind fun x10 => if (x10.1) 92 7 = 0 then jrg4 (x10.1) else (some (x10.1, (-4)))
def jrk2 (K : jc_K) : Option (jc_K × (Int ⊕ Nat)) := (fc57 K).bind fun x9 => if x9.2 = 0 then ((fc140 (x9.1) (-4)).bind fun x12 => some (x12.1, .inl (x12.2))) else jrk3 (x9.1)
def jrg2 (G : jg_G) : Option (jg_G × Int) := (fo206 G).bind fun x7 => if (x7.1) 92 7 = 0 then jrg3 (x7.1) else (some (x7.1, (-4)))
theorem jrc3 {K : jc_K} {G : jg_G} {N k : Nat} {W : jZW} (hY : jY K G N k) (hM : jM G N k W 223) (W2 : W.2.1 = 0) (hT : jTr K G) (hC : (∀ t, 0 ≤ t → t < 4 → G 107 t = 0 ∧ G 110 t = -1) ∧ ∀ k, 0 ≤ k → k < 32 → G 111 k = -1) (hP : jPs K G) (h113 : G 113 2 = 0) (hk : k < 512) (hW : W.1 ≤ 9000 * (k + 1)) : jDn (jrk3 K) (jrg3 G) k G := by
  obtain ⟨K4, G4, b, N4, a1, a2, a3, a4⟩ := jtidy (x := k) (κ := k) (B := 223) (W := W) (by omega) (by decide) (by omega) 24 jo_N jo_N 0 K G N hY hM (jnf_24 _) (by decide) (by decide) (by decide)
  have e60 : fc60 K = some (K4, b) := a1
  have e210 : fo210 G = some (G4, 0) := a2
  have n120 : 98 ≤ K.1.1 := hY.2.2.2.1.1
  have nQ : ∀ n, n = 58 ∨ n = 61 ∨ n = 62 ∨ n = 85 → ¬ jQ n := fun n hn z => by unfold jQ jS_n at z; omega
  have k85 : ∀ j, jc_i K4 85 j = jc_i K 85 j := fun j => a3.2.2.2 85 j (by omega) (nQ 85 (by decide))
  unfold jrk3 jrg3
  rw [e60, e210, jo_bs, jo_bs]
  dsimp only
  rcases a4 with ⟨eb, y1, y2, y3, y4, y5⟩ | ⟨eb, y1, y2⟩
  · have g := y2.2.2.1
    rw [if_neg (by omega), if_pos y1.h7]
    refine (jrc4 y1 y3 W2 y4 (hT.s a3 n120 ⟨nQ 58 (by decide), nQ 61 (by decide), nQ 62 (by decide)⟩ (fun j => ⟨g 107 (by decide) j, g 110 (by decide) j, g 111 (by decide) j⟩)) ⟨fun t t0 t1 => ?_, fun j j0 j1 => ?_⟩ (fun j j0 j1 => ?_) ?_ hk hW).mono (fun j _ => g 113 (by decide) j)
    · rw [g 107 (by decide), g 110 (by decide)]
      exact hC.1 t t0 t1
    · rw [g 111 (by decide)]
      exact hC.2 j j0 j1
    · rw [k85, g 113 (by decide)]
      exact hP j j0 j1
    · rw [g 113 (by decide)]
      exact h113
  · have gz : ∀ j, G4 113 j = G 113 j := fun j => by
      obtain ⟨_, _, _, _, _, _, z, _⟩ := y2
      exact (z.2 j).trans (hM.2.2.2.2.2.2.1.2 j).symm
    obtain ⟨K5, d1, d2⟩ := jrcf y1 y2 hW W2 (fun j j0 j1 => by
      rw [a3.2.2.2 62 j (by omega) (nQ 62 (by decide))]
      have := hT.2 j j0 j1
      omega) (fun j j0 j1 => by rw [k85, gz]; exact hP j j0 j1)
    rw [if_pos eb, d1, if_neg y1.h7, jo_bs]
    exact ⟨K5, G4, -4, rfl, rfl, fun j _ => gz j, Or.inr ⟨rfl, y1.h7, _, d2⟩⟩
/-- between the parts of a RECOVER -/
def jRc (K : jc_K) (G : jg_G) (n k : Nat) (W : jZW) : Prop := (jD K ∧ jR K k ∧ jZ K G n) ∧ (jc_i K 63 4 = n ∧ G 92 12 = n ∧ G 92 13 = n ∧ n ≤ 1100) ∧ (jMf G k W 223 ∧ W.2.1 = 0) ∧ jPs K G ∧ ((∀ t, 0 ≤ t → t < 4 → G 107 t = 0 ∧ G 110 t = -1) ∧ ∀ k, 0 ≤ k → k < 32 → G 111 k = -1) ∧ (∀ k, 0 ≤ k → k < 32 → jc_i K 62 k = -1) ∧ ∀ f : Int, 0 ≤ f → f < 4 → jc_pg K (71 + 2 * f.toNat)
section
variable {K K' : jc_K} {G G' : jg_G} {n k : Nat} {W : jZW} {S : Nat → Prop}
theorem jRc.ok (h : jRc K G n k W) (s : jk_s S K K') (hS : ∀ m, S m → m < 98 ∧ m ≠ 63) (hl : jl_s G G') (hd : jd_m G G') (hx : G' 92 12 = G 92 12 ∧ G' 92 13 = G 92 13 ∧ G' 92 0 = G 92 0) {w : Nat} (h3 : G' 92 3 ≤ w + 3300) (ho : ∀ m, m = 107 ∨ m = 110 ∨ m = 111 → ∀ j, G' m j = G m j) (hp : jPs K' G') (h62' : ∀ j, 0 ≤ j → j < 32 → jc_i K' 62 j = -1) (h5 : ∀ j, j < 0 → G' 113 j = G 113 j) : jRc K' G' n k (w, 0, fun j => G' 113 j) := by
  obtain ⟨⟨hD, hR, hZ⟩, ⟨e63, e12, e13, le⟩, ⟨hMf, W2⟩, hP, hC, h62, hpg⟩ := h
  have g0 : G 92 0 = 0 := by
    obtain ⟨_, _, _, _, _, _, z, _⟩ := hMf
    exact z.1.trans W2
  refine ⟨⟨hD.s s, hR.s s, hZ.s s (fun m h e => ?_) (hl.a n)⟩, ⟨?_, hx.1.trans e12, hx.2.1.trans e13, le⟩, ⟨hMf.k hl hd hx.1 h3 ⟨hx.2.2.trans g0, fun _ => rfl⟩ h5, rfl⟩, hp, ⟨fun t t0 t1 => ?_, fun j j0 j1 => ?_⟩, h62', fun f f0 f1 => s.pg (hpg f f0 f1)⟩
  · have := hS m e
    omega
  · rw [s.2 63 (fun e => (hS 63 e).2 rfl) 4]; exact e63
  · rw [ho 107 (by decide), ho 110 (by decide)]
    exact hC.1 t t0 t1
  · rw [ho 111 (by decide)]
    exact hC.2 j j0 j1
theorem jRc.no (h : jRc K G n k W) (s : jk_s S K K') (hS : ∀ m, S m → m < 98 ∧ m ≠ 63 ∧ m ≠ 62) {i v : Int} (hi0 : 0 ≤ i) (c : jX K' G' (jg_u G 113 i v)) (hp : jPs K' G') {w : Nat} (hw : G' 92 3 ≤ w + 3300) (hw2 : w ≤ 9000 * (k + 1)) : ∃ K2, fc140 K' (-4) = some (K2, -4) ∧ jSf K2 G' (k + 1) (w, 0, fun j => G' 113 j) ∧ G' 92 7 ≠ 0 ∧ ∀ j, j < 0 → G' 113 j = G 113 j := by
  obtain ⟨⟨hD, hR, hZ⟩, ⟨e63, e12, e13, le⟩, ⟨hMf, W2⟩, hP, hC, h62, hpg⟩ := h
  have g0 : G 92 0 = 0 := by
    obtain ⟨_, _, _, _, _, _, z, _⟩ := hMf
    exact z.1.trans W2
  have hh : ∀ j, 0 ≤ j → j < 32 → -1 ≤ jg_u G 113 i v 111 j ∧ jg_u G 113 i v 111 j < 4 := fun j j0 j1 => by
    rw [jg_uN (by decide), hC.2 j j0 j1]
    decide
  have b12 : jg_u G 113 i v 92 12 = n := (jg_uN (by decide)).trans e12
  have b13 : jg_u G 113 i v 92 13 = n := (jg_uN (by decide)).trans e13
  have hZ' : jZ K (jg_u G 113 i v) n := hZ.s (S := fun _ => False) jk_s.refl (fun _ _ e => e) (fun m j e => jg_uN (by omega))
  have E : jE K' G' k := jE.of hZ' (by omega) le (by omega) hD hR hh s (fun m e => ⟨(hS m e).1, (hS m e).2.1⟩) c.f hpg
  obtain ⟨_, X, eX, wX, x13⟩ := c
  have x12 : X 92 12 = n := (wX.2.2.1 12 (by decide) (by decide) (by decide) (by decide) (by decide) (by decide)).trans b12
  have y13 := wX.2.2.2.1
  have fw := fr_fw_is (X := X) (fun j j0 j1 => by rw [wX.1 111 (by decide) j]; exact hh j j0 j1)
  have z12 : G' 92 12 = n := by
    rw [eX, fw.1]
    omega
  have jl : jl_s G G' := ⟨fun m a b j => by rw [eX, (fr_fw_k X).2 m (by omega) j, wX.1 m a j, jg_uN (by omega)], fun j hj => by rw [eX, (fr_fw_k X).2 93 (by decide) j, wX.2.1 j hj, jg_uN (by decide)]⟩
  have jd : jd_m G G' := fun p a b => by
    have := wX.2.2.2.2 p a b
    rw [jg_uN (by decide)] at this
    rw [eX, (fr_fw_k X).2 93 (by decide)]
    exact this
  have z0 : G' 92 0 = 0 := by
    rw [eX, (fr_fw_k X).1 0 (by decide) (by decide) (by decide) (by decide), wX.2.2.1 0 (by decide) (by decide) (by decide) (by decide) (by decide) (by decide), jg_uN (by decide)]
    exact g0
  have g5 : ∀ j, j < 0 → G' 113 j = G 113 j := fun j hj => by
    rw [eX, (fr_fw_k X).2 113 (by decide) j, wX.1 113 (by decide) j, jg_uI (by omega)]
  have M' : jMf G' k (w, 0, fun j => G' 113 j) 223 := hMf.k jl jd (z12.trans e12.symm) hw ⟨z0, fun _ => rfl⟩ g5
  obtain ⟨K2, d1, d2⟩ := jrcf E M' hw2 rfl (fun j j0 j1 => by
    rw [s.2 62 (fun e => (hS 62 e).2.2 rfl) j, h62 j j0 j1]
    decide) hp
  exact ⟨K2, d1, d2, E.h7, g5⟩
theorem jph_00 {G : jg_G} {N : Nat} (h : ∀ t, 0 ≤ t → t < 4 → G 107 t = 0) : jph G N = jph0 G N := by
  unfold jph jph0
  rw [jsum_e 4 (g := fun t => if 0 < jt G t N then 2 else 0) (f := fun t => if 0 < jt G t N then 2 else if G 107 t = 1 then (if G 110 t = -1 then 1 else 2) else 0) (fun i hi => by
    show (if 0 < jt G i N then 2 else if G 107 i = 1 then (if G 110 i = -1 then 1 else 2) else 0) = if 0 < jt G i N then 2 else 0
    rw [h i (by omega) (by omega), if_neg (show ¬ (0 : Int) = 1 by decide)])]
theorem jrc2 {dv : Int → Nat} {F : Int → Int} (h : jRc K G n k W) (hN : jN K G dv n) (hFo : jFo K G n dv F) (hT : ∀ t, 0 ≤ t → t < 4 → jc_i K 58 t = 0 ∧ jc_i K 61 t = -1 ∧ jc_i K 59 t = jt G t n) (h108 : ∀ t, 0 ≤ t → t < 4 → G 108 t = jt G t n) (h97 : ∀ f, 0 ≤ f → f < 4 → G 97 f = 0) (h113 : G 113 1 = 0 ∧ G 113 2 = 0) (hk : k < 512) (hW : W.1 ≤ 9000 * k) : jDn (jrk2 K) (jrg2 G) k G := by
  obtain ⟨⟨hD, hR, hZ⟩, ⟨e63, e12, e13, le⟩, ⟨hMf, W2⟩, hP, hC, h62, hpg⟩ := id h
  obtain ⟨n', en, ⟨hL, hMk⟩, hph, hcw, h3, hgz, hpv⟩ := hMf
  have en' : n' = n := by omega
  subst en'
  have hph' : 2 * (jcw G 2 n' + jcw G 3 n') ≤ k := by
    unfold jph0 at hph
    omega
  obtain ⟨w2, n925⟩ := jw2_b hZ hL hph' (by omega) hcw (Nat.le_refl _)
  have eP : jP G = G 92 3 := by
    unfold jP
    rw [h97 0 (by decide) (by decide), h97 1 (by decide) (by decide), h97 2 (by decide) (by decide), h97 3 (by decide) (by decide)]
    omega
  obtain ⟨K3, G3, b, a1, a2, a3, a4, a5, a6⟩ := jredo hN hZ e63 hFo hD.1 (hP 1 (by decide) (by decide)) h113.1 w2 (by omega)
  have P3 : ∀ (q : ∀ j, j ≠ 1 → G3 113 j = G 113 j), jPs K3 G3 := fun q j j0 j1 => by
    by_cases e : j = 1
    · rw [e]; exact a5
    · rw [a4 j e, q j e]; exact hP j j0 j1
  have hS : ∀ m, jRo m → m < 98 ∧ m ≠ 58 ∧ m ≠ 59 ∧ m ≠ 61 ∧ m ≠ 62 ∧ m ≠ 63 ∧ m ≠ 64 := fun m e => by unfold jRo jS_n at e; omega
  unfold jrk2 jrg2
  rw [a1, a2, jo_bs, jo_bs]
  dsimp only
  rcases a6 with ⟨eb, y1, y2, y3⟩ | ⟨eb, y1, y2⟩
  · rw [if_neg (by omega), if_pos y1.2.1.1]
    have gl := y2.l
    have g := fun m a b j => y2.n (n := m) a b j
    have hd : jd_m G G3 := fun p a b => by
      have := y2.2.2.2.2 p a b
      rw [jg_uN (by decide)] at this
      exact this
    have q : ∀ j, j ≠ 1 → G3 113 j = G 113 j := fun j hj => (y2.1 113 (by decide) j).trans (jg_uI hj)
    have k3 : ∀ m, m = 58 ∨ m = 59 ∨ m = 61 ∨ m = 62 ∨ m = 63 → ∀ j, jc_i K3 m j = jc_i K m j := fun m hm j => a3.2 m (fun e => by have := hS m e; omega) j
    have T0 : ∀ t, 0 ≤ t → t < 4 → G3 107 t = 0 ∧ G3 110 t = -1 := fun t t0 t1 => by
      rw [g 107 (by decide) (by decide), g 110 (by decide) (by decide)]
      exact hC.1 t t0 t1
    have T1 : ∀ j, 0 ≤ j → j < 32 → G3 111 j = -1 := fun j j0 j1 => by
      rw [g 111 (by decide) (by decide)]
      exact hC.2 j j0 j1
    have t3 : ∀ t, jt G3 t n' = jt G t n' := fun t => gl.t t n'
    have Y3 : jY K3 G3 n' k := ⟨y1, ⟨by rw [k3 63 (by decide)]; exact e63, hZ.s a3 (fun m h e => by have := hS m e; omega) (gl.a n')⟩, fun t t0 t1 => ⟨by rw [k3 59 (by decide), (hT t t0 t1).2.2, g 108 (by decide) (by decide), h108 t t0 t1], fun z => by
      rw [(T0 t t0 t1).1] at z
      exact absurd z (by decide)⟩, hD.s a3, hR.s a3⟩
    have M3 : jM G3 n' k (W.1 + 6600, 0, fun j => G3 113 j) 223 := by
      refine ⟨⟨hL.a (gl.a n') (Nat.le_refl _), hMk.a (gl.a n') hd (Nat.le_refl _)⟩, fun t t0 t1 => ?_, fun j j0 j1 => ?_, ?_, ?_, ?_, ⟨?_, fun _ => rfl⟩, fun m m1 m2 x x0 x1 => ?_, fun x t x0 x1 t0 t1 z => ?_, fun t t0 t1 z => ?_⟩
      · rw [g 108 (by decide) (by decide), t3, h108 t t0 t1]
      · rw [T1 j j0 j1]
        decide
      · rw [jph_00 (fun t t0 t1 => (T0 t t0 t1).1), (gl.a n').ph0 (Int.le_refl _)]
        exact hph
      · rw [(gl.a n').cw 0 n' (Int.le_refl _), (gl.a n').cw 5 n' (Int.le_refl _), (gl.a n').cw 4 n' (Int.le_refl _)]
        exact hcw
      · show jP G3 ≤ ((W.1 + 6600 : Nat) : Int) + 3 * n'
        omega
      · show G3 92 0 = 0
        have e0 : G3 92 0 = G 92 0 := (y2.2.2.1 0 (by decide) (by decide) (by decide) (by decide) (by decide) (by decide)).trans (jg_uN (by decide))
        rw [e0]
        exact hgz.1.trans W2
      · have w13 : G 92 13 ≤ G3 92 13 := by
          have := y2.2.2.2.1
          rw [jg_uN (by decide)] at this
          exact this
        have em : m = n' := by omega
        rw [em, (gl.a n').pv x n' (Int.le_refl _), q _ (by omega)]
        exact hpv x x0 x1
      · rw [(T0 t t0 t1).1] at z
        exact absurd z (by decide)
      · rw [(T0 t t0 t1).1] at z
        exact absurd z (by decide)
    refine (jrc3 Y3 M3 rfl ⟨fun t t0 t1 => ?_, fun j j0 j1 => ?_⟩ ⟨T0, T1⟩ (P3 q) ((q 2 (by decide)).trans h113.2) hk (by show W.1 + 6600 ≤ _; omega)).mono (fun j hj => q j (by omega))
    · have a := hT t t0 t1
      have b := T0 t t0 t1
      rw [k3 58 (by decide), k3 61 (by decide), a.1, a.2.1, b.1, b.2]
      exact ⟨rfl, Or.inl rfl, rfl, by decide, by decide⟩
    · rw [k3 62 (by decide), h62 j j0 j1, T1 j j0 j1]
      exact ⟨rfl, by decide, by decide⟩
  · have q : ∀ j, j ≠ 1 → G3 113 j = G 113 j := fun j hj => by
      obtain ⟨_, X, eX, wX, _⟩ := y1
      rw [eX, (fr_fw_k X).2 113 (by decide) j, wX.1 113 (by decide) j, jg_uI hj]
    obtain ⟨K4, d1, d2, d4, _⟩ := h.no a3 (fun m e => ⟨(hS m e).1, (hS m e).2.2.2.2.2.1, (hS m e).2.2.2.2.1⟩) (by decide) y1 (P3 q) (w := W.1 + 6600) (by omega) (by omega)
    rw [if_pos eb, d1, if_neg d4, jo_bs]
    exact ⟨K4, G3, -4, rfl, rfl, fun j hj => q j (by omega), Or.inr ⟨rfl, d4, _, d2⟩⟩
end
