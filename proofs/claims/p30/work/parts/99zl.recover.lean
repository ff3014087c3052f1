/-! RECOVER as a whole -/
theorem jrc1 {K K0 : jc_K} {G G0 : jg_G} {k n : Nat} {W : jZW} (R0 : jRc K0 G0 n k W) (hW : W.1 ≤ 9000 * k) (hk : k < 512) (hfr : ∀ f, 0 ≤ f → f < 4 → (jc_i K0 68 f = -1 ∧ jc_i K0 69 f = 0 ∧ jc_i K0 70 f = 0) ∧ G0 95 f = -1 ∧ G0 96 f = 0 ∧ G0 97 f = 0) (h8 : jc_i K0 66 5 = 0 ∧ G0 92 8 = 0) (dc : jdc K0 G0 (G0 92 13)) (dn : jdn K0 G0) (r5 : jb_r (G0 92 5)) (h7 : G0 92 7 = 0) (h113 : ∀ j, 0 ≤ j → j < 4 → G0 113 j = 0) (eK : fc119 K = (fc52 K0).bind fun x4 => if x4.2 = 0 then ((fc140 (x4.1) (-4)).bind fun x30 => some (x30.1, .inl (x30.2))) else ((fc53 (x4.1) ).bind fun x7 => jrk2 (x7.1))) (eG : fo212 G = (fo204 G0).bind fun x2 => if (x2.1) 92 7 = 0 then ((fo205 (x2.1) ).bind fun x5 => jrg2 (x5.1)) else (some (x2.1, (-4)))) : jDn (fc119 K) (fo212 G) k G0 := by
  have P0 := R0.2.2.2.1
  obtain ⟨K1, G1, b, c1, c2, s1, c85, c853, ⟨dc1, dn1, r51⟩, alt⟩ := jmend dc dn r5 h7 (h113 3 (by decide) (by decide)) ((P0 3 (by decide) (by decide)).trans (h113 3 (by decide) (by decide)))
  have hS : ∀ m, jMd m → m < 98 ∧ m ≠ 58 ∧ m ≠ 59 ∧ m ≠ 61 ∧ m ≠ 62 ∧ m ≠ 63 ∧ m ≠ 64 ∧ ¬ (66 ≤ m ∧ m < 79) := fun m e => by unfold jMd at e; omega
  have P1 : (∀ j, j ≠ 3 → G1 113 j = G0 113 j) → jPs K1 G1 := fun q j j0 j1 => by
    by_cases e : j = 3
    · rw [e]; exact c853
    · rw [c85 j e, q j e]; exact P0 j j0 j1
  have W3 : G0 92 3 ≤ W.1 + 3300 := by
    obtain ⟨_, _, _, _, _, z, _⟩ := R0.2.2.1.1
    exact z
  rw [eK, eG, c1, c2, jo_bs, jo_bs]
  dsimp only
  rcases alt with ⟨eb, hU, mk⟩ | ⟨eb, X, eX, mk⟩
  · obtain ⟨m1, m2, m3, m4, m5⟩ := mk
    have g7 : G1 92 7 = 0 := (m3 7 (by decide) (by decide)).trans h7
    rw [if_neg (by omega), if_pos g7]
    have R1 : jRc K1 G1 n k (W.1, 0, fun j => G1 113 j) := R0.ok s1 (fun m e => ⟨(hS m e).1, (hS m e).2.2.2.2.2.1⟩) ⟨fun m a b j => m1 m (by omega) (by omega) (by omega) (by omega) j, fun j hj => m2 j (Or.inr hj)⟩ m5 ⟨m3 12 (by decide) (by decide), m3 13 (by decide) (by decide), m3 0 (by decide) (by decide)⟩ (by rw [m3 3 (by decide) (by decide)]; exact W3) (fun m hm j => m1 m (by omega) (by omega) (by omega) (by omega) j) (P1 m4) (fun j j0 j1 => by
      rw [s1.2 62 (fun e => (hS 62 e).2.2.2.2.1 rfl) j]
      exact R0.2.2.2.2.2.1 j j0 j1) (fun j hj => m4 j (by omega))
    obtain ⟨⟨hD, hR, hZ⟩, ⟨e63, e12, e13, le⟩, ⟨hMf, W2⟩, hP, hC, h62, hpg⟩ := id R1
    obtain ⟨n', en, ⟨hL, hMk⟩, hph, hcw, h3, hgz, _⟩ := hMf
    have en' : n' = n := by omega
    subst en'
    have hph' : 2 * (jcw G1 2 n' + jcw G1 3 n') ≤ k := by
      unfold jph0 at hph
      omega
    have dv : ∀ p, 0 ≤ p → p < 24 → G1 93 (67 * (5 + 2 * p) + 1) = (G1 93 (67 * (5 + 2 * p) + 1)).toNat ∧ jv G1 p (G1 93 (67 * (5 + 2 * p) + 1)).toNat = (G1 93 (67 * (5 + 2 * p) + 1)).toNat ∧ (G1 93 (67 * (5 + 2 * p) + 1)).toNat ≤ n' := fun p p0 p1 => by
      obtain ⟨v, v1, v2, v3, _⟩ := (dc1.2.2 p p0 p1).2.1.2
      have e : (G1 93 (67 * (5 + 2 * p) + 1)).toNat = v := by rw [v1]; rfl
      rw [e]
      exact ⟨v1, v3, by omega⟩
    generalize eD : (fun p : Int => (G1 93 (67 * (5 + 2 * p) + 1)).toNat) = D
    have dv : ∀ p, 0 ≤ p → p < 24 → G1 93 (67 * (5 + 2 * p) + 1) = D p ∧ jv G1 p (D p) = D p ∧ D p ≤ n' := by
      rw [← eD]; exact dv
    have f1 : ∀ f, 0 ≤ f → f < 4 → (jc_i K1 68 f = -1 ∧ jc_i K1 69 f = 0 ∧ jc_i K1 70 f = 0) ∧ G1 95 f = -1 ∧ G1 96 f = 0 ∧ G1 97 f = 0 := fun f f0 f1 => by
      have g := fun m (h : m = 95 ∨ m = 96 ∨ m = 97) => m1 m (by omega) (by omega) (by omega) (by omega) f
      have q := fun m (h : m = 68 ∨ m = 69 ∨ m = 70) => s1.2 m (fun e => by have := hS m e; omega) f
      rw [g 95 (by decide), g 96 (by decide), g 97 (by decide), q 68 (by decide), q 69 (by decide), q 70 (by decide)]
      exact hfr f f0 f1
    have hN1 : jN K1 G1 D n' := by
      refine ⟨⟨dc1, dn1, hU⟩, ⟨g7, r51, e12, le, by omega⟩, ⟨⟨?_, ?_, ?_⟩, fun f f0 f1' => ⟨⟨?_, ?_, ?_⟩, ?_, ⟨?_, ?_⟩, hpg f f0 f1'⟩, fun f f' f0 f1' g0 g1 z => ?_⟩, fun f f0 f1' z => ?_, fun f f0 f1' _ => (f1 f f0 f1').2.2.2, fun p p0 p1 _ => (dv p p0 p1).1⟩
      · rw [s1.2 66 (fun e => by have := hS 66 e; omega) 5, m3 8 (by decide) (by decide), h8.1, h8.2]
      · rw [m3 8 (by decide) (by decide), h8.2]; decide
      · rw [m3 8 (by decide) (by decide), h8.2]; decide
      · rw [(f1 f f0 f1').1.1, (f1 f f0 f1').2.1]
      · rw [(f1 f f0 f1').1.2.1, (f1 f f0 f1').2.2.1]
      · rw [(f1 f f0 f1').1.2.2, (f1 f f0 f1').2.2.2]
      · exact Or.inl (f1 f f0 f1').2.2.1
      · rw [(f1 f f0 f1').2.1]; decide
      · rw [(f1 f f0 f1').2.1]; decide
      · rw [(f1 f f0 f1').2.1] at z
        exact absurd z (by decide)
      · rw [(f1 f f0 f1').2.1] at z
        exact absurd z (by decide)
    obtain ⟨K2, G2, F, d1, d2, d3, d4, d5, d6, d7, d8, d9, d10⟩ := jrlog (κ := k) (B := 223) hZ hL hMk e12 e63 hph' (by omega) hcw (Nat.le_refl _) (fun j j0 j1 => by rw [h62 j j0 j1]; decide) ((hP 0 (by decide) (by decide)).trans ((m4 0 (by decide)).trans (h113 0 (by decide) (by decide)))) ((m4 0 (by decide)).trans (h113 0 (by decide) (by decide))) (fun p p0 p1 => by rw [(dv p p0 p1).1]; omega)
    have hS2 : ∀ m, jRe2 m → m < 98 ∧ m ≠ 63 ∧ ¬ jN_k m := fun m e => by unfold jRe2 jTn at e; unfold jN_k; omega
    have g := fun m a b c j => d8.1 m a b c j
    have P2 : jPs K2 G2 := fun j j0 j1 => by
      by_cases e : j = 0
      · rw [e]; exact d7
      · rw [d6 j e, d8.2 j e]; exact hP j j0 j1
    have l2 : jl_s G1 G2 := ⟨fun m a b j => g m (by omega) (by omega) (by omega) j, fun j _ => g 93 (by decide) (by decide) (by decide) j⟩
    have R2 : jRc K2 G2 n' k (W.1, 0, fun j => G2 113 j) := R1.ok d3 (fun m e => ⟨(hS2 m e).1, (hS2 m e).2.1⟩) l2 (jd_m.same (fun j _ _ => g 93 (by decide) (by decide) (by decide) j)) ⟨g 92 (by decide) (by decide) (by decide) 12, g 92 (by decide) (by decide) (by decide) 13, g 92 (by decide) (by decide) (by decide) 0⟩ (by rw [g 92 (by decide) (by decide) (by decide) 3]; exact h3) (fun m hm j => g m (by omega) (by omega) (by omega) j) P2 d5 (fun j hj => d8.2 j (by omega))
    have hN2 : jN K2 G2 D n' := (hN1.grow (jk_g.s d3) (fun m e z => (hS2 m z).2.2 e) hD.1).ref (Nat.le_refl _) le ((g 92 (by decide) (by decide) (by decide) 12).trans e12) (fun i _ => g 92 (by decide) (by decide) (by decide) i) (fun m hm j => g m (by omega) (by omega) (by omega) j) (fun j _ => g 93 (by decide) (by decide) (by decide) j) (l2.a n')
    have v2 : ∀ p n, jv G2 p n = jv G1 p n := fun p n => l2.v p n
    have hFo : jFo K2 G2 n' D F := fun p p0 p1 => by
      obtain ⟨q1, q2, f, q3, q4, q5⟩ := d10 p p0 p1
      obtain ⟨q6, q7, q8⟩ := dv p p0 p1
      refine ⟨⟨q1, q2⟩, ⟨f, q3, q4, ?_⟩, ?_, q8⟩
      · rw [v2]
        rw [q6] at q5
        omega
      · rw [v2]; exact q7
    rw [d1, d2, jo_bs, jo_bs]
    refine (jrc2 R2 hN2 hFo (fun t t0 t1 => by
      rw [l2.t t n']
      have := d4 t t0 t1
      exact ⟨this.1, this.2.1, this.2.2⟩) (fun t t0 t1 => by
      rw [l2.t t n']
      exact d9 t t0 t1) (fun f f0 f1' => by
      show G2 97 f = 0
      rw [g 97 (by decide) (by decide) (by decide)]
      exact (f1 f f0 f1').2.2.2) ⟨by show G2 113 1 = 0; rw [d8.2 1 (by decide), m4 1 (by decide)]; exact h113 1 (by decide) (by decide), by show G2 113 2 = 0; rw [d8.2 2 (by decide), m4 2 (by decide)]; exact h113 2 (by decide) (by decide)⟩ hk hW).mono (fun j hj => (d8.2 j (by omega)).trans (m4 j (by omega)))
  · obtain ⟨m1, m2, m3, m4, m5⟩ := mk
    have g113 : ∀ j, G1 113 j = X 113 j := fun j => by rw [eX, (fr_fw_k X).2 113 (by decide) j]
    have e13 := R0.2.1.2.2.1
    have e12 := R0.2.1.2.1
    have hX : jX K1 G1 (jg_u G0 113 3 (G1 113 3)) := by
      refine ⟨⟨dc1, dn1, r51⟩, X, eX, ⟨fun m a j => ?_, fun j hj => ?_, fun i _ _ h5 h6 _ _ => ?_, ?_, fun p a b => ?_⟩, ?_⟩
      · by_cases e : m = 113
        · subst e
          by_cases e3 : j = 3
          · rw [e3, jg_uH, g113]
          · rw [jg_uI e3]; exact m4 j e3
        · rw [jg_uN e]; exact m1 m (by omega) (by omega) (by omega) e j
      · rw [jg_uN (by decide)]; exact m2 j (Or.inr hj)
      · rw [jg_uN (by decide)]; exact m3 i h5 h6
      · rw [jg_uN (by decide), m3 13 (by decide) (by decide)]; exact Int.le_refl _
      · rw [jg_uN (by decide)]; exact m5 p a b
      · rw [m3 13 (by decide) (by decide), m3 12 (by decide) (by decide), e13, e12]; exact Int.le_refl _
    obtain ⟨K2, d1, d2, d4, _⟩ := R0.no s1 (fun m e => ⟨(hS m e).1, (hS m e).2.2.2.2.2.1, (hS m e).2.2.2.2.1⟩) (by decide) hX (P1 (fun j hj => (g113 j).trans (m4 j hj))) (w := W.1) (by
      rw [eX, (fr_fw_k X).1 3 (by decide) (by decide) (by decide) (by decide), m3 3 (by decide) (by decide)]
      exact W3) (by omega)
    rw [if_pos eb, d1, if_neg d4, jo_bs]
    exact ⟨K2, G1, -4, rfl, rfl, fun j hj => (g113 j).trans (m4 j (by omega)), Or.inr ⟨rfl, d4, _, d2⟩⟩
theorem jrec0 {K : jc_K} {G : jg_G} {k : Nat} {W : jZW} (hs : jSf K G k W) (hk : k < 512) : jDn (fc119 K) (fo212 G) k G := by
  obtain ⟨hP, hW, hF, hMf⟩ := hs
  have e28 : ¬ jc_i K 2 8 = 0 := by rw [hF.2.1]; decide
  have h7 : ¬ G 92 7 = 0 := hF.1.h7
  obtain ⟨hE, f28, f63, ffr, f66, f58, f62⟩ := hF
  obtain ⟨⟨dc, dn, r5⟩, ⟨e7, e12, e8, eFr, eT, e111⟩, ⟨hZ, hle, h1100⟩, hD, hR, hpg⟩ := id hE
  obtain ⟨n, en, hML, hph, hcw, h3, hgz, _⟩ := id hMf
  have e13 : G 92 13 = n := by omega
  have en13 : (G 92 13).toNat = n := by rw [e13]; rfl
  rw [en13] at hZ
  obtain ⟨K0, a1, a2, a3⟩ := jk_51 (K := K)
  obtain ⟨G0, b1, b2, b3, b4⟩ := jr_212 (G := jg_u (jg_u G 92 0 0) 92 7 0)
  have g : ∀ m, m ≠ 92 → m ≠ 113 → ∀ j, G0 m j = G m j := fun m h1 h2 j => by rw [b2 m h2, jg_uN h1, jg_uN h1]
  have g92 : ∀ j, j ≠ 0 → j ≠ 7 → G0 92 j = G 92 j := fun j h1 h2 => by rw [b2 92 (by decide), jg_uI h2, jg_uI h1]
  have z0 : G0 92 0 = 0 := by rw [b2 92 (by decide), jg_uI (by decide), jg_uH]
  have z7 : G0 92 7 = 0 := by rw [b2 92 (by decide), jg_uH]
  have k0 : ∀ m, m ≠ 85 → ∀ j, jc_i K0 m j = jc_i K m j := fun m hm j => a2.2 m hm j
  have gl : jl_s G G0 := ⟨fun m a b j => g m (by omega) (by omega) j, fun j _ => g 93 (by decide) (by decide) j⟩
  have M0 : jMf G0 k (W.1, 0, fun j => G0 113 j) 223 := hMf.k gl (jd_m.same (fun j _ _ => g 93 (by decide) (by decide) j)) (g92 12 (by decide) (by decide)) (by rw [g92 3 (by decide) (by decide)]; exact h3) ⟨z0, fun _ => rfl⟩ (fun j hj => by rw [b4 j (by omega), jg_uN (by decide), jg_uN (by decide)])
  have R0 : jRc K0 G0 n k (W.1, 0, fun j => G0 113 j) := by
    refine ⟨⟨hD.s a2, hR.s a2, hZ.s a2 (fun m h e => by omega) (gl.a n)⟩, ⟨?_, (g92 12 (by decide) (by decide)).trans en, (g92 13 (by decide) (by decide)).trans e13, by omega⟩, ⟨M0, rfl⟩, fun j j0 j1 => (a3 j j0 j1).trans (b3 j j0 j1).symm, ⟨fun t t0 t1 => ?_, fun j j0 j1 => ?_⟩, fun j j0 j1 => ?_, fun f f0 f1 => a2.pg (hpg f f0 f1)⟩
    · rw [k0 63 (by decide), f63]; exact en
    · rw [g 107 (by decide) (by decide), g 110 (by decide) (by decide)]
      exact ⟨(eT t t0 t1).1, (eT t t0 t1).2.2.2⟩
    · rw [g 111 (by decide) (by decide)]
      exact e111 j j0 j1
    · rw [k0 62 (by decide)]
      exact f62 j j0 j1
  have e13' : G0 92 13 = G 92 13 := g92 13 (by decide) (by decide)
  have dc0 : jdc K0 G0 (G0 92 13) := dc.keep (Int.le_of_eq e13'.symm) ⟨a2.1, fun i _ => k0 3 (by decide) i, fun m m0 m1 i => k0 m (by omega) i⟩ (by
    rw [k0 3 (by decide), g92 3 (by decide) (by decide)]
    exact dc.1.1) (Int.le_of_eq (g92 3 (by decide) (by decide)).symm) (g92 4 (by decide) (by decide)) gl (fun j _ _ => g 93 (by decide) (by decide) j) (fun i => g 94 (by decide) (by decide) i)
  have dn0 : jdn K0 G0 := by
    unfold jdn
    rw [k0 3 (by decide), k0 3 (by decide), k0 3 (by decide), e13', g92 5 (by decide) (by decide), g92 6 (by decide) (by decide), g92 3 (by decide) (by decide)]
    exact dn
  refine (jrc1 R0 hW hk (fun f f0 f1 => ?_) ⟨?_, ?_⟩ dc0 dn0 (by rw [g92 5 (by decide) (by decide)]; exact r5) z7 b3 ?_ ?_).mono (fun j hj => by rw [b4 j (by omega), jg_uN (by decide), jg_uN (by decide)])
  · rw [k0 68 (by decide), k0 69 (by decide), k0 70 (by decide), g 95 (by decide) (by decide), g 96 (by decide) (by decide), g 97 (by decide) (by decide)]
    exact ⟨ffr f f0 f1, eFr f f0 f1⟩
  · rw [k0 66 (by decide)]; exact f66
  · rw [g92 8 (by decide) (by decide)]; exact e8
  · unfold fc119
    rw [if_neg e28, a1, jo_bs]
    rfl
  · unfold fo212
    rw [if_neg h7, b1]
    unfold fo212_32
    rw [if_pos (by decide)]
    rfl
theorem jrecover {K : jc_K} {G : jg_G} {k : Nat} {W : jZW} (hs : jSf K G k W) (hk : k < 512) : ∃ K' v G', fc119 K = some (K', .inl v) ∧ (∀ j, j < 0 → G' 113 j = G 113 j) ∧ ((v = 0 ∧ ∃ N' W', jSt K' G' N' (k + 1) W' ∧ jCl G' N') ∨ (v = -4 ∧ G 92 6 ≠ 0 ∧ G' 92 6 = 0 ∧ ∃ W', jSf K' G' (k + 1) W')) := by
  obtain ⟨K', G', v, a, b, c, d⟩ := jrec0 hs hk
  refine ⟨K', v, G', a, c, ?_⟩
  rcases d with d | ⟨d1, d2, d3⟩
  · exact Or.inl d
  · have h7 : ¬ G 92 7 = 0 := hs.2.2.1.1.h7
    unfold fo212 at b
    rw [if_neg h7] at b
    have x7 : jg_u (jg_u G 92 0 0) 92 7 0 92 7 = 0 := jg_uH
    have x6 : jg_u (jg_u G 92 0 0) 92 7 0 92 6 = G 92 6 := (jg_uI (by decide)).trans (jg_uI (by decide))
    have f := f6_212_32 _ _ _ _ b
    refine Or.inr ⟨d1, fun z => d2 ?_, f.2.1 x7 d2, d3⟩
    exact (f.1 (x6.trans z)).2.trans x7
