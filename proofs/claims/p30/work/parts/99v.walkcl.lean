/-! CHECK, the class's walk as a whole -/
def jPq (G : jg_G) (f : Int → Int) (a M q i : Int) : Prop := ∃ j : Int, a ≤ j ∧ j < M ∧ f j = q ∧ jed (jsc G) (fr_to G) q i
def jPp (f : Int → Int) (a z : Int) : Prop := ∃ j : Int, 0 ≤ j ∧ j < a ∧ f j = z
def jSm (G : jg_G) (f : Int → Int) (n : Nat) : Nat := jsum (fun j => jec (jsc G) (fr_to G) (f j)) n
theorem jSm_up {G : jg_G} {f : Int → Int} {a : Nat} : ∀ d : Nat, jSm G f a ≤ jSm G f (a + d)
  | 0 => Nat.le_refl _
  | d + 1 => Nat.le_trans (jSm_up d) (Nat.le_add_right _ _)
theorem jSm_e {G : jg_G} {f g : Int → Int} {n : Nat} (h : ∀ j : Nat, j < n → g j = f j) : jSm G g n = jSm G f n := jsum_e n (fun i hi => by
  show jec (jsc G) (fr_to G) (g i) = jec (jsc G) (fr_to G) (f i)
  rw [h i hi])
def jbd (c : jp_C) (lo hi i : Int) : Prop := i + 1 < c.2.1 ∧ (c.2.2.1 (i + 1) < (if i = 0 then lo else c.2.2.1 i) ∨ hi ≤ c.2.2.1 (i + 1))
def jFi (C : Int → jp_C) (T : Int → Int) (P : Int → Prop) (L : Int → jlb) (D : Nat) (B : Prop) (bd : Int → Prop) (i j : Int) : Prop := (jFd C T P L D j ∨ (j = 5 ∧ B)) ∨ (j = 3 ∧ ∃ i', 0 ≤ i' ∧ i' < i ∧ bd i')
theorem jFi.next {C : Int → jp_C} {T : Int → Int} {P : Int → Prop} {L : Int → jlb} {D : Nat} {B : Prop} {bd : Int → Prop} {i j : Int} (hi : 0 ≤ i) : (jFi C T P L D B bd i j ∨ (j = 3 ∧ bd i)) ↔ jFi C T P L D B bd (i + 1) j := by
  unfold jFi
  constructor
  · rintro ((a | ⟨a, i', b, c, d⟩) | ⟨a, b⟩)
    · exact Or.inl a
    · exact Or.inr ⟨a, i', b, by omega, d⟩
    · exact Or.inr ⟨a, i, hi, by omega, b⟩
  · rintro (a | ⟨a, i', b, c, d⟩)
    · exact Or.inl (Or.inl a)
    · by_cases e : i' = i
      · rw [e] at d; exact Or.inr ⟨a, d⟩
      · exact Or.inl (Or.inr ⟨a, i', b, by omega, d⟩)
theorem jFi.more {C : Int → jp_C} {T : Int → Int} {P : Int → Prop} {L : Int → jlb} {D : Nat} {B : Prop} {bd : Int → Prop} {i j : Int} : (jFi C T P L D B bd i j ∨ (j = 2 ∧ True)) ↔ jFi C T P L (D + 1) B bd i j := by
  have m := jFd.more (C := C) (T := T) (P := P) (L := L) (D := D) (j := j)
  unfold jFi
  constructor
  · rintro (((a | a) | a) | a)
    · exact Or.inl (Or.inl (m.1 (Or.inl a)))
    · exact Or.inl (Or.inr a)
    · exact Or.inr a
    · exact Or.inl (Or.inl (m.1 (Or.inr a)))
  · rintro ((a | a) | a)
    · rcases m.2 a with b | b
      · exact Or.inl (Or.inl (Or.inl b))
      · exact Or.inr b
    · exact Or.inl (Or.inl (Or.inr a))
    · exact Or.inl (Or.inr a)
theorem jFi.same {C : Int → jp_C} {T : Int → Int} {P : Int → Prop} {L L' : Int → jlb} {D : Nat} {B : Prop} {bd : Int → Prop} {i j : Int} (hL : ∀ z, P z → L' z = L z) : jFi C T P L D B bd i j ↔ jFi C T P L' D B bd i j := by
  have m := jFd.same (C := C) (T := T) (D := D) (j := j) hL
  unfold jFi
  rw [m]
theorem jmn_7 {w f : Int} (h : w = 7 ∨ w ≤ 5) (hf : f ≤ 5) : jmn w f = 7 ∨ jmn w f ≤ 5 := by
  unfold jmn
  split <;> omega
section
variable {G : jg_G} {k : Nat}
theorem jk_105l {p0 lo hi dep : Int} {q a : Nat} {P : Int → Prop} {B : Prop} (hc : fr_to G p0 = 0 ∧ (jsc G p0).1 = 2) (hw : jp_w (jsc G p0)) (hq : ¬ jSw q ∧ ¬ jSw (q + 1)) (ha : a < 24) : ∀ (r i m : Nat) (K : jc_K) (l3 : Int) (L : Int → jlb) (ρ : Int → Nat) (pa : Int → Int × Int) (M n D : Nat), (i : Int) + r = (jsc G p0).2.1 → r < m → jIn K G k → jp_k K q (jsc G p0) → jBq K L M → a < M → jc_i K 87 a = p0 → (jc_i K 89 a = lo ∧ jc_i K 90 a = hi ∧ jc_i K 88 a = dep) → ((i : Int) < (jsc G p0).2.1 → l3 = if (i : Int) = 0 then lo else (jsc G p0).2.2.1 i) → jWi (jsc G) (fr_to G) (jsn (jc_i K 91)) L ρ pa (fun q' i' => (q' = p0 ∧ (i : Int) ≤ i' ∧ jed (jsc G) (fr_to G) q' i') ∨ jPq G (jc_i K 87) ((a : Int) + 1) M q' i') n D → n + jSm G (jc_i K 87) a + i = jSm G (jc_i K 87) M → (∀ z, P z → jsn (jc_i K 91) z ≠ 0) → jwI (jc_i K 86 10) (jFi (jsc G) (fr_to G) P L D B (jbd (jsc G p0) lo hi) i) → (jc_i K 86 10 = 7 ∨ jc_i K 86 10 ≤ 5) → jlv (jsc G) (fr_to G) P L (jc_i K 86 9) → ∃ K' L' ρ' pa' M' n' D', fc105_22 m K a q l3 i = some (K', 0) ∧ jk_s jSw K K' ∧ jBq K' L' M' ∧ M ≤ M' ∧ (∀ j : Int, j < M → jc_i K' 87 j = jc_i K 87 j) ∧ jWi (jsc G) (fr_to G) (jsn (jc_i K' 91)) L' ρ' pa' (jPq G (jc_i K' 87) ((a : Int) + 1) M') n' D' ∧ (n' : Int) + jSm G (jc_i K' 87) a + (jsc G p0).2.1 = jSm G (jc_i K' 87) M' ∧ jwI (jc_i K' 86 10) (jFi (jsc G) (fr_to G) P L' D' B (jbd (jsc G p0) lo hi) (jsc G p0).2.1) ∧ (jc_i K' 86 10 = 7 ∨ jc_i K' 86 10 ≤ 5) ∧ jlv (jsc G) (fr_to G) P L' (jc_i K' 86 9) ∧ ∀ z, jsn (jc_i K 91) z ≠ 0 → L' z = L z := by
  intro r
  induction r with
  | zero =>
    intro i m K l3 L ρ pa M n D e1 e2 h hp bq aM e0 el hl hI hs hP hw' h7 hv
    cases m with
    | zero => omega
    | succ m =>
      refine ⟨K, L, ρ, pa, M, n, D, ?_, jk_s.refl, bq, Nat.le_refl _, fun _ _ => rfl, hI.pe (fun q' i' z => ?_), by omega, ?_, h7, hv, fun _ _ => rfl⟩
      · unfold fc105_22
        rw [if_pos hp.1, hp.2.2.1, if_pos (by omega)]
      · rcases z with ⟨z1, z2, z3⟩ | z
        · rw [z1] at z3
          have := z3.2.2
          omega
        · exact z
      · rw [show (jsc G p0).2.1 = i by omega]
        exact hw'
  | succ r ih =>
    intro i m K l3 L ρ pa M n D e1 e2 h hp bq aM e0 el hl hI hs hP hw' h7 hv
    cases m with
    | zero => omega
    | succ m =>
      have c32 := hw.1
      have hl := hl (by omega)
      obtain ⟨el1, el2, el3⟩ := el
      have M24 : M ≤ 24 := by rw [bq.1.2]; exact jcs_24 _
      obtain ⟨hA0, hL0⟩ := bq.2.1 a (by omega) (by omega)
      rw [e0] at hA0
      rw [e0, el1, el2, el3] at hL0
      have hρ := hI.2.2.2.2.2 p0 hA0
      have hdep : dep = ρ p0 := by
        have := hρ.1
        rw [hL0] at this
        exact this
      have j24 := jcs_24 (jsn (jc_i K 91))
      have p0b := hI.2.1 p0 hA0
      have hed : jed (jsc G) (fr_to G) p0 i := ⟨hc, by omega, by omega⟩
      have hkid := (h.kid p0b hed).1
      generalize hhi : (if (i : Int) + 1 < (jsc G p0).2.1 then (jsc G p0).2.2.1 ((i : Int) + 1) else hi) = high
      -- the test of the key behind
      have test : ∀ R, fc105_22 (m + 1) K a q l3 i = R → ∃ K1 v1, jk_o K K1 v1 ∧ (jbd (jsc G p0) lo hi i → v1 = jmn (jc_i K 86 10) 3) ∧ (¬ jbd (jsc G p0) lo hi i → v1 = jc_i K 86 10) ∧ ((fc102 K1 ((jsc G p0).2.2.2 i) (dep + 1) l3 high).bind fun x => fc105_22 m x.1 a q high ((i : Int) + 1)) = R := fun R hR => by
        obtain ⟨Kf, y1, y2⟩ := jk_101 (K := K) (f := 3)
        have hpf := y2.1.k hq.1 hq.2 hp
        have e88 : jc_i Kf 88 a = dep := (y2.2.1 88 a (by omega)).trans el3
        unfold fc105_22 at hR
        rw [if_pos hp.1, hp.2.2.1, if_neg (show ¬ (jsc G p0).2.1 ≤ (i : Int) by omega), if_pos (show -2147483648 ≤ (i : Int) + 1 ∧ (i : Int) + 1 < 2147483648 by omega)] at hR
        by_cases last : (i : Int) + 1 < (jsc G p0).2.1
        · rw [if_pos last, jk_fc38 hw hp (by omega) last, jo_bs] at hR
          dsimp only at hR
          rw [if_pos last] at hhi
          rw [hhi] at hR
          by_cases b1 : high < l3
          · refine ⟨Kf, _, y2, fun _ => rfl, fun z => absurd ⟨last, Or.inl (by rw [hhi, ← hl]; exact b1)⟩ z, ?_⟩
            rw [if_pos b1, y1, jo_bs] at hR
            dsimp only at hR
            rw [if_pos hpf.1, jk_fc39 hw hc.2 hpf (by omega) (by omega), jo_bs] at hR
            dsimp only at hR
            rw [if_pos (show 0 ≤ (a : Int) ∧ (a : Int) < 24 by omega), e88, if_pos (show -2147483648 ≤ dep + 1 ∧ dep + 1 < 2147483648 by omega)] at hR
            exact hR
          · rw [if_neg b1, if_pos (show 0 ≤ (a : Int) ∧ (a : Int) < 24 by omega), el2] at hR
            by_cases b2 : high < hi
            · refine ⟨K, _, jk_o.refl K, fun z => ?_, fun _ => rfl, ?_⟩
              · rcases z.2 with z | z
                · rw [hhi, ← hl] at z; exact absurd z b1
                · rw [hhi] at z; omega
              · rw [if_pos b2, if_pos hp.1, jk_fc39 hw hc.2 hp (by omega) (by omega), jo_bs] at hR
                dsimp only at hR
                rw [el3, if_pos (show -2147483648 ≤ dep + 1 ∧ dep + 1 < 2147483648 by omega)] at hR
                exact hR
            · refine ⟨Kf, _, y2, fun _ => rfl, fun z => absurd ⟨last, Or.inr (by rw [hhi]; omega)⟩ z, ?_⟩
              rw [if_neg b2, y1, jo_bs] at hR
              dsimp only at hR
              rw [if_pos hpf.1, jk_fc39 hw hc.2 hpf (by omega) (by omega), jo_bs] at hR
              dsimp only at hR
              rw [e88, if_pos (show -2147483648 ≤ dep + 1 ∧ dep + 1 < 2147483648 by omega)] at hR
              exact hR
        · rw [if_neg last] at hhi
          refine ⟨K, _, jk_o.refl K, fun z => absurd z.1 last, fun _ => rfl, ?_⟩
          rw [if_neg last, if_pos (show 0 ≤ (a : Int) ∧ (a : Int) < 24 by omega), jk_fc39 hw hc.2 hp (by omega) (by omega), jo_bs] at hR
          dsimp only at hR
          rw [el3, if_pos (show -2147483648 ≤ dep + 1 ∧ dep + 1 < 2147483648 by omega), el2] at hR
          rw [← hhi]
          exact hR
      obtain ⟨K1, v1, o1, t1, t2, t3⟩ := test _ rfl
      rw [← t3]
      obtain ⟨bq1, f91, f87, f88, f89, f90⟩ := o1.q bq
      have h1 : jIn K1 G k := h.w o1.1 (fun _ _ _ => rfl)
      have hp1 := o1.1.k hq.1 hq.2 hp
      have w1 : jwI (jc_i K1 86 10) (jFi (jsc G) (fr_to G) P L D B (jbd (jsc G p0) lo hi) ((i : Int) + 1)) := by
        rw [o1.2.2]
        exact (hw'.ad (jbd (jsc G p0) lo hi i) (by decide) t1 t2).cg (fun j => jFi.next (by omega))
      have w7 : jc_i K1 86 10 = 7 ∨ jc_i K1 86 10 ≤ 5 := by
        rw [o1.2.2]
        rcases Classical.em (jbd (jsc G p0) lo hi i) with z | z
        · rw [t1 z]; exact jmn_7 h7 (by decide)
        · rw [t2 z]; exact h7
      have v9 : jc_i K1 86 9 = jc_i K 86 9 := o1.2.1 86 9 (by omega)
      -- how many are pending
      have npos : ∃ n', n = n' + 1 := by
        have s1 : jSm G (jc_i K 87) (a + 1) = jSm G (jc_i K 87) a + jec (jsc G) (fr_to G) p0 := by
          show jsum _ a + jec (jsc G) (fr_to G) (jc_i K 87 (a : Int)) = _
          rw [e0]
          rfl
        have s2 := jSm_up (G := G) (f := jc_i K 87) (a := a + 1) (M - (a + 1))
        rw [show a + 1 + (M - (a + 1)) = M by omega] at s2
        have s3 : jec (jsc G) (fr_to G) p0 = (jsc G p0).2.1.toNat := by
          unfold jec
          rw [if_pos hc]
        exact ⟨n - 1, by omega⟩
      obtain ⟨n', hn'⟩ := npos
      subst hn'
      have hPe : ∀ q' i', ((q' = p0 ∧ (i : Int) ≤ i' ∧ jed (jsc G) (fr_to G) q' i') ∨ jPq G (jc_i K 87) ((a : Int) + 1) M q' i') → (q' = p0 ∧ i' = i) ∨ ((q' = p0 ∧ ((i + 1 : Nat) : Int) ≤ i' ∧ jed (jsc G) (fr_to G) q' i') ∨ jPq G (jc_i K 87) ((a : Int) + 1) M q' i') := fun q' i' z => by
        rcases z with ⟨z1, z2, z3⟩ | z
        · by_cases y : i' = i
          · exact Or.inl ⟨z1, y⟩
          · exact Or.inr (Or.inl ⟨z1, by omega, z3⟩)
        · exact Or.inr (Or.inr z)
      have ei : ((i + 1 : Nat) : Int) = (i : Int) + 1 := by omega
      have hl3 : ((i + 1 : Nat) : Int) < (jsc G p0).2.1 → high = if ((i + 1 : Nat) : Int) = 0 then lo else (jsc G p0).2.2.1 ((i + 1 : Nat) : Int) := fun z => by
        rw [if_neg (by omega), ← hhi, if_pos (by omega), ei]
      have lab : (l3, high, dep + 1) = jkl (jsc G) p0 i (L p0) := by
        rw [hL0, hl, ← hhi]
        rfl
      by_cases hA : jsn (jc_i K1 91) ((jsc G p0).2.2.2 i) = 0
      · obtain ⟨K2, z1, z2, ⟨z3, z3'⟩, ⟨z4, z4'⟩, z5, z6, z7⟩ := jk_meet1 (a := l3) (b := high) (d := dep + 1) bq1 ⟨by omega, hkid.2⟩ hA
        rw [lab] at z7
        have g87 : ∀ j : Int, j < M → jc_i K2 87 j = jc_i K 87 j := fun j hj => by rw [(z5 j hj).1, f87]
        have np : ∀ z, jsn (jc_i K 91) z ≠ 0 → z ≠ (jsc G p0).2.2.2 i := fun z hz y => hz (by rw [y, ← f91]; exact hA)
        have hL2 : ∀ z, jsn (jc_i K 91) z ≠ 0 → jup L ((jsc G p0).2.2.2 i) (jkl (jsc G) p0 i (L p0)) z = L z := fun z hz => jupN (np z hz)
        have I2 : jWi (jsc G) (fr_to G) (jsn (jc_i K2 91)) (jup L ((jsc G p0).2.2.2 i) (jkl (jsc G) p0 i (L p0))) (jup ρ ((jsc G p0).2.2.2 i) (ρ p0 + 1)) (jup pa ((jsc G p0).2.2.2 i) (p0, (i : Int))) (fun q' i' => (q' = p0 ∧ ((i + 1 : Nat) : Int) ≤ i' ∧ jed (jsc G) (fr_to G) q' i') ∨ jPq G (jc_i K2 87) ((a : Int) + 1) ((M + 1 : Nat) : Int) q' i') (n' + jec (jsc G) (fr_to G) ((jsc G p0).2.2.2 i)) D := by
          refine hI.new hA0 hed rfl hkid (by rw [← f91]; exact hA) z4 (fun z hz => by rw [z4' z hz, f91]) jupH (fun z hz => jupN hz) (fun q' i' z => ?_) (fun i' z => Or.inr ⟨M, by omega, by omega, z6, z⟩)
          rcases hPe q' i' z with y | y | ⟨j, j0, j1, j2, j3⟩
          · exact Or.inl y
          · exact Or.inr (Or.inl y)
          · exact Or.inr (Or.inr ⟨j, j0, by omega, by rw [g87 j j1]; exact j2, j3⟩)
        have sM : jSm G (jc_i K2 87) (M + 1) = jSm G (jc_i K 87) M + jec (jsc G) (fr_to G) ((jsc G p0).2.2.2 i) := by
          have : jSm G (jc_i K2 87) M = jSm G (jc_i K 87) M := jSm_e (fun j hj => g87 j (by omega))
          rw [← this]
          show jsum _ M + jec (jsc G) (fr_to G) (jc_i K2 87 (M : Int)) = _
          rw [z6]
          rfl
        have sa : jSm G (jc_i K2 87) a = jSm G (jc_i K 87) a := jSm_e (fun j hj => g87 j (by omega))
        obtain ⟨K', L', ρ', pa', M', n2, D', u1, u2, u3, u4, u5, u6, u7, u8, u9, u10, u11⟩ := ih (i + 1) m K2 high _ _ _ (M + 1) (n' + jec (jsc G) (fr_to G) ((jsc G p0).2.2.2 i)) D (by omega) (by omega) (h1.w z2 (fun _ _ _ => rfl)) (z2.k hq.1 hq.2 hp1) z7 (by omega) (by rw [g87 a (by omega)]; exact e0) ⟨by rw [(z5 a (by omega)).2.2.1, f89]; exact el1, by rw [(z5 a (by omega)).2.2.2, f90]; exact el2, by rw [(z5 a (by omega)).2.1, f88]; exact el3⟩ hl3 I2 (by rw [sM, sa]; omega) (fun z hz => by rw [z4' z (np z (hP z hz)), f91]; exact hP z hz) (by rw [z3, ei]; exact w1.cg (fun j => jFi.same (fun z hz => hL2 z (hP z hz)))) (by rw [z3]; exact w7) (by rw [z3', v9]; exact hv.lc (fun z hz => hL2 z (hP z hz)))
        refine ⟨K', L', ρ', pa', M', n2, D', ?_, (o1.1.trans z2).trans u2, u3, by omega, fun j hj => by rw [u5 j (by omega), g87 j hj], u6, u7, u8, u9, u10, fun z hz => ?_⟩
        · rw [z1, jo_bs]
          rw [ei] at u1
          exact u1
        · rw [u11 z (by rw [z4' z (np z hz), f91]; exact hz)]
          exact hL2 z hz
      · obtain ⟨K2, z1, z2⟩ := jk_meet0 (a := l3) (b := high) (d := dep + 1) bq1 ⟨by omega, hkid.2⟩ hA
        obtain ⟨bq2, g91, g87, g88, g89, g90⟩ := z2.q bq1
        have I2 : jWi (jsc G) (fr_to G) (jsn (jc_i K2 91)) L ρ pa (fun q' i' => (q' = p0 ∧ ((i + 1 : Nat) : Int) ≤ i' ∧ jed (jsc G) (fr_to G) q' i') ∨ jPq G (jc_i K2 87) ((a : Int) + 1) M q' i') n' (D + 1) := by
          rw [g91, f91, g87, f87]
          exact hI.old (by rw [← f91]; exact hA) hPe
        obtain ⟨K', L', ρ', pa', M', n2, D', u1, u2, u3, u4, u5, u6, u7, u8, u9, u10, u11⟩ := ih (i + 1) m K2 high L ρ pa M n' (D + 1) (by omega) (by omega) (h1.w z2.1 (fun _ _ _ => rfl)) (z2.1.k hq.1 hq.2 hp1) bq2 aM (by rw [g87, f87]; exact e0) ⟨by rw [g89, f89]; exact el1, by rw [g90, f90]; exact el2, by rw [g88, f88]; exact el3⟩ hl3 I2 (by rw [g87, f87]; omega) (fun z hz => by rw [g91, f91]; exact hP z hz) (by
          rw [z2.2.2, ei]
          exact (w1.ad True (by decide) (fun _ => rfl) (fun z => absurd trivial z)).cg (fun j => jFi.more)) (by rw [z2.2.2]; exact jmn_7 w7 (by decide)) (by rw [z2.2.1 86 9 (by omega), v9]; exact hv)
        refine ⟨K', L', ρ', pa', M', n2, D', ?_, (o1.1.trans z2.1).trans u2, u3, u4, fun j hj => by rw [u5 j hj, g87, f87], u6, u7, u8, u9, u10, fun z hz => ?_⟩
        · rw [z1, jo_bs]
          rw [ei] at u1
          exact u1
        · exact u11 z (by rw [g91, f91]; exact hz)
theorem jbd_rk {c : jp_C} {lo hi d : Int} (hk : c.1 = 2) (hs : jst c) : (∃ i', 0 ≤ i' ∧ i' < c.2.1 ∧ jbd c lo hi i') ↔ ¬ jrk c (lo, hi, d) := by
  constructor
  · rintro ⟨i, i0, i1, i2, i3⟩ z
    have a := z (i + 1) (by omega) i2 (Or.inr (by omega))
    have a1 : lo ≤ c.2.2.1 (i + 1) := a.1
    have a2 : c.2.2.1 (i + 1) < hi := a.2
    rcases i3 with y | y
    · by_cases e : i = 0
      · rw [if_pos e] at y; omega
      · rw [if_neg e] at y
        have := hs hk i (by omega) i2
        omega
    · omega
  · intro z
    rcases Classical.em (∃ i', 0 ≤ i' ∧ i' < c.2.1 ∧ jbd c lo hi i') with y | y
    · exact y
    · refine absurd (fun i i0 i1 i2 => ?_) z
      have nb : ∀ j, 0 ≤ j → j + 1 < c.2.1 → ¬ (c.2.2.1 (j + 1) < (if j = 0 then lo else c.2.2.1 j) ∨ hi ≤ c.2.2.1 (j + 1)) := fun j j0 j1 x => y ⟨j, j0, by omega, j1, x⟩
      have i1' : 1 ≤ i := by omega
      have key : ∀ m : Nat, (m : Int) + 1 < c.2.1 → lo ≤ c.2.2.1 ((m : Int) + 1) := fun m => by
        induction m with
        | zero =>
          intro h
          have := nb 0 (by decide) (by omega)
          rw [if_pos rfl] at this
          show lo ≤ c.2.2.1 (((0 : Nat) : Int) + 1)
          rw [show ((0 : Nat) : Int) + 1 = 0 + 1 from rfl]
          omega
        | succ m ih =>
          intro h
          have a := ih (by omega)
          have b := hs hk ((m : Int) + 1) (by omega) (by omega)
          rw [show (((m + 1 : Nat) : Nat) : Int) + 1 = (m : Int) + 1 + 1 by omega]
          omega
      have a := key (i - 1).toNat (by omega)
      rw [show (((i - 1).toNat : Nat) : Int) + 1 = i by omega] at a
      have b := nb (i - 1) (by omega) (by omega)
      rw [show i - 1 + 1 = i by omega] at b
      show lo ≤ c.2.2.1 i ∧ c.2.2.1 i < hi
      refine ⟨a, ?_⟩
      by_cases x : c.2.2.1 i < hi
      · exact x
      · exact absurd (Or.inr (by omega)) b
end
