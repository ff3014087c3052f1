/-! CHECK, the reference's walk as a whole -/
def jSk (G X : jg_G) (A : Int → Int) (L : Int → jlb) (n : Nat) (ed : Nat → Int × Int) : Prop := ∀ j : Nat, j < n → jed (jsc G) (fr_to G) (ed j).1 (ed j).2 ∧ A (ed j).1 ≠ 0 ∧ X 117 (4 * (j : Int)) = (jsc G (ed j).1).2.2.2 (ed j).2 ∧ X 117 (4 * (j : Int) + 1) = (jkl (jsc G) (ed j).1 (ed j).2 (L (ed j).1)).1 ∧ X 117 (4 * (j : Int) + 2) = (jkl (jsc G) (ed j).1 (ed j).2 (L (ed j).1)).2.1 ∧ X 117 (4 * (j : Int) + 3) = (jkl (jsc G) (ed j).1 (ed j).2 (L (ed j).1)).2.2
theorem jmn_9 {w f : Int} (h : w = 9 ∨ w ≤ 5) (hf : f ≤ 5) : jmn w f = 9 ∨ jmn w f ≤ 5 := by
  unfold jmn
  split <;> omega
section
variable {K : jc_K} {G : jg_G} {k : Nat}
theorem jIn.kid (h : jIn K G k) {q i : Int} (hq : 0 ≤ q ∧ q < 24) (he : jed (jsc G) (fr_to G) q i) : (1 ≤ (jsc G q).2.2.2 i ∧ (jsc G q).2.2.2 i < 24) ∧ jec (jsc G) (fr_to G) q ≤ 4 := by
  obtain ⟨rb, ht⟩ := h.see hq
  obtain ⟨_, ⟨hr, hw, hs⟩, _⟩ := ht.resolve_left (fun z => by rw [he.1.1] at z; exact absurd z.2 (by decide))
  rcases hw.2 with w | w | w
  · have := w.1; have := he.1.2; omega
  · have := w.1; have := he.1.2; omega
  · refine ⟨(w.2.2.2.1 i he.2.1 he.2.2).2, ?_⟩
    unfold jec
    rw [if_pos he.1]
    omega
theorem jIn.ec4 (h : jIn K G k) {q : Int} (hq : 0 ≤ q ∧ q < 24) : jec (jsc G) (fr_to G) q ≤ 4 := by
  unfold jec
  by_cases e : fr_to G q = 0 ∧ (jsc G q).1 = 2
  · rw [if_pos e]
    by_cases z : 0 < (jsc G q).2.1
    · have := (h.kid (i := 0) hq ⟨e, Int.le_refl _, z⟩).2
      unfold jec at this
      rw [if_pos e] at this
      exact this
    · omega
  · rw [if_neg e]; decide
/-- what one pop does to the faults -/
theorem jpop_w {w w' lv lv' p : Int} {P P' : Int → Prop} {L : Int → jlb} {D d : Nat} {X : jg_G} {e : Nat} {F1 : Prop} (hs : fr_to G p = 0 ∨ fr_to G p = 1) (hP : ∀ z, P' z ↔ P z ∨ z = p) (hw : jwI w (jFd (jsc G) (fr_to G) P L D)) (h9 : w = 9 ∨ w ≤ 5) (hv : jlv (jsc G) (fr_to G) P L lv) (hd : (L p).2.2 = d) (hX : X 118 p = 0) (c : (fr_to G p ≠ 0 ∧ w' = 1 ∧ lv' = lv ∧ e = 0) ∨ (fr_to G p = 0 ∧ (X 118 p ≠ 0 ∨ (jsc G p).1 = 0) ∧ w' = jmn w 2 ∧ lv' = lv ∧ e = 0) ∨ (fr_to G p = 0 ∧ X 118 p = 0 ∧ (jsc G p).1 ≠ 0 ∧ (∃ w1 w2, (¬ jrk (jsc G p) (L p) → w1 = jmn w 3) ∧ (¬ ¬ jrk (jsc G p) (L p) → w1 = w) ∧ ((jsc G p).2.1 = 0 ∧ (p ≠ 0 ∨ (jsc G p).1 = 2) → w2 = jmn w1 5) ∧ (¬ ((jsc G p).2.1 = 0 ∧ (p ≠ 0 ∨ (jsc G p).1 = 2)) → w2 = w1) ∧ ((jsc G p).1 = 1 ∧ lv ≠ -1 ∧ lv ≠ (d : Int) → w' = jmn w2 4) ∧ (¬ ((jsc G p).1 = 1 ∧ lv ≠ -1 ∧ lv ≠ (d : Int)) → w' = w2)) ∧ lv' = (if (jsc G p).1 = 1 then (d : Int) else lv) ∧ e = jec (jsc G) (fr_to G) p ∧ F1)) : jwI w' (jFd (jsc G) (fr_to G) P' L D) ∧ (w' = 9 ∨ w' ≤ 5) ∧ jlv (jsc G) (fr_to G) P' L lv' ∧ e = jec (jsc G) (fr_to G) p ∧ ((∃ i, jed (jsc G) (fr_to G) p i) → F1) := by
  have ec0 : ¬ (fr_to G p = 0 ∧ (jsc G p).1 = 2) → jec (jsc G) (fr_to G) p = 0 := fun z => by
    unfold jec
    rw [if_neg z]
  rcases c with ⟨t, w1, l1, e1⟩ | ⟨t, o, w1, l1, e1⟩ | ⟨t, o, k0, ⟨w1, w2, a1, a2, a3, a4, a5, a6⟩, l1, e1, f1⟩
  · subst w1 l1 e1
    refine ⟨jwI.one (jFd.torn hP t), Or.inr (by decide), hv.none hP (Or.inl t) (fun _ _ => rfl), (ec0 (fun z => t z.1)).symm, fun ⟨i, z⟩ => absurd z.1.1 t⟩
  · have k0 : (jsc G p).1 = 0 := o.resolve_left (fun z => z hX)
    subst w1 l1 e1
    refine ⟨(hw.ad True (by decide) (fun _ => rfl) (fun z => absurd trivial z)).cg (fun j => jFd.free hP t k0), jmn_9 h9 (by decide), hv.none hP (Or.inr (by omega)) (fun _ _ => rfl), (ec0 (fun z => by omega)).symm, fun ⟨i, z⟩ => by have := z.1.2; omega⟩
  · subst l1 e1
    have b1 := hw.ad (w' := w1) (f := 3) (¬ jrk (jsc G p) (L p)) (by decide) a1 a2
    have b2 := b1.ad (w' := w2) (f := 5) ((jsc G p).2.1 = 0 ∧ (p ≠ 0 ∨ (jsc G p).1 = 2)) (by decide) a3 a4
    have b3 := b2.ad (w' := w') (f := 4) ((jsc G p).1 = 1 ∧ lv ≠ -1 ∧ lv ≠ (d : Int)) (by decide) a5 a6
    refine ⟨b3.cg (fun j => ?_), ?_, ?_, rfl, fun _ => f1⟩
    · rw [← hd]
      exact jFd.page hP t k0 hv
    · have c1 : w1 = 9 ∨ w1 ≤ 5 := by
        rcases Classical.em (¬ jrk (jsc G p) (L p)) with z | z
        · rw [a1 z]; exact jmn_9 h9 (by decide)
        · rw [a2 z]; exact h9
      have c2 : w2 = 9 ∨ w2 ≤ 5 := by
        by_cases z : (jsc G p).2.1 = 0 ∧ (p ≠ 0 ∨ (jsc G p).1 = 2)
        · rw [a3 z]; exact jmn_9 c1 (by decide)
        · rw [a4 z]; exact c1
      by_cases z : (jsc G p).1 = 1 ∧ lv ≠ -1 ∧ lv ≠ (d : Int)
      · rw [a5 z]; exact jmn_9 c2 (by decide)
      · rw [a6 z]; exact c2
    · by_cases k1 : (jsc G p).1 = 1
      · rw [if_pos k1, ← hd]
        exact jlv.leaf hP t k1 (by rw [hd]; omega)
      · rw [if_neg k1]
        exact hv.none hP (Or.inr k1) (fun _ _ => rfl)
theorem jIn.to01 (h : jIn K G k) {p : Int} (hp : 0 ≤ p ∧ p < 24) : fr_to G p = 0 ∨ fr_to G p = 1 := by
  rcases (h.see hp).2 with z | z
  · exact Or.inr z.2
  · exact Or.inl z.1
theorem jr_dfs (h : jIn K G k) : ∀ (u m : Nat) (X : jg_G) (w lv p0 : Int) (n D : Nat) (L : Int → jlb) (ρ : Int → Nat) (pa : Int → Int × Int) (Pe : Int → Int → Prop) (ed : Nat → Int × Int), jx_w G X → jWi (jsc G) (fr_to G) (jsn (X 118)) L ρ pa Pe n D → jSk G X (jsn (X 118)) L n ed → (∀ q i, Pe q i → ∃ j, j < n ∧ ed j = (q, i)) → jwI w (jFd (jsc G) (fr_to G) (fun z => jsn (X 118) z ≠ 0) L D) → (w = 9 ∨ w ≤ 5) → jlv (jsc G) (fr_to G) (fun z => jsn (X 118) z ≠ 0) L lv → n + 5 * (24 - jcs' (jsn (X 118))) ≤ u → n + 3 * (24 - jcs' (jsn (X 118))) ≤ 76 → 6 * u < m → ∃ X' w' lv' L' ρ' pa' D', fo230_s m 65 X w lv n p0 0 0 0 0 0 = fo230_418 jo_N X' w' lv' 0 0 ∧ jx_w G X' ∧ jWi (jsc G) (fr_to G) (jsn (X' 118)) L' ρ' pa' (fun _ _ => False) 0 D' ∧ jwI w' (jFd (jsc G) (fr_to G) (fun z => jsn (X' 118) z ≠ 0) L' D') ∧ (w' = 9 ∨ w' ≤ 5) := by
  intro u
  induction u with
  | zero =>
    intro m X w lv p0 n D L ρ pa Pe ed hX hI hS hP hw h9 hv h1 h2 h3
    have n0 : n = 0 := by omega
    subst n0
    cases m with
    | zero => omega
    | succ m =>
      refine ⟨X, w, lv, L, ρ, pa, D, ?_, hX, hI.pe (fun q i z => ?_), hw, h9⟩
      · conv => lhs; unfold fo230_s
        rw [if_pos rfl, if_pos (by omega)]
        rfl
      · obtain ⟨j, j1, _⟩ := hP q i z
        omega
  | succ u ih =>
    intro m X w lv p0 n D L ρ pa Pe ed hX hI hS hP hw h9 hv h1 h2 h3
    cases n with
    | zero =>
      cases m with
      | zero => omega
      | succ m =>
        refine ⟨X, w, lv, L, ρ, pa, D, ?_, hX, hI.pe (fun q i z => ?_), hw, h9⟩
        · conv => lhs; unfold fo230_s
          rw [if_pos rfl, if_pos (by omega)]
          rfl
        · obtain ⟨j, j1, _⟩ := hP q i z
          omega
    | succ n =>
      obtain ⟨s1, s2, s3, s4, s5, s6⟩ := hS n (by omega)
      generalize eq : (ed n).1 = q at s1 s2 s3 s4 s5 s6
      generalize ei : (ed n).2 = i at s1 s2 s3 s4 s5 s6
      have een : ed n = (q, i) := Prod.ext eq ei
      have hq := hI.2.1 q s2
      generalize ep : (jsc G q).2.2.2 i = p at s3
      have hp : 1 ≤ p ∧ p < 24 := by rw [← ep]; exact (h.kid hq s1).1
      have hρ := hI.2.2.2.2.2 q s2
      have j24 := jcs_24 (jsn (X 118))
      have s6' : X 117 (4 * (n : Int) + 3) = ((ρ q + 1 : Nat) : Int) := by
        rw [s6]
        show (L q).2.2 + 1 = _
        rw [hρ.1]
        omega
      have hl : ((jkl (jsc G) q i (L q)).1, (jkl (jsc G) q i (L q)).2.1, ((ρ q + 1 : Nat) : Int)) = jkl (jsc G) q i (L q) := Prod.ext rfl (Prod.ext rfl (by
        show _ = (L q).2.2 + 1
        rw [hρ.1]
        show ((ρ q + 1 : Nat) : Int) = _
        omega))
      obtain ⟨s, X', w', lv', e, r1, r2, r3, r4, r5, r6⟩ := jr_pop h hX s3 s4 s5 s6' ⟨by omega, hp.2⟩ (by omega) (by omega) w lv p0
      rw [hl] at r6
      have hm : m - s + s = m := by omega
      have r2 := r2 (m - s)
      rw [hm, show (n : Int) + 1 = ((n + 1 : Nat) : Int) by omega, show (n : Int) + (e : Int) = ((n + e : Nat) : Int) by omega] at r2
      rw [r2]
      by_cases hA : jsn (X 118) p = 0
      · have x0 : X 118 p = 0 := (jsn_0 ⟨by omega, hp.2⟩).1 hA
        have hA' : jsn (X' 118) p ≠ 0 := by rw [jsn_1 ⟨by omega, hp.2⟩ (by rw [r4.1]; decide)]; decide
        have hAo : ∀ z, z ≠ p → jsn (X' 118) z = jsn (X 118) z := fun z hz => jsn_o (r4.2 z hz)
        have np : ∀ z, jsn (X 118) z ≠ 0 → z ≠ p := fun z hz y => hz (by rw [y]; exact hA)
        have hPP : ∀ z, jsn (X' 118) z ≠ 0 ↔ jsn (X 118) z ≠ 0 ∨ z = p := fun z => by
          by_cases y : z = p
          · rw [y]; exact ⟨fun _ => Or.inr rfl, fun _ => hA'⟩
          · rw [hAo z y]; exact ⟨Or.inl, fun x => x.resolve_right y⟩
        have L2 : ∀ z, jsn (X 118) z ≠ 0 → jup L p (jkl (jsc G) q i (L q)) z = L z := fun z hz => jupN (np z hz)
        have rw6 : jkl (jsc G) q i (L q) = jup L p (jkl (jsc G) q i (L q)) p := jupH.symm
        rw [rw6] at r6
        obtain ⟨t1, t2, t3, t4, t5⟩ := jpop_w (P := fun z => jsn (X 118) z ≠ 0) (P' := fun z => jsn (X' 118) z ≠ 0) (h.to01 ⟨by omega, hp.2⟩) hPP (hw.cg (fun j => jFd.same L2)) h9 (hv.lc L2) (by
          rw [jupH]
          show (L q).2.2 + 1 = _
          rw [hρ.1]
          show (ρ q : Int) + 1 = ((ρ q + 1 : Nat) : Int)
          omega) x0 r6
        have e4 : e ≤ 4 := by rw [t4]; exact h.ec4 ⟨by omega, hp.2⟩
        have cs := jcs_up ⟨by omega, hp.2⟩ hA hA' hAo
        have j24' := jcs_24 (jsn (X' 118))
        have mm : n + e + 5 * (24 - jcs' (jsn (X' 118))) ≤ u ∧ n + e + 3 * (24 - jcs' (jsn (X' 118))) ≤ 76 ∧ 6 * u < m - s := by
          clear r6 t5 t1 hw hv t3
          omega
        refine ih (m - s) X' w' lv' p (n + e) D (jup L p (jkl (jsc G) q i (L q))) (jup ρ p (ρ q + 1)) (jup pa p (q, i)) (fun q' i' => ∃ j, j < n + e ∧ (if j < n then ed j else (p, ((j - n : Nat) : Int))) = (q', i')) (fun j => if j < n then ed j else (p, ((j - n : Nat) : Int))) r3 ?_ ?_ (fun q i z => z) t1 t2 t3 mm.1 mm.2.1 mm.2.2
        · rw [t4]
          refine hI.new s2 s1 ep hp hA hA' hAo jupH (fun z hz => jupN hz) (fun q' i' z => ?_) (fun i' z => ?_)
          · obtain ⟨j, j1, j2⟩ := hP q' i' z
            by_cases jn : j = n
            · rw [jn, een] at j2
              have a1 : q = q' := congrArg Prod.fst j2
              have a2 : i = i' := congrArg Prod.snd j2
              exact Or.inl ⟨a1.symm, a2.symm⟩
            · refine Or.inr ⟨j, by omega, ?_⟩
              rw [if_pos (by omega)]
              exact j2
          · have ej : jec (jsc G) (fr_to G) p = (jsc G p).2.1.toNat := by
              unfold jec
              rw [if_pos z.1]
            have := z.2
            refine ⟨n + i'.toNat, by omega, ?_⟩
            rw [if_neg (by omega)]
            exact Prod.ext rfl (by show ((n + i'.toNat - n : Nat) : Int) = i'; omega)
        · intro j hj
          dsimp only
          by_cases jn : j < n
          · rw [if_pos jn]
            obtain ⟨a1, a2, a3, a4, a5, a6⟩ := hS j (by omega)
            rw [r5 _ (by omega), r5 _ (by omega), r5 _ (by omega), r5 _ (by omega), hAo _ (np _ a2), L2 _ a2]
            exact ⟨a1, a2, a3, a4, a5, a6⟩
          · rw [if_neg jn]
            have jj : (((j - n : Nat) : Int)) = (j : Int) - n := by omega
            have ez : 0 < jec (jsc G) (fr_to G) p := by omega
            have z2 : fr_to G p = 0 ∧ (jsc G p).1 = 2 := by
              by_cases y : fr_to G p = 0 ∧ (jsc G p).1 = 2
              · exact y
              · unfold jec at ez
                rw [if_neg y] at ez
                exact absurd ez (Nat.lt_irrefl _)
            have ej : jec (jsc G) (fr_to G) p = (jsc G p).2.1.toNat := by
              unfold jec
              rw [if_pos z2]
            have hed : jed (jsc G) (fr_to G) p (((j - n : Nat) : Int)) := ⟨z2, by omega, by omega⟩
            have f := t5 ⟨_, hed⟩ (((j - n : Nat) : Int)) (by omega) (by omega)
            rw [show (n : Int) + ((j - n : Nat) : Int) = j by omega] at f
            exact ⟨hed, hA', f⟩
      · have x0 : X 118 p ≠ 0 := fun z => hA ((jsn_0 ⟨by omega, hp.2⟩).2 z)
        have eA : jsn (X' 118) = jsn (X 118) := funext fun z => by
          by_cases y : z = p
          · rw [y, jsn_1 ⟨by omega, hp.2⟩ (by rw [r4.1]; decide), jsn_1 ⟨by omega, hp.2⟩ x0]
          · exact jsn_o (r4.2 z y)
        have e0 : e = 0 ∧ lv' = lv ∧ ((fr_to G p ≠ 0 ∧ w' = 1) ∨ w' = jmn w 2) := by
          rcases r6 with z | z | z
          · exact ⟨z.2.2.2, z.2.2.1, Or.inl ⟨z.1, z.2.1⟩⟩
          · exact ⟨z.2.2.2.2, z.2.2.2.1, Or.inr z.2.2.1⟩
          · exact absurd z.2.1 x0
        obtain ⟨e0, elv, ew⟩ := e0
        subst e0 elv
        refine ih (m - s) X' w' lv' p (n + 0) (D + 1) L ρ pa (fun q' i' => ∃ j, j < n ∧ ed j = (q', i')) ed r3 ?_ ?_ (fun q i z => z) ?_ ?_ ?_ (by rw [eA]; omega) (by rw [eA]; omega) (by omega)
        · rw [eA]
          refine hI.old (q := q) (i := i) (by rw [ep]; exact hA) (fun q' i' z => ?_)
          obtain ⟨j, j1, j2⟩ := hP q' i' z
          by_cases jn : j = n
          · rw [jn, een] at j2
            have a1 : q = q' := congrArg Prod.fst j2
            have a2 : i = i' := congrArg Prod.snd j2
            exact Or.inl ⟨a1.symm, a2.symm⟩
          · exact Or.inr ⟨j, by omega, j2⟩
        · rw [eA]
          intro j hj
          obtain ⟨a1, a2, a3, a4, a5, a6⟩ := hS j (by omega)
          rw [r5 _ (by omega), r5 _ (by omega), r5 _ (by omega), r5 _ (by omega)]
          exact ⟨a1, a2, a3, a4, a5, a6⟩
        · rw [eA]
          rcases ew with ⟨t, w1⟩ | w1
          · rw [w1]
            exact jwI.one (Or.inl ⟨rfl, p, hA, t⟩)
          · exact (hw.ad True (by decide) (fun _ => w1) (fun z => absurd trivial z)).cg (fun j => jFd.more)
        · rcases ew with ⟨t, w1⟩ | w1
          · rw [w1]; exact Or.inr (by decide)
          · rw [w1]; exact jmn_9 h9 (by decide)
        · rw [eA]; exact hv
theorem jmn_i {w f : Int} : jmn (jmn w f) f = jmn w f := by
  unfold jmn
  by_cases h : f < w
  · rw [if_pos h]; split <;> rfl
  · rw [if_neg h]; exact if_neg h
theorem jmn_6 {w : Int} : jmn (jmn w 6) 6 = jmn w 6 := jmn_i
theorem jr_418 (h : jIn K G k) {v2 v3 : Int} : ∀ (m : Nat) (l : Int) (X : jg_G) (w : Int), jx_w G X → 0 ≤ l → l ≤ 24 → 24 < l + m → ∃ w', (((∃ p, l ≤ p ∧ p < 24 ∧ jsn (X 118) p = 0 ∧ fr_to G p = 0 ∧ (jsc G p).1 ≠ 0) ∧ w' = jmn w 6) ∨ ((¬ ∃ p, l ≤ p ∧ p < 24 ∧ jsn (X 118) p = 0 ∧ fr_to G p = 0 ∧ (jsc G p).1 ≠ 0) ∧ w' = w)) ∧ fo230_418 m X w v2 v3 l = some (X, if w' = 9 then 0 else w') := by
  intro m
  induction m with
  | zero => intro l X w hX h0 h1 h2; omega
  | succ m ih =>
    intro l X w hX h0 h1 h2
    unfold fo230_418
    by_cases e : 24 ≤ l
    · refine ⟨w, Or.inr ⟨fun ⟨p, p0, p1, _⟩ => by omega, rfl⟩, ?_⟩
      rw [if_pos e]
      by_cases z : w = 9
      · rw [if_pos z, if_pos z]
      · rw [if_neg z, if_neg z]
    · rw [if_neg e, if_pos (by omega)]
      have good : ¬ (jsn (X 118) l = 0 ∧ fr_to G l = 0 ∧ (jsc G l).1 ≠ 0) → ∃ w', (((∃ p, l ≤ p ∧ p < 24 ∧ jsn (X 118) p = 0 ∧ fr_to G p = 0 ∧ (jsc G p).1 ≠ 0) ∧ w' = jmn w 6) ∨ ((¬ ∃ p, l ≤ p ∧ p < 24 ∧ jsn (X 118) p = 0 ∧ fr_to G p = 0 ∧ (jsc G p).1 ≠ 0) ∧ w' = w)) ∧ fo230_418 m X w v2 v3 (l + 1) = some (X, if w' = 9 then 0 else w') := fun hg => by
        obtain ⟨w', y1, y2⟩ := ih (l + 1) X w hX (by omega) (by omega) (by omega)
        refine ⟨w', ?_, y2⟩
        rcases y1 with ⟨⟨p, p0, p1, p2⟩, y⟩ | ⟨y0, y⟩
        · exact Or.inl ⟨⟨p, by omega, p1, p2⟩, y⟩
        · refine Or.inr ⟨fun ⟨p, p0, p1, p2⟩ => ?_, y⟩
          by_cases z : p = l
          · rw [z] at p2; exact hg p2
          · exact y0 ⟨p, by omega, p1, p2⟩
      by_cases s0 : X 118 l = 0
      · rw [if_pos s0, if_pos (by omega), jo_le, hX.to]
        obtain ⟨rb, ht⟩ := h.see (p := l) ⟨h0, by omega⟩
        by_cases t0 : fr_to G l = 0
        · obtain ⟨_, ⟨hr, hw, hs⟩, _⟩ := ht.resolve_left (fun z => by rw [z.2] at t0; exact absurd t0 (by decide))
          rw [if_pos t0, jo_le, hX.ro, if_pos (by omega), hX 93 (by decide), hr.1]
          by_cases k0 : (jsc G l).1 = 0
          · rw [if_pos k0, if_pos (by omega)]
            exact good (fun z => z.2.2 k0)
          · rw [if_neg k0, fo228_mn, jo_bs]
            dsimp only
            rw [if_pos (by omega)]
            obtain ⟨w', y1, y2⟩ := ih (l + 1) X (jmn w 6) hX (by omega) (by omega) (by omega)
            refine ⟨w', Or.inl ⟨⟨l, Int.le_refl _, by omega, (jsn_0 ⟨h0, by omega⟩).2 s0, t0, k0⟩, ?_⟩, y2⟩
            rcases y1 with ⟨_, y⟩ | ⟨_, y⟩
            · rw [y, jmn_6]
            · exact y
        · rw [if_neg t0, if_pos (by omega)]
          exact good (fun z => t0 z.2.1)
      · rw [if_neg s0, if_pos (by omega)]
        exact good (fun z => s0 ((jsn_0 ⟨h0, by omega⟩).1 z.1))
theorem jr_15 : ∀ (m : Nat) (l : Int) (X : jg_G) (w lv v3 : Int), jx_w G X → 0 ≤ l → l ≤ 24 → 24 < l + m → (∀ p, 0 ≤ p → p < l → X 118 p = 0) → ∃ X', fo230_15 m X w lv v3 l = fo230_s jo_N 65 (jg_u (jg_u (jg_u (jg_u X' 117 0 0) 117 1 0) 117 2 32) 117 3 0) w lv v3 24 0 0 0 0 0 ∧ jx_w G X' ∧ ∀ p, 0 ≤ p → p < 24 → X' 118 p = 0 := by
  intro m
  induction m with
  | zero => intro l X w lv v3 hX h0 h1 h2; omega
  | succ m ih =>
    intro l X w lv v3 hX h0 h1 h2 hz
    unfold fo230_15
    by_cases e : 24 ≤ l
    · rw [if_pos e, show l = 24 by omega]
      exact ⟨X, rfl, hX, fun p p0 p1 => hz p p0 (by omega)⟩
    · rw [if_neg e, if_pos (by omega), if_pos (by omega)]
      exact ih (l + 1) _ w lv v3 (fun a ha j => by rw [jg_uN (by omega)]; exact hX a ha j) (by omega) (by omega) (by omega) (fun p p0 p1 => by
        by_cases z : p = l
        · rw [z, jg_uH]
        · rw [jg_uI z]; exact hz p p0 (by omega))
/-- the reference's answer -/
theorem jr_230 (h : jIn K G k) : ∃ X w w' L ρ pa D, fo230_15 jo_N G 9 (-1) 1 0 = some (X, if w' = 9 then 0 else w') ∧ jx_w G X ∧ jWi (jsc G) (fr_to G) (jsn (X 118)) L ρ pa (fun _ _ => False) 0 D ∧ jwI w (jFd (jsc G) (fr_to G) (fun z => jsn (X 118) z ≠ 0) L D) ∧ (w = 9 ∨ w ≤ 5) ∧ (((∃ p, 0 ≤ p ∧ p < 24 ∧ jsn (X 118) p = 0 ∧ fr_to G p = 0 ∧ (jsc G p).1 ≠ 0) ∧ w' = jmn w 6) ∨ ((¬ ∃ p, 0 ≤ p ∧ p < 24 ∧ jsn (X 118) p = 0 ∧ fr_to G p = 0 ∧ (jsc G p).1 ≠ 0) ∧ w' = w)) := by
  obtain ⟨X0, a1, a2, a3⟩ := jr_15 (G := G) jo_N 0 G 9 (-1) 1 (fun _ _ _ => rfl) (by decide) (by decide) (by decide) (fun p _ _ => by omega)
  rw [a1]
  have b117 : ∀ z : jg_G, jx_w G z → jx_w G (jg_u (jg_u (jg_u (jg_u z 117 0 0) 117 1 0) 117 2 32) 117 3 0) := fun z hz a ha j => by
    rw [jg_uN (by omega), jg_uN (by omega), jg_uN (by omega), jg_uN (by omega)]
    exact hz a ha j
  have hX1 := b117 X0 a2
  have z118 : ∀ p, 0 ≤ p → p < 24 → jg_u (jg_u (jg_u (jg_u X0 117 0 0) 117 1 0) 117 2 32) 117 3 0 118 p = 0 := fun p p0 p1 => by
    rw [jg_uN (by decide), jg_uN (by decide), jg_uN (by decide), jg_uN (by decide)]
    exact a3 p p0 p1
  have e0 : jg_u (jg_u (jg_u (jg_u X0 117 0 0) 117 1 0) 117 2 32) 117 3 0 117 (4 * ((0 : Nat) : Int)) = 0 := by
    rw [jg_uI (by decide), jg_uI (by decide), jg_uI (by decide)]; exact jg_uH
  have e1 : jg_u (jg_u (jg_u (jg_u X0 117 0 0) 117 1 0) 117 2 32) 117 3 0 117 (4 * ((0 : Nat) : Int) + 1) = 0 := by
    rw [jg_uI (by decide), jg_uI (by decide)]; exact jg_uH
  have e2 : jg_u (jg_u (jg_u (jg_u X0 117 0 0) 117 1 0) 117 2 32) 117 3 0 117 (4 * ((0 : Nat) : Int) + 2) = 32 := by
    rw [jg_uI (by decide)]; exact jg_uH
  have e3 : jg_u (jg_u (jg_u (jg_u X0 117 0 0) 117 1 0) 117 2 32) 117 3 0 117 (4 * ((0 : Nat) : Int) + 3) = ((0 : Nat) : Int) := jg_uH
  generalize jg_u (jg_u (jg_u (jg_u X0 117 0 0) 117 1 0) 117 2 32) 117 3 0 = X1 at hX1 z118 e0 e1 e2 e3
  obtain ⟨s, X', w', lv', e, r1, r2, r3, r4, r5, r6⟩ := jr_pop h hX1 e0 e1 e2 e3 (by decide) (by decide) (by decide) 9 (-1) 24
  have x0 := z118 0 (by decide) (by decide)
  have hA' : jsn (X' 118) 0 ≠ 0 := by rw [jsn_1 (by decide) (by rw [r4.1]; decide)]; decide
  have hAo : ∀ z, z ≠ 0 → jsn (X' 118) z = 0 := fun z hz => by
    by_cases y : 0 ≤ z ∧ z < 24
    · rw [jsn_0 y, r4.2 z hz]; exact z118 z y.1 y.2
    · unfold jsn
      rw [if_neg y]
  have hPP : ∀ z, jsn (X' 118) z ≠ 0 ↔ False ∨ z = 0 := fun z => by
    by_cases y : z = 0
    · rw [y]; exact ⟨fun _ => Or.inr rfl, fun _ => hA'⟩
    · rw [hAo z y]; exact ⟨fun w => absurd rfl w, fun w => absurd (w.resolve_left id) y⟩
  have hw0 : jwI 9 (jFd (jsc G) (fr_to G) (fun _ => False) (fun _ => (0, 32, ((0 : Nat) : Int))) 0) := by
    refine ⟨by decide, fun i i0 i1 => ⟨fun z => by omega, fun ⟨j, j0, j1, j2⟩ => ?_⟩⟩
    rcases j2 with ⟨_, p, z, _⟩ | ⟨_, z | ⟨p, z, _⟩⟩ | ⟨_, p, z, _⟩ | ⟨_, p, p', z, _⟩ | ⟨_, p, z, _⟩
    · exact z.elim
    · exact absurd rfl z
    · exact z.elim
    · exact z.elim
    · exact z.elim
    · exact z.elim
  obtain ⟨t1, t2, t3, t4, t5⟩ := jpop_w (P := fun _ => False) (P' := fun z => jsn (X' 118) z ≠ 0) (L := fun _ => (0, 32, ((0 : Nat) : Int))) (d := 0) (h.to01 (p := 0) (by decide)) hPP hw0 (Or.inl rfl) ⟨fun _ p z => z.elim, fun z => absurd rfl z⟩ rfl x0 r6
  have e4 : e ≤ 4 := by rw [t4]; exact h.ec4 (by decide)
  have rt : jWi (jsc G) (fr_to G) (jsn (X' 118)) (fun _ => (0, 32, ((0 : Nat) : Int))) (fun _ => 0) (fun _ => (0, 0)) (fun q' i' => ∃ j, j < e ∧ ((0 : Int), (j : Int)) = (q', i')) (jec (jsc G) (fr_to G) 0) 0 := jWi.root hA' hAo rfl (fun i' z => by
    have ej : jec (jsc G) (fr_to G) 0 = (jsc G 0).2.1.toNat := by
      unfold jec
      rw [if_pos z.1]
    have := z.2
    exact ⟨i'.toNat, by omega, Prod.ext rfl (by show ((i'.toNat : Nat) : Int) = i'; omega)⟩)
  have cs : jcs' (jsn (X' 118)) = 1 := by
    have a := jcs_up (A := fun _ => 0) (A' := jsn (X' 118)) (p := 0) (by decide) rfl hA' hAo
    have b : jcs' (fun _ => 0) = 0 := by unfold jcs'; decide
    omega
  obtain ⟨X2, w2, lv2, L2, ρ2, pa2, D2, c1, c2, c3, c4, c5⟩ := jr_dfs h 130 (4000 - s) X' w' lv' 0 e 0 (fun _ => (0, 32, ((0 : Nat) : Int))) (fun _ => 0) (fun _ => (0, 0)) (fun q' i' => ∃ j, j < e ∧ ((0 : Int), (j : Int)) = (q', i')) (fun j => (0, (j : Int))) r3 (by rw [t4] at rt ⊢; exact rt) (fun j hj => by
    have ez : 0 < jec (jsc G) (fr_to G) 0 := by omega
    have z2 : fr_to G 0 = 0 ∧ (jsc G 0).1 = 2 := by
      by_cases y : fr_to G 0 = 0 ∧ (jsc G 0).1 = 2
      · exact y
      · unfold jec at ez
        rw [if_neg y] at ez
        exact absurd ez (Nat.lt_irrefl _)
    have ej : jec (jsc G) (fr_to G) 0 = (jsc G 0).2.1.toNat := by
      unfold jec
      rw [if_pos z2]
    have hed : jed (jsc G) (fr_to G) 0 (j : Int) := ⟨z2, by omega, by omega⟩
    have f := t5 ⟨_, hed⟩ (j : Int) (by omega) (by omega)
    rw [show ((0 : Nat) : Int) + (j : Int) = j by omega] at f
    exact ⟨hed, hA', f⟩) (fun q i z => z) t1 t2 t3 (by omega) (by omega) (by omega)
  obtain ⟨w3, d1, d2⟩ := jr_418 h (v2 := lv2) (v3 := 0) jo_N 0 X2 w2 c2 (by decide) (by decide) (by decide)
  refine ⟨X2, w2, w3, L2, ρ2, pa2, D2, ?_, c2, c3, c4, c5, d1⟩
  have r2 := r2 (4000 - s)
  rw [show 4000 - s + s = jo_N by unfold jo_N; omega] at r2
  have e24 : ((0 : Nat) : Int) + 1 = 1 := rfl
  rw [e24, show ((0 : Nat) : Int) + (e : Int) = (e : Int) by omega] at r2
  rw [r2, c1]
  exact d2
end
