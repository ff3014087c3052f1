/-! CHECK: no fault while nothing has fallen -/
theorem jsum_ad {f g h : Int → Nat} : ∀ n : Nat, (∀ i : Nat, i < n → f i + g i = h i) → jsum f n + jsum g n = jsum h n
  | 0, _ => rfl
  | n + 1, e => by
    have a := jsum_ad (f := f) (g := g) (h := h) n (fun i hi => e i (by omega))
    have b := e n (by omega)
    show (jsum f n + f n) + (jsum g n + g n) = jsum h n + h n
    omega
/-- unlike pages with Q are at most those with Q -/
theorem jct_inj : ∀ (k : Nat) (Q : Int → Prop) [DecidablePred Q] (c : Nat → Int), (∀ i, i < k → (0 ≤ c i ∧ c i < 24) ∧ Q (c i)) → (∀ i j, i < k → j < k → c i = c j → i = j) → k ≤ jsum (fun p => if Q p then 1 else 0) 24
  | 0, _, _, _, _, _ => Nat.zero_le _
  | k + 1, Q, _, c, h, hi => by
    obtain ⟨⟨b0, b1⟩, hQ⟩ := h k (by omega)
    have e : (((c k).toNat : Nat) : Int) = c k := by omega
    have a := jct_inj k (fun p => Q p ∧ p ≠ c k) c (fun i hik => ⟨(h i (by omega)).1, (h i (by omega)).2, fun z => by have := hi i k (by omega) (by omega) z; omega⟩) (fun i j hik hjk z => hi i j (by omega) (by omega) z)
    have b := jsum_u (f := fun p => if Q p ∧ p ≠ c k then 1 else 0) (g := fun p => if Q p then 1 else 0) (j := (c k).toNat) (d := 1) (by
      rw [e]
      show (if Q (c k) ∧ c k ≠ c k then 1 else 0) + 1 = if Q (c k) then 1 else 0
      rw [if_neg (fun z => z.2 rfl), if_pos hQ]) 24 (by omega) (fun i hi24 hne => by
      show (if Q (i : Int) ∧ (i : Int) ≠ c k then 1 else 0) = if Q (i : Int) then 1 else 0
      by_cases q : Q (i : Int)
      · rw [if_pos ⟨q, by omega⟩, if_pos q]
      · rw [if_neg (fun z => q z.1), if_neg q])
    omega
section
variable {C : Int → jp_C} {T A : Int → Int} {L : Int → jlb} {ρ : Int → Nat} {pa : Int → Int × Int} {Pe : Int → Int → Prop} {n D : Nat}
/-- what holds of the root and goes down holds of all that were come to -/
theorem jWi.ind (h : jWi C T A L ρ pa Pe n D) {Q : Int → Prop} (h0 : Q 0) (hs : ∀ q i, A q ≠ 0 → jed C T q i → Q q → L ((C q).2.2.2 i) = jkl C q i (L q) → Q ((C q).2.2.2 i)) : ∀ (m : Nat) (p : Int), ρ p < m → A p ≠ 0 → Q p := by
  intro m
  induction m with
  | zero => intro p h1; omega
  | succ m ih =>
    intro p h1 h2
    by_cases e : p = 0
    · rw [e]; exact h0
    · obtain ⟨c1, c2, c3, c4, c5⟩ := h.2.2.1 p h2 e
      have := hs _ _ c2 c1 (ih _ (by omega) c2) (by rw [c3]; exact c4)
      rw [c3] at this
      exact this
/-- a tree is walked once -/
theorem jWi.once {lo hi rk : Int → Int} (h : jWi C T A L ρ pa (fun _ _ => False) 0 D) (hT : jT C lo hi rk) : D = 0 := by
  have ti : ∀ q i, A q ≠ 0 → jed C T q i → jT_i C q i := fun q i hq he => ⟨h.2.1 q hq, he.1.2, he.2.1, he.2.2⟩
  have par : ∀ q i, A q ≠ 0 → jed C T q i → A ((C q).2.2.2 i) ≠ 0 ∧ (1 ≤ (C q).2.2.2 i ∧ (C q).2.2.2 i < 24) ∧ (pa ((C q).2.2.2 i)).1 = q := fun q i hq he => by
    have cb := jT_child hT.1 (ti q i hq he)
    unfold jT_c at cb
    have ha : A ((C q).2.2.2 i) ≠ 0 := by
      rcases h.2.2.2.1 q i hq he with z | z
      · exact z.elim
      · exact z.1
    obtain ⟨c1, c2, c3, _⟩ := h.2.2.1 _ ha (by omega)
    exact ⟨ha, cb, (hT.2.2.2.1 _ _ _ _ (ti _ _ c2 c1) (ti q i hq he) c3).1⟩
  -- children by parents
  have key : ∀ n : Nat, n ≤ 24 → jsum (fun p => if A p = 0 then 0 else jec C T p) n ≤ jsum (fun p => if (A p ≠ 0 ∧ p ≠ 0) ∧ (pa p).1 < n then 1 else 0) 24 := by
    intro n
    induction n with
    | zero => intro _; exact Nat.zero_le _
    | succ n ih =>
      intro hn
      have ih := ih (by omega)
      have cnt : (if A (n : Int) = 0 then 0 else jec C T n) ≤ jsum (fun p => if (A p ≠ 0 ∧ p ≠ 0) ∧ (pa p).1 = n then 1 else 0) 24 := by
        by_cases a0 : A (n : Int) = 0
        · rw [if_pos a0]; exact Nat.zero_le _
        · rw [if_neg a0]
          unfold jec
          by_cases c : T (n : Int) = 0 ∧ (C (n : Int)).1 = 2
          · rw [if_pos c]
            refine jct_inj _ (fun p => (A p ≠ 0 ∧ p ≠ 0) ∧ (pa p).1 = n) (fun i => (C (n : Int)).2.2.2 i) (fun i hi => ?_) (fun i j hi hj e => ?_)
            · have he : jed C T n i := ⟨c, by omega, by omega⟩
              obtain ⟨b1, b2, b3⟩ := par _ _ a0 he
              exact ⟨⟨by omega, b2.2⟩, ⟨b1, by omega⟩, b3⟩
            · have e1 := (hT.2.2.2.1 _ _ _ _ (ti n i a0 ⟨c, by omega, by omega⟩) (ti n j a0 ⟨c, by omega, by omega⟩) e).2
              omega
          · rw [if_neg c]; exact Nat.zero_le _
      have ad := jsum_ad (f := fun p => if (A p ≠ 0 ∧ p ≠ 0) ∧ (pa p).1 < n then 1 else 0) (g := fun p => if (A p ≠ 0 ∧ p ≠ 0) ∧ (pa p).1 = n then 1 else 0) (h := fun p => if (A p ≠ 0 ∧ p ≠ 0) ∧ (pa p).1 < ((n + 1 : Nat) : Int) then 1 else 0) 24 (fun i _ => by
        show (if (A (i : Int) ≠ 0 ∧ (i : Int) ≠ 0) ∧ (pa i).1 < (n : Int) then 1 else 0) + (if (A (i : Int) ≠ 0 ∧ (i : Int) ≠ 0) ∧ (pa i).1 = (n : Int) then 1 else 0) = if (A (i : Int) ≠ 0 ∧ (i : Int) ≠ 0) ∧ (pa i).1 < ((n + 1 : Nat) : Int) then 1 else 0
        by_cases a : A (i : Int) ≠ 0 ∧ (i : Int) ≠ 0
        · by_cases b : (pa i).1 < (n : Int)
          · rw [if_pos ⟨a, b⟩, if_neg (fun z => by have := z.2; omega), if_pos ⟨a, by omega⟩]
          · by_cases d : (pa i).1 = (n : Int)
            · rw [if_neg (fun z => b z.2), if_pos ⟨a, d⟩, if_pos ⟨a, by omega⟩]
            · rw [if_neg (fun z => b z.2), if_neg (fun z => d z.2), if_neg (fun z => by have := z.2; omega)]
        · rw [if_neg (fun z => a z.1), if_neg (fun z => a z.1), if_neg (fun z => a z.1)])
      show jsum _ n + (if A (n : Int) = 0 then 0 else jec C T n) ≤ _
      omega
  have k24 := key 24 (Nat.le_refl _)
  have le : jsum (fun p => if (A p ≠ 0 ∧ p ≠ 0) ∧ (pa p).1 < ((24 : Nat) : Int) then 1 else 0) 24 ≤ jsum (fun p => if A p ≠ 0 ∧ p ≠ 0 then 1 else 0) 24 := jsum_le 24 (fun i _ => by
    show (if (A (i : Int) ≠ 0 ∧ (i : Int) ≠ 0) ∧ (pa i).1 < ((24 : Nat) : Int) then 1 else 0) ≤ if A (i : Int) ≠ 0 ∧ (i : Int) ≠ 0 then 1 else 0
    by_cases a : A (i : Int) ≠ 0 ∧ (i : Int) ≠ 0
    · rw [if_pos a]; split <;> decide
    · rw [if_neg (fun z => a z.1)]; exact Nat.zero_le _)
  have one := jsum_u (f := fun p => if A p ≠ 0 ∧ p ≠ 0 then 1 else 0) (g := fun p => if A p = 0 then 0 else 1) (j := 0) (d := 1) (by
    show (if A ((0 : Nat) : Int) ≠ 0 ∧ ((0 : Nat) : Int) ≠ 0 then 1 else 0) + 1 = if A ((0 : Nat) : Int) = 0 then 0 else 1
    rw [if_neg (fun z => z.2 rfl), if_neg (show ¬ A ((0 : Nat) : Int) = 0 from h.1.1)]) 24 (by decide) (fun i _ hi => by
    show (if A (i : Int) ≠ 0 ∧ (i : Int) ≠ 0 then 1 else 0) = if A (i : Int) = 0 then 0 else 1
    by_cases a : A (i : Int) = 0
    · rw [if_neg (fun z => z.1 a), if_pos a]
    · rw [if_pos ⟨a, by omega⟩, if_neg a])
  have sm := h.2.2.2.2.1
  have ec : jcs' A = jsum (fun p => if A p = 0 then 0 else 1) 24 := rfl
  omega
end
section
variable {K : jc_K} {G : jg_G} {N k : Nat} {W : jZW}
theorem jcheck (hs : jSt K G N k W) : ∃ K', fc133 K = some (K', 0) ∧ jSt K' G N k W := by
  obtain ⟨K', A, w, w', L, ρ, pa, D, b1, b2, b3, b4, b5, b6⟩ := jk_100 jo_N 0 K hs.I (by decide) (by decide) (by decide) (fun p _ _ => by omega)
  obtain ⟨lo, hi, rk, hT0⟩ := hs.T
  have sn : ∀ z, 0 ≤ z → z < 24 → jp_e (jh G N z) (jsc G z) ∧ fr_to G z = 0 := fun z z0 z1 => by
    obtain ⟨s1, s2, s3, s4, s5, s6, s7, s8, s9⟩ := jN_seen hs.2.2.2.1.1 (p := z) ⟨z0, z1⟩
    have e : jh G (jv G z N) z = jh G N z := jh_v G z N
    rw [e] at s6 s9
    exact ⟨s6.e2 (jh_row_r (by rw [s6.2.1]; exact s9.1.2)), s8⟩
  have he : ∀ z, 0 ≤ z → z < 24 → jp_e (jh G N z) (jsc G z) := fun z z0 z1 => (sn z z0 z1).1
  have hT : jTs (jsc G) lo hi rk := hT0.e he
  obtain ⟨ht, d1, d2⟩ := (hs.2.2.2.2.1.1.1.D).e he
  have hz := hs.z
  have D0 : D = 0 := b3.once hT.1
  have rg := b3.2.1
  have ti : ∀ q i, A q ≠ 0 → jed (jsc G) (fr_to G) q i → jT_i (jsc G) q i := fun q i hq hd => ⟨rg q hq, hd.1.2, hd.2.1, hd.2.2⟩
  have lab : ∀ p, A p ≠ 0 → (jsc G p).1 ≠ 0 ∧ ((L p).1 = 0 ∨ (L p).1 ≤ lo p) ∧ ((L p).2.1 = 32 ∨ hi p ≤ (L p).2.1) ∧ (L p).2.2 + ht p = ht 0 := fun p hp => by
    refine b3.ind (Q := fun p => (jsc G p).1 ≠ 0 ∧ ((L p).1 = 0 ∨ (L p).1 ≤ lo p) ∧ ((L p).2.1 = 32 ∨ hi p ≤ (L p).2.1) ∧ (L p).2.2 + ht p = ht 0) ?_ (fun q i hq hd ⟨x1, x2, x3, x4⟩ hl => ?_) _ p (Nat.lt_succ_self _) hp
    · rw [b3.1.2]
      exact ⟨hT.1.2.1, Or.inl rfl, Or.inl rfl, by show 0 + ht 0 = ht 0; omega⟩
    · obtain ⟨y1, y2, y3, y4⟩ := hT.1.2.2.1 q i (ti q i hq hd)
      have y5 := d2 q i (ti q i hq hd)
      unfold jT_c at y1 y2 y3 y4 y5
      show (jsc G ((jsc G q).2.2.2 i)).1 ≠ 0 ∧ ((L ((jsc G q).2.2.2 i)).1 = 0 ∨ (L ((jsc G q).2.2.2 i)).1 ≤ lo ((jsc G q).2.2.2 i)) ∧ ((L ((jsc G q).2.2.2 i)).2.1 = 32 ∨ hi ((jsc G q).2.2.2 i) ≤ (L ((jsc G q).2.2.2 i)).2.1) ∧ (L ((jsc G q).2.2.2 i)).2.2 + ht ((jsc G q).2.2.2 i) = ht 0
      rw [hl]
      unfold jkl
      dsimp only
      have i1 := hd.2.2
      refine ⟨y1, ?_, ?_, by omega⟩
      · by_cases e : i = 0
        · rw [if_pos e] at y3 ⊢
          omega
        · rw [if_neg e] at y3 ⊢
          exact Or.inr y3
      · by_cases e : i + 1 < (jsc G q).2.1
        · rw [if_neg (by omega)] at y4
          rw [if_pos e]
          exact Or.inr y4
        · rw [if_pos (by omega)] at y4
          rw [if_neg e]
          omega
  have w7 : w = 7 := by
    rcases b5 with z | z
    · exact z
    · exfalso
      obtain ⟨j, j0, j1, j2⟩ := (b4.2 5 (by decide) (by decide)).1 z
      rcases j2 with ⟨_, p, hp, x⟩ | ⟨_, x | ⟨p, hp, x1, x2⟩⟩ | ⟨_, p, hp, x1, x2, x3⟩ | ⟨_, p, p', hp, hp', ⟨x1, x2⟩, ⟨x3, x4⟩, x5⟩ | ⟨_, p, hp, x1, x2, x3, x4⟩
      · exact x (sn p (rg p hp).1 (rg p hp).2).2
      · exact x D0
      · exact (lab p hp).1 x2
      · obtain ⟨y1, y2, y3, y4⟩ := lab p hp
        refine x3 (fun i i0 i1 hk => ?_)
        have b := jp_cell (hT.1.1 p (rg p hp).1 (rg p hp).2) i0 i1
        have kk : (jsc G p).1 = 1 ∨ 0 < i := hk.imp id (fun z => by omega)
        have l1 := (hT.1.2.2.2.2.2 p i (rg p hp).1 (rg p hp).2 y1 i0 i1 kk).1
        have l2 := hT.2.1 p i (rg p hp).1 (rg p hp).2 y1 i0 i1 kk
        omega
      · have a := (lab p hp).2.2.2
        have b := (lab p' hp').2.2.2
        rw [d1 p (rg p hp).1 (rg p hp).2 x2] at a
        rw [d1 p' (rg p' hp').1 (rg p' hp').2 x4] at b
        omega
      · obtain ⟨e1, e2, _⟩ := he p (rg p hp).1 (rg p hp).2
        by_cases p0 : p = 0
        · rcases x4 with x4 | x4
          · exact x4 p0
          · rw [p0] at e1 e2 x3 x4
            have := hz.2 (e1.trans x4)
            have e2' : (jh G N 0).2.1 = (jsc G 0).2.1 := e2
            have : 2 ≤ (jh G N 0).2.1 := this
            omega
        · have : 0 < (jh G N p).2.1 := hz.1 p (by have := (rg p hp).1; omega) (rg p hp).2 (by
            show (jh G N p).1 ≠ 0
            rw [e1]; exact x2)
          omega
  have all : ∀ p, 0 ≤ p → p < 24 → (jsc G p).1 ≠ 0 → A p ≠ 0 := fun p p0 p1 pk ha => by
    refine b3.1.1 (jT_up hT.1 (Q := fun z => A z = 0) (fun q i hi hc => ?_) _ p p0 p1 pk (Nat.le_refl _) ha)
    by_cases e : A q = 0
    · exact e
    · exfalso
      rcases b3.2.2.2.1 q i e ⟨⟨(sn q hi.1.1 hi.1.2).2, hi.2.1⟩, hi.2.2.1, hi.2.2.2⟩ with z | z
      · exact z
      · exact z.1 hc
  have w7' : w' = 7 := by
    rcases b6 with ⟨⟨p, p0, p1, p2, _, p3⟩, _⟩ | ⟨_, e⟩
    · exact absurd p2 (all p p0 p1 p3)
    · rw [e, w7]
  refine ⟨K', ?_, hs.w b2⟩
  unfold fc133 fc100
  rw [b1, jo_bs, w7', if_pos rfl]
end
