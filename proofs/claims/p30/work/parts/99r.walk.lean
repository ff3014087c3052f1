/-! CHECK: a walk over the pages as they are seen, whatever its order -/
abbrev jlb : Type := Int × Int × Int
/-- there is an edge: the i-th child of the page q; C what pages hold, T which are torn -/
def jed (C : Int → jp_C) (T : Int → Int) (q i : Int) : Prop := (T q = 0 ∧ (C q).1 = 2) ∧ 0 ≤ i ∧ i < (C q).2.1
def jec (C : Int → jp_C) (T : Int → Int) (q : Int) : Nat := if T q = 0 ∧ (C q).1 = 2 then (C q).2.1.toNat else 0
/-- a child's least key, the key behind it, its depth -/
def jkl (C : Int → jp_C) (q i : Int) (l : jlb) : jlb := (if i = 0 then l.1 else (C q).2.2.1 i, if i + 1 < (C q).2.1 then (C q).2.2.1 (i + 1) else l.2.1, l.2.2 + 1)
def jcs' (A : Int → Int) : Nat := jsum (fun p => if A p = 0 then 0 else 1) 24
/-- which pages were come to, by a row of marks -/
def jsn (f : Int → Int) : Int → Int := fun p => if 0 ≤ p ∧ p < 24 then (if f p = 0 then 0 else 1) else 0
theorem jsn_0 {f : Int → Int} {p : Int} (hp : 0 ≤ p ∧ p < 24) : jsn f p = 0 ↔ f p = 0 := by
  unfold jsn
  rw [if_pos hp]
  by_cases e : f p = 0
  · rw [if_pos e]; exact ⟨fun _ => e, fun _ => rfl⟩
  · rw [if_neg e]; exact ⟨fun z => absurd z (by decide), fun z => absurd z e⟩
theorem jsn_b {f : Int → Int} {p : Int} (h : jsn f p ≠ 0) : 0 ≤ p ∧ p < 24 := by
  unfold jsn at h
  by_cases e : 0 ≤ p ∧ p < 24
  · exact e
  · rw [if_neg e] at h; exact absurd rfl h
theorem jsn_o {f g : Int → Int} {p : Int} (h : g p = f p) : jsn g p = jsn f p := by
  unfold jsn
  rw [h]
theorem jsn_1 {f : Int → Int} {p : Int} (hp : 0 ≤ p ∧ p < 24) (h : f p ≠ 0) : jsn f p = 1 := by
  unfold jsn
  rw [if_pos hp, if_neg h]
def jWi (C : Int → jp_C) (T A : Int → Int) (L : Int → jlb) (ρ : Int → Nat) (pa : Int → Int × Int) (Pe : Int → Int → Prop) (n D : Nat) : Prop := (A 0 ≠ 0 ∧ L 0 = (0, 32, 0)) ∧ (∀ p, A p ≠ 0 → 0 ≤ p ∧ p < 24) ∧ (∀ p, A p ≠ 0 → p ≠ 0 → jed C T (pa p).1 (pa p).2 ∧ A (pa p).1 ≠ 0 ∧ (C (pa p).1).2.2.2 (pa p).2 = p ∧ L p = jkl C (pa p).1 (pa p).2 (L (pa p).1) ∧ ρ (pa p).1 < ρ p) ∧ (∀ q i, A q ≠ 0 → jed C T q i → Pe q i ∨ (A ((C q).2.2.2 i) ≠ 0 ∧ (D = 0 → pa ((C q).2.2.2 i) = (q, i)))) ∧ jsum (fun p => if A p = 0 then 0 else jec C T p) 24 + 1 = jcs' A + D + n ∧ ∀ p, A p ≠ 0 → (L p).2.2 = ρ p ∧ ρ p + 1 ≤ jcs' A
def jup {α : Type} (f : Int → α) (p : Int) (v : α) : Int → α := fun z => if z = p then v else f z
theorem jupH {α : Type} {f : Int → α} {p : Int} {v : α} : jup f p v p = v := if_pos rfl
theorem jupN {α : Type} {f : Int → α} {p z : Int} {v : α} (h : z ≠ p) : jup f p v z = f z := if_neg h
theorem jcs_24 (A : Int → Int) : jcs' A ≤ 24 := by
  have := jsum_le (f := fun p => if A p = 0 then 0 else 1) (g := fun _ => 1) 24 (fun i _ => by
    show (if A i = 0 then 0 else 1) ≤ 1
    split <;> decide)
  have e : jsum (fun _ => 1) 24 = 24 := rfl
  unfold jcs'
  omega
theorem jcs_up {A A' : Int → Int} {p : Int} (hp : 0 ≤ p ∧ p < 24) (h0 : A p = 0) (h1 : A' p ≠ 0) (ho : ∀ z, z ≠ p → A' z = A z) : jcs' A + 1 = jcs' A' := by
  have e : ((p.toNat : Nat) : Int) = p := by omega
  refine jsum_u (j := p.toNat) (d := 1) ?_ 24 (by omega) (fun i hi hj => ?_)
  · rw [e]
    show (if A p = 0 then 0 else 1) + 1 = (if A' p = 0 then 0 else 1)
    rw [if_pos h0, if_neg h1]
  · show (if A i = 0 then 0 else 1) = (if A' i = 0 then 0 else 1)
    rw [ho i (by omega)]
section
variable {C : Int → jp_C} {T A A' : Int → Int} {L L' : Int → jlb} {ρ ρ' : Int → Nat} {pa pa' : Int → Int × Int} {Pe Pe' : Int → Int → Prop} {n n' D D' : Nat}
theorem jWi.root (h0 : A 0 ≠ 0) (ho : ∀ z, z ≠ 0 → A z = 0) (hL : L 0 = (0, 32, 0)) (hP : ∀ i, jed C T 0 i → Pe 0 i) : jWi C T A L (fun _ => 0) pa Pe (jec C T 0) 0 := by
  have cs : jcs' A = 1 := by
    have a := jcs_up (A := fun _ => 0) (A' := A) (p := 0) (by decide) rfl h0 ho
    have b : jcs' (fun _ => 0) = 0 := by unfold jcs'; decide
    omega
  refine ⟨⟨h0, hL⟩, fun p hp => ?_, fun p hp h => absurd (ho p h) hp, fun q i hq he => ?_, ?_, fun p hp => ?_⟩
  · by_cases e : p = 0
    · omega
    · exact absurd (ho p e) hp
  · by_cases e : q = 0
    · subst e; exact Or.inl (hP i he)
    · exact absurd (ho q e) hq
  · have a := jsum_u (f := fun _ => 0) (g := fun p => if A p = 0 then 0 else jec C T p) (j := 0) (d := jec C T 0) (by
      show 0 + jec C T 0 = (if A 0 = 0 then 0 else jec C T 0)
      rw [if_neg h0]; omega) 24 (by decide) (fun i hi hj => by
      show 0 = (if A i = 0 then 0 else jec C T i)
      rw [if_pos (ho i (by omega))])
    have b : jsum (fun _ => 0) 24 = 0 := rfl
    omega
  · by_cases e : p = 0
    · subst e; rw [hL, cs]; exact ⟨rfl, Nat.le_refl _⟩
    · exact absurd (ho p e) hp
theorem jWi.pe (h : jWi C T A L ρ pa Pe n D) (hP : ∀ q i, Pe q i → Pe' q i) : jWi C T A L ρ pa Pe' n D :=
  ⟨h.1, h.2.1, h.2.2.1, fun q i a b => (h.2.2.2.1 q i a b).imp (hP q i) id, h.2.2.2.2⟩
/-- come to again -/
theorem jWi.old (h : jWi C T A L ρ pa Pe (n + 1) D) {q i : Int} (ha : A ((C q).2.2.2 i) ≠ 0) (hP : ∀ q' i', Pe q' i' → (q' = q ∧ i' = i) ∨ Pe' q' i') : jWi C T A L ρ pa Pe' n (D + 1) := by
  obtain ⟨a, b, c, d, e, f⟩ := h
  refine ⟨a, b, c, fun q' i' h1 h2 => ?_, by omega, f⟩
  rcases d q' i' h1 h2 with z | z
  · rcases hP q' i' z with ⟨rfl, rfl⟩ | y
    · exact Or.inr ⟨ha, fun w => by omega⟩
    · exact Or.inl y
  · exact Or.inr ⟨z.1, fun w => by omega⟩
/-- come to first -/
theorem jWi.new (h : jWi C T A L ρ pa Pe (n + 1) D) {q i p : Int} (hq : A q ≠ 0) (he : jed C T q i) (hc : (C q).2.2.2 i = p) (hp : 1 ≤ p ∧ p < 24) (h0 : A p = 0) (h1 : A' p ≠ 0) (ho : ∀ z, z ≠ p → A' z = A z) (hL : L' p = jkl C q i (L q)) (hL2 : ∀ z, z ≠ p → L' z = L z) (hP : ∀ q' i', Pe q' i' → (q' = q ∧ i' = i) ∨ Pe' q' i') (hP2 : ∀ i', jed C T p i' → Pe' p i') : jWi C T A' L' (jup ρ p (ρ q + 1)) (jup pa p (q, i)) Pe' (n + jec C T p) D := by
  obtain ⟨⟨a1, a2⟩, b, c, d, e, f⟩ := h
  have cs := jcs_up ⟨by omega, hp.2⟩ h0 h1 ho
  have qp : q ≠ p := fun z => hq (by rw [z]; exact h0)
  refine ⟨⟨by rw [ho 0 (by omega)]; exact a1, by rw [hL2 0 (by omega)]; exact a2⟩, fun z hz => ?_, fun z hz hn => ?_, fun q' i' hq' he' => ?_, ?_, fun z hz => ?_⟩
  · by_cases ez : z = p
    · omega
    · rw [ho z ez] at hz; exact b z hz
  · by_cases ez : z = p
    · subst ez
      rw [jupH, jupH, hL]
      dsimp only
      refine ⟨he, by rw [ho q qp]; exact hq, hc, by rw [hL2 q qp], ?_⟩
      rw [jupN qp]
      exact Nat.lt_succ_self _
    · rw [ho z ez] at hz
      obtain ⟨c1, c2, c3, c4, c5⟩ := c z hz hn
      rw [jupN ez, jupN ez, hL2 z ez]
      have np : (pa z).1 ≠ p := fun w => c2 (by rw [w]; exact h0)
      refine ⟨c1, by rw [ho _ np]; exact c2, c3, by rw [hL2 _ np]; exact c4, by rw [jupN np]; exact c5⟩
  · by_cases eq : q' = p
    · subst eq; exact Or.inl (hP2 i' he')
    · rw [ho q' eq] at hq'
      rcases d q' i' hq' he' with z | z
      · rcases hP q' i' z with ⟨rfl, rfl⟩ | y
        · rw [hc]
          exact Or.inr ⟨h1, fun _ => jupH⟩
        · exact Or.inl y
      · have np : (C q').2.2.2 i' ≠ p := fun w => z.1 (by rw [w]; exact h0)
        rw [ho _ np, jupN np]
        exact Or.inr z
  · have ep : ((p.toNat : Nat) : Int) = p := by omega
    have := jsum_u (f := fun p => if A p = 0 then 0 else jec C T p) (g := fun p => if A' p = 0 then 0 else jec C T p) (j := p.toNat) (d := jec C T p) (by
      rw [ep]
      show (if A p = 0 then 0 else jec C T p) + jec C T p = (if A' p = 0 then 0 else jec C T p)
      rw [if_pos h0, if_neg h1]; omega) 24 (by omega) (fun i hi hj => by
      show (if A i = 0 then 0 else jec C T i) = (if A' i = 0 then 0 else jec C T i)
      rw [ho i (by omega)])
    omega
  · by_cases ez : z = p
    · subst ez
      rw [hL, jupH]
      have := f q hq
      refine ⟨?_, by omega⟩
      show (L q).2.2 + 1 = _
      omega
    · rw [ho z ez] at hz
      rw [hL2 z ez, jupN ez]
      have := f z hz
      omega
/-- two walks come to the same pages -/
theorem jWi.sub (h : jWi C T A L ρ pa Pe n D) (h' : jWi C T A' L' ρ' pa' Pe' n' D') (hP : ∀ q i, ¬ Pe' q i) : ∀ (m : Nat) (p : Int), ρ p < m → A p ≠ 0 → A' p ≠ 0 := by
  intro m
  induction m with
  | zero => intro p h1; omega
  | succ m ih =>
    intro p h1 h2
    by_cases e : p = 0
    · rw [e]; exact h'.1.1
    · obtain ⟨c1, c2, c3, c4, c5⟩ := h.2.2.1 p h2 e
      have := ih (pa p).1 (by omega) c2
      rcases h'.2.2.2.1 _ _ this c1 with z | z
      · exact absurd z (hP _ _)
      · rw [c3] at z; exact z.1
theorem jWi.cnt (h : jWi C T A L ρ pa Pe 0 D) (h' : jWi C T A' L' ρ' pa' Pe' 0 D') (e : ∀ p, A p ≠ 0 ↔ A' p ≠ 0) : D = D' := by
  have e0 : ∀ p, A p = 0 ↔ A' p = 0 := fun p => by
    constructor
    · intro z
      by_cases y : A' p = 0
      · exact y
      · exact absurd z ((e p).2 y)
    · intro z
      by_cases y : A p = 0
      · exact y
      · exact absurd z ((e p).1 y)
  have a := h.2.2.2.2.1
  have b := h'.2.2.2.2.1
  have c : jcs' A = jcs' A' := jsum_e 24 (fun i _ => by
    show (if A i = 0 then 0 else 1) = (if A' i = 0 then 0 else 1)
    by_cases z : A i = 0
    · rw [if_pos z, if_pos ((e0 i).1 z)]
    · rw [if_neg z, if_neg (fun y => z ((e0 i).2 y))])
  have d : jsum (fun p => if A p = 0 then 0 else jec C T p) 24 = jsum (fun p => if A' p = 0 then 0 else jec C T p) 24 := jsum_e 24 (fun i _ => by
    show (if A i = 0 then 0 else jec C T i) = (if A' i = 0 then 0 else jec C T i)
    by_cases z : A i = 0
    · rw [if_pos z, if_pos ((e0 i).1 z)]
    · rw [if_neg z, if_neg (fun y => z ((e0 i).2 y))])
  omega
theorem jWi.lab (h : jWi C T A L ρ pa Pe n D) (h' : jWi C T A' L' ρ' pa' Pe' n' 0) (hP : ∀ q i, ¬ Pe' q i) : ∀ (m : Nat) (p : Int), ρ p < m → A p ≠ 0 → L' p = L p := by
  intro m
  induction m with
  | zero => intro p h1; omega
  | succ m ih =>
    intro p h1 h2
    by_cases e : p = 0
    · rw [e, h.1.2, h'.1.2]
    · obtain ⟨c1, c2, c3, c4, c5⟩ := h.2.2.1 p h2 e
      have iq := ih (pa p).1 (by omega) c2
      have sq := h.sub h' hP _ (pa p).1 (Nat.lt_succ_self _) c2
      have sp := h.sub h' hP _ p (Nat.lt_succ_self _) h2
      rcases h'.2.2.2.1 _ _ sq c1 with z | z
      · exact absurd z (hP _ _)
      · have z := z.2 rfl
        rw [c3] at z
        obtain ⟨d1, d2, d3, d4, d5⟩ := h'.2.2.1 p sp e
        rw [z] at d4
        rw [d4, c4, iq]
end
/-! faults -/
def jrk (c : jp_C) (l : jlb) : Prop := ∀ i, 0 ≤ i → i < c.2.1 → (c.1 = 1 ∨ 1 ≤ i) → l.1 ≤ c.2.2.1 i ∧ c.2.2.1 i < l.2.1
def jFd (C : Int → jp_C) (T : Int → Int) (P : Int → Prop) (L : Int → jlb) (D : Nat) (j : Int) : Prop := (j = 1 ∧ ∃ p, P p ∧ T p ≠ 0) ∨ (j = 2 ∧ (D ≠ 0 ∨ ∃ p, P p ∧ T p = 0 ∧ (C p).1 = 0)) ∨ (j = 3 ∧ ∃ p, P p ∧ T p = 0 ∧ (C p).1 ≠ 0 ∧ ¬ jrk (C p) (L p)) ∨ (j = 4 ∧ ∃ p p', P p ∧ P p' ∧ (T p = 0 ∧ (C p).1 = 1) ∧ (T p' = 0 ∧ (C p').1 = 1) ∧ (L p).2.2 ≠ (L p').2.2) ∨ (j = 5 ∧ ∃ p, P p ∧ T p = 0 ∧ (C p).1 ≠ 0 ∧ (C p).2.1 = 0 ∧ (p ≠ 0 ∨ (C p).1 = 2))
def jmn (w f : Int) : Int := if f < w then f else w
/-- w is the least fault that was found, of 1 to 5 -/
def jwI (w : Int) (F : Int → Prop) : Prop := 1 ≤ w ∧ ∀ i, 1 ≤ i → i ≤ 5 → (w ≤ i ↔ ∃ j, 1 ≤ j ∧ j ≤ i ∧ F j)
theorem jwI.ad {w w' f : Int} {F : Int → Prop} (h : jwI w F) (c : Prop) (h1 : 1 ≤ f) (h2 : c → w' = jmn w f) (h3 : ¬ c → w' = w) : jwI w' (fun j => F j ∨ (j = f ∧ c)) := by
  rcases Classical.em c with hc | hc
  · rw [h2 hc]
    refine ⟨by unfold jmn; have := h.1; split <;> omega, fun i i0 i1 => ?_⟩
    have hi := h.2 i i0 i1
    constructor
    · intro hw
      by_cases z : w ≤ i
      · obtain ⟨j, a, b, d⟩ := hi.1 z
        exact ⟨j, a, b, Or.inl d⟩
      · refine ⟨f, h1, ?_, Or.inr ⟨rfl, hc⟩⟩
        unfold jmn at hw
        split at hw <;> omega
    · rintro ⟨j, a, b, d | ⟨d, _⟩⟩
      · have := hi.2 ⟨j, a, b, d⟩
        unfold jmn
        split <;> omega
      · unfold jmn
        split <;> omega
  · rw [h3 hc]
    refine ⟨h.1, fun i i0 i1 => (h.2 i i0 i1).trans ?_⟩
    constructor
    · rintro ⟨j, a, b, d⟩
      exact ⟨j, a, b, Or.inl d⟩
    · rintro ⟨j, a, b, d | ⟨_, d⟩⟩
      · exact ⟨j, a, b, d⟩
      · exact absurd d hc
theorem jwI.cg {w : Int} {F F' : Int → Prop} (h : jwI w F) (e : ∀ j, F j ↔ F' j) : jwI w F' := by
  refine ⟨h.1, fun i i0 i1 => (h.2 i i0 i1).trans ?_⟩
  constructor
  · rintro ⟨j, a, b, d⟩
    exact ⟨j, a, b, (e j).1 d⟩
  · rintro ⟨j, a, b, d⟩
    exact ⟨j, a, b, (e j).2 d⟩
theorem jwI.one {F : Int → Prop} (h : F 1) : jwI 1 F := ⟨Int.le_refl _, fun i i0 _ => ⟨fun _ => ⟨1, Int.le_refl _, i0, h⟩, fun _ => i0⟩⟩
/-- the depth of the leaf that was seen last -/
def jlv (C : Int → jp_C) (T : Int → Int) (P : Int → Prop) (L : Int → jlb) (v : Int) : Prop := (v = -1 → ∀ p, P p → T p = 0 → (C p).1 ≠ 1) ∧ (v ≠ -1 → ∃ p, P p ∧ (T p = 0 ∧ (C p).1 = 1) ∧ (L p).2.2 = v)
section
variable {C : Int → jp_C} {T : Int → Int} {P P' : Int → Prop} {L L' : Int → jlb} {D : Nat} {p v : Int}
/-- a torn page, a free one, more comings -/
theorem jFd.torn (hP : ∀ z, P' z ↔ P z ∨ z = p) (ht : T p ≠ 0) : jFd C T P' L' D 1 := Or.inl ⟨rfl, p, (hP p).2 (Or.inr rfl), ht⟩
theorem jFd.same (hL : ∀ z, P z → L' z = L z) {j : Int} : jFd C T P L D j ↔ jFd C T P L' D j := by
  unfold jFd
  constructor
  · rintro (a | a | ⟨a, q, a1, a2, a3, a4⟩ | ⟨a, q, q', a1, a2, a3, a4, a5⟩ | a)
    · exact Or.inl a
    · exact Or.inr (Or.inl a)
    · exact Or.inr (Or.inr (Or.inl ⟨a, q, a1, a2, a3, by rw [hL q a1]; exact a4⟩))
    · exact Or.inr (Or.inr (Or.inr (Or.inl ⟨a, q, q', a1, a2, a3, a4, by rw [hL q a1, hL q' a2]; exact a5⟩)))
    · exact Or.inr (Or.inr (Or.inr (Or.inr a)))
  · rintro (a | a | ⟨a, q, a1, a2, a3, a4⟩ | ⟨a, q, q', a1, a2, a3, a4, a5⟩ | a)
    · exact Or.inl a
    · exact Or.inr (Or.inl a)
    · exact Or.inr (Or.inr (Or.inl ⟨a, q, a1, a2, a3, by rw [← hL q a1]; exact a4⟩))
    · exact Or.inr (Or.inr (Or.inr (Or.inl ⟨a, q, q', a1, a2, a3, a4, by rw [← hL q a1, ← hL q' a2]; exact a5⟩)))
    · exact Or.inr (Or.inr (Or.inr (Or.inr a)))
theorem jFd.more {j : Int} : (jFd C T P L D j ∨ (j = 2 ∧ True)) ↔ jFd C T P L (D + 1) j := by
  unfold jFd
  constructor
  · rintro ((a | a | a | a | a) | a)
    · exact Or.inl a
    · exact Or.inr (Or.inl ⟨a.1, Or.inl (Nat.succ_ne_zero _)⟩)
    · exact Or.inr (Or.inr (Or.inl a))
    · exact Or.inr (Or.inr (Or.inr (Or.inl a)))
    · exact Or.inr (Or.inr (Or.inr (Or.inr a)))
    · exact Or.inr (Or.inl ⟨a.1, Or.inl (Nat.succ_ne_zero _)⟩)
  · rintro (a | a | a | a | a)
    · exact Or.inl (Or.inl a)
    · exact Or.inr ⟨a.1, trivial⟩
    · exact Or.inl (Or.inr (Or.inr (Or.inl a)))
    · exact Or.inl (Or.inr (Or.inr (Or.inr (Or.inl a))))
    · exact Or.inl (Or.inr (Or.inr (Or.inr (Or.inr a))))
theorem jFd.free (hP : ∀ z, P' z ↔ P z ∨ z = p) (ht : T p = 0) (h0 : (C p).1 = 0) {j : Int} : (jFd C T P L D j ∨ (j = 2 ∧ True)) ↔ jFd C T P' L D j := by
  have up : ∀ z, P z → P' z := fun z h => (hP z).2 (Or.inl h)
  unfold jFd
  constructor
  · rintro ((⟨a, q, a1, a2⟩ | ⟨a, b | ⟨q, a1, a2⟩⟩ | ⟨a, q, a1, a2⟩ | ⟨a, q, q', a1, a2, a3⟩ | ⟨a, q, a1, a2⟩) | a)
    · exact Or.inl ⟨a, q, up q a1, a2⟩
    · exact Or.inr (Or.inl ⟨a, Or.inl b⟩)
    · exact Or.inr (Or.inl ⟨a, Or.inr ⟨q, up q a1, a2⟩⟩)
    · exact Or.inr (Or.inr (Or.inl ⟨a, q, up q a1, a2⟩))
    · exact Or.inr (Or.inr (Or.inr (Or.inl ⟨a, q, q', up q a1, up q' a2, a3⟩)))
    · exact Or.inr (Or.inr (Or.inr (Or.inr ⟨a, q, up q a1, a2⟩)))
    · exact Or.inr (Or.inl ⟨a.1, Or.inr ⟨p, (hP p).2 (Or.inr rfl), ht, h0⟩⟩)
  · rintro (⟨a, q, a1, a2⟩ | a | ⟨a, q, a1, a2⟩ | ⟨a, q, q', a1, a2, a3⟩ | ⟨a, q, a1, a2⟩)
    · rcases (hP q).1 a1 with z | z
      · exact Or.inl (Or.inl ⟨a, q, z, a2⟩)
      · rw [z] at a2; exact absurd ht a2
    · exact Or.inr ⟨a.1, trivial⟩
    · rcases (hP q).1 a1 with z | z
      · exact Or.inl (Or.inr (Or.inr (Or.inl ⟨a, q, z, a2⟩)))
      · rw [z] at a2; exact absurd h0 a2.2.1
    · rcases (hP q).1 a1 with z | z
      · rcases (hP q').1 a2 with y | y
        · exact Or.inl (Or.inr (Or.inr (Or.inr (Or.inl ⟨a, q, q', z, y, a3⟩))))
        · rw [y] at a3; have := a3.2.1.2; omega
      · rw [z] at a3; have := a3.1.2; omega
    · rcases (hP q).1 a1 with z | z
      · exact Or.inl (Or.inr (Or.inr (Or.inr (Or.inr ⟨a, q, z, a2⟩))))
      · rw [z] at a2; exact absurd h0 a2.2.1
/-- a page that is looked into -/
theorem jFd.page (hP : ∀ z, P' z ↔ P z ∨ z = p) (ht : T p = 0) (h0 : (C p).1 ≠ 0) (hv : jlv C T P L v) {j : Int} : (((jFd C T P L D j ∨ (j = 3 ∧ ¬ jrk (C p) (L p))) ∨ (j = 5 ∧ ((C p).2.1 = 0 ∧ (p ≠ 0 ∨ (C p).1 = 2)))) ∨ (j = 4 ∧ ((C p).1 = 1 ∧ v ≠ -1 ∧ v ≠ (L p).2.2))) ↔ jFd C T P' L D j := by
  have up : ∀ z, P z → P' z := fun z h => (hP z).2 (Or.inl h)
  have pp : P' p := (hP p).2 (Or.inr rfl)
  constructor
  · rintro ((((⟨a, q, a1, a2⟩ | ⟨a, b | ⟨q, a1, a2⟩⟩ | ⟨a, q, a1, a2⟩ | ⟨a, q, q', a1, a2, a3⟩ | ⟨a, q, a1, a2⟩) | a) | a) | a)
    · exact Or.inl ⟨a, q, up q a1, a2⟩
    · exact Or.inr (Or.inl ⟨a, Or.inl b⟩)
    · exact Or.inr (Or.inl ⟨a, Or.inr ⟨q, up q a1, a2⟩⟩)
    · exact Or.inr (Or.inr (Or.inl ⟨a, q, up q a1, a2⟩))
    · exact Or.inr (Or.inr (Or.inr (Or.inl ⟨a, q, q', up q a1, up q' a2, a3⟩)))
    · exact Or.inr (Or.inr (Or.inr (Or.inr ⟨a, q, up q a1, a2⟩)))
    · exact Or.inr (Or.inr (Or.inl ⟨a.1, p, pp, ht, h0, a.2⟩))
    · exact Or.inr (Or.inr (Or.inr (Or.inr ⟨a.1, p, pp, ht, h0, a.2⟩)))
    · obtain ⟨q, q1, q2, q3⟩ := hv.2 a.2.2.1
      exact Or.inr (Or.inr (Or.inr (Or.inl ⟨a.1, q, p, up q q1, pp, q2, ⟨ht, a.2.1⟩, fun z => a.2.2.2 (q3.symm.trans z)⟩)))
  · rintro (⟨a, q, a1, a2⟩ | ⟨a, b | ⟨q, a1, a2⟩⟩ | ⟨a, q, a1, a2⟩ | ⟨a, q, q', a1, a2, a3⟩ | ⟨a, q, a1, a2⟩)
    · rcases (hP q).1 a1 with z | z
      · exact Or.inl (Or.inl (Or.inl (Or.inl ⟨a, q, z, a2⟩)))
      · rw [z] at a2; exact absurd ht a2
    · exact Or.inl (Or.inl (Or.inl (Or.inr (Or.inl ⟨a, Or.inl b⟩))))
    · rcases (hP q).1 a1 with z | z
      · exact Or.inl (Or.inl (Or.inl (Or.inr (Or.inl ⟨a, Or.inr ⟨q, z, a2⟩⟩))))
      · rw [z] at a2; exact absurd a2.2 h0
    · rcases (hP q).1 a1 with z | z
      · exact Or.inl (Or.inl (Or.inl (Or.inr (Or.inr (Or.inl ⟨a, q, z, a2⟩)))))
      · rw [z] at a2
        exact Or.inl (Or.inl (Or.inr ⟨a, a2.2.2⟩))
    · -- two leaves
      have key : ∀ q, P q → (T q = 0 ∧ (C q).1 = 1) → (C p).1 = 1 → (L q).2.2 ≠ (L p).2.2 → jFd C T P L D j ∨ (j = 4 ∧ ((C p).1 = 1 ∧ v ≠ -1 ∧ v ≠ (L p).2.2)) := fun q hq hl kp hd => by
        have vn : v ≠ -1 := fun z => hv.1 z q hq hl.1 hl.2
        obtain ⟨r, r1, r2, r3⟩ := hv.2 vn
        by_cases e : v = (L p).2.2
        · exact Or.inl (Or.inr (Or.inr (Or.inr (Or.inl ⟨a, q, r, hq, r1, hl, r2, fun z => hd (z.trans (r3.trans e))⟩))))
        · exact Or.inr ⟨a, kp, vn, e⟩
      have fin : (jFd C T P L D j ∨ (j = 4 ∧ ((C p).1 = 1 ∧ v ≠ -1 ∧ v ≠ (L p).2.2))) → (((jFd C T P L D j ∨ (j = 3 ∧ ¬ jrk (C p) (L p))) ∨ (j = 5 ∧ ((C p).2.1 = 0 ∧ (p ≠ 0 ∨ (C p).1 = 2)))) ∨ (j = 4 ∧ ((C p).1 = 1 ∧ v ≠ -1 ∧ v ≠ (L p).2.2))) := fun z => by
        rcases z with z | z
        · exact Or.inl (Or.inl (Or.inl z))
        · exact Or.inr z
      rcases (hP q).1 a1 with z | z
      · rcases (hP q').1 a2 with y | y
        · exact Or.inl (Or.inl (Or.inl (Or.inr (Or.inr (Or.inr (Or.inl ⟨a, q, q', z, y, a3⟩))))))
        · subst y
          exact fin (key q z a3.1 a3.2.1.2 a3.2.2)
      · subst z
        rcases (hP q').1 a2 with y | y
        · exact fin (key q' y a3.2.1 a3.1.2 (fun w => a3.2.2 w.symm))
        · subst y
          exact absurd rfl a3.2.2
    · rcases (hP q).1 a1 with z | z
      · exact Or.inl (Or.inl (Or.inl (Or.inr (Or.inr (Or.inr (Or.inr ⟨a, q, z, a2⟩))))))
      · rw [z] at a2
        exact Or.inl (Or.inr ⟨a, a2.2.2⟩)
theorem jlv.none (hv : jlv C T P L v) (hP : ∀ z, P' z ↔ P z ∨ z = p) (h0 : T p ≠ 0 ∨ (C p).1 ≠ 1) (hL : ∀ z, P z → L' z = L z) : jlv C T P' L' v := by
  refine ⟨fun e q hq ht hk => ?_, fun e => ?_⟩
  · rcases (hP q).1 hq with z | z
    · exact hv.1 e q z ht hk
    · subst z
      rcases h0 with w | w
      · exact w ht
      · exact w hk
  · obtain ⟨q, q1, q2, q3⟩ := hv.2 e
    exact ⟨q, (hP q).2 (Or.inl q1), q2, by rw [hL q q1]; exact q3⟩
theorem jlv.lc (hv : jlv C T P L v) (hL : ∀ z, P z → L' z = L z) : jlv C T P L' v :=
  ⟨hv.1, fun e => by
    obtain ⟨q, q1, q2, q3⟩ := hv.2 e
    exact ⟨q, q1, q2, by rw [hL q q1]; exact q3⟩⟩
theorem jlv.leaf (hP : ∀ z, P' z ↔ P z ∨ z = p) (ht : T p = 0) (h1 : (C p).1 = 1) (hd : 0 ≤ (L' p).2.2) : jlv C T P' L' (L' p).2.2 :=
  ⟨fun e => by omega, fun _ => ⟨p, (hP p).2 (Or.inr rfl), ⟨ht, h1⟩, rfl⟩⟩
end
