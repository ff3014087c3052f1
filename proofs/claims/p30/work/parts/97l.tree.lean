/-! THE TREE behind a SPLIT -/
theorem jT_mono {f : Int → Int} {n m : Int} (h : ∀ i, m ≤ i → i + 1 < n → f i < f (i + 1)) : ∀ (d : Nat) (i : Int), m ≤ i → i + d + 1 < n → f i < f (i + d + 1)
  | 0, i, h0, h1 => by
    have := h i h0 (by omega)
    rw [show i + ((0 : Nat) : Int) + 1 = i + 1 by omega]
    exact this
  | d + 1, i, h0, h1 => by
    have a := jT_mono h d i h0 (by omega)
    have b := h (i + d + 1) (by omega) (by omega)
    rw [show i + ((d + 1 : Nat) : Int) + 1 = i + d + 1 + 1 by omega]
    omega
theorem jT_mono2 {f : Int → Int} {n m : Int} (h : ∀ i, m ≤ i → i + 1 < n → f i < f (i + 1)) {i j : Int} (h0 : m ≤ i) (h1 : i < j) (h2 : j < n) : f i < f j := by
  have := jT_mono h (j - i - 1).toNat i h0 (by omega)
  rw [show i + (((j - i - 1).toNat : Nat) : Int) + 1 = j by omega] at this
  exact this
/-- the keys of a page rise -/
theorem jTs.rise {g : Int → jp_C} {lo hi rk : Int → Int} (hT : jTs g lo hi rk) {p i j : Int} (hp : 0 ≤ p ∧ p < 24) (hk : (g p).1 ≠ 0) (hi' : (g p).1 = 1 ∨ 0 < i) (h0 : 0 ≤ i) (h1 : i < j) (h2 : j < (g p).2.1) : (g p).2.2.1 i < (g p).2.2.1 j := by
  obtain ⟨hb, w⟩ := hT.1.1 p hp.1 hp.2
  rcases w with w | w | w
  · exact absurd w.1 hk
  · exact jT_mono2 (m := 0) (fun i i0 i1 => w.2.2 i i0 i1) h0 h1 h2
  · exact jT_mono2 (m := 1) (fun i i0 i1 => hT.2.2 p i hp.1 hp.2 w.1 i0 i1) (by omega) h1 h2
theorem jTs_sp0 {g g' : Int → jp_C} {lo hi rk : Int → Int} {a b H : Int} (hT : jTs g lo hi rk) (hH : 2 ≤ H ∧ H < (g 0).2.1) (ha : 1 ≤ a ∧ a < 24) (hb : 1 ≤ b ∧ b < 24) (hab : a ≠ b) (fa : (g a).1 = 0) (fb : (g b).1 = 0) (ho : ∀ z, z ≠ 0 → z ≠ a → z ≠ b → g' z = g z) (e0 : g' 0 = jp_rt a b ((g 0).2.2.1 H)) (ea : g' a = jp_part (g 0) 0 H) (eb : g' b = jp_part (g 0) H (g 0).2.1) : ∃ lo' hi' rk', jTs g' lo' hi' rk' := by
  have k0 := hT.1.2.1
  have w0 := hT.1.1 0 (by decide) (by decide)
  generalize hX : (g 0).2.2.1 H = X at *
  have kb : ∀ i, 0 ≤ i → i < (g 0).2.1 → ((g 0).1 = 1 ∨ 0 < i) → lo 0 ≤ (g 0).2.2.1 i ∧ (g 0).2.2.1 i < hi 0 := fun i i0 i1 z => ⟨(hT.1.2.2.2.2.2 0 i (by decide) (by decide) k0 i0 i1 z).1, hT.2.1 0 i (by decide) (by decide) k0 i0 i1 z⟩
  have kX := kb H (by omega) hH.2 (Or.inr (by omega))
  rw [hX] at kX
  have rise := fun i j => hT.rise (p := 0) (i := i) (j := j) (by decide) k0
  have a1 : (g' a).1 = (g 0).1 := by rw [ea]; rfl
  have ac : (g' a).2.1 = H := by rw [ea]; show H - 0 = H; omega
  have ai : ∀ i, (g' a).2.2.2 i = (g 0).2.2.2 i := fun i => by rw [ea]; show (g 0).2.2.2 (i + 0) = _; rw [show i + 0 = i by omega]
  have ak : ∀ i, ((g 0).1 = 1 ∨ 0 < i) → (g' a).2.2.1 i = (g 0).2.2.1 i := fun i z => by
    rw [ea]
    show (if (g 0).1 = 2 ∧ i = 0 then 0 else (g 0).2.2.1 (i + 0)) = _
    rw [if_neg (by omega), show i + 0 = i by omega]
  have b1 : (g' b).1 = (g 0).1 := by rw [eb]; rfl
  have bc : (g' b).2.1 = (g 0).2.1 - H := by rw [eb]; rfl
  have bi : ∀ i, (g' b).2.2.2 i = (g 0).2.2.2 (i + H) := fun i => by rw [eb]; rfl
  have bk : ∀ i, ((g 0).1 = 1 ∨ 0 < i) → (g' b).2.2.1 i = (g 0).2.2.1 (i + H) := fun i z => by
    rw [eb]
    show (if (g 0).1 = 2 ∧ i = 0 then 0 else (g 0).2.2.1 (i + H)) = _
    rw [if_neg (by omega)]
  have r1 : (g' 0).1 = 2 := by rw [e0]; rfl
  have rc : (g' 0).2.1 = 2 := by rw [e0]; rfl
  have ri0 : (g' 0).2.2.2 0 = a := by rw [e0]; rfl
  have ri1 : (g' 0).2.2.2 1 = b := by rw [e0]; rfl
  have rk1 : (g' 0).2.2.1 1 = X := by rw [e0]; rfl
  have fresh : ∀ q i, jT_i g q i → jT_c g q i ≠ a ∧ jT_c g q i ≠ b := fun q i h => by
    have := (hT.1.2.2.1 q i h).1
    exact ⟨fun e => by rw [e] at this; exact this fa, fun e => by rw [e] at this; exact this fb⟩
  have nofree : ∀ q i, jT_i g q i → q ≠ a ∧ q ≠ b := fun q i h => by
    have := h.2.1
    exact ⟨fun e => by rw [e, fa] at this; exact absurd this (by decide), fun e => by rw [e, fb] at this; exact absurd this (by decide)⟩
  let lo' := fun z => if z = b then X else if z = a then lo 0 else lo z
  let hi' := fun z => if z = a then X else if z = b then hi 0 else hi z
  let rk' := fun z => if z = 0 then rk 0 + 1 else if z = a ∨ z = b then rk 0 else rk z
  have loa : lo' a = lo 0 := by show (if a = b then X else if a = a then lo 0 else lo a) = _; rw [if_neg hab, if_pos rfl]
  have lob : lo' b = X := if_pos rfl
  have loo : ∀ z, z ≠ a → z ≠ b → lo' z = lo z := fun z x y => by show (if z = b then X else if z = a then lo 0 else lo z) = _; rw [if_neg y, if_neg x]
  have hia : hi' a = X := if_pos rfl
  have hib : hi' b = hi 0 := by show (if b = a then X else if b = b then hi 0 else hi b) = _; rw [if_neg (fun e => hab e.symm), if_pos rfl]
  have hio : ∀ z, z ≠ a → z ≠ b → hi' z = hi z := fun z x y => by show (if z = a then X else if z = b then hi 0 else hi z) = _; rw [if_neg x, if_neg y]
  have rk0 : rk' 0 = rk 0 + 1 := if_pos rfl
  have rka : rk' a = rk 0 := by show (if a = 0 then _ else if a = a ∨ a = b then rk 0 else rk a) = _; rw [if_neg (by omega), if_pos (Or.inl rfl)]
  have rkb : rk' b = rk 0 := by show (if b = 0 then _ else if b = a ∨ b = b then rk 0 else rk b) = _; rw [if_neg (by omega), if_pos (Or.inr rfl)]
  have rko : ∀ z, z ≠ 0 → z ≠ a → z ≠ b → rk' z = rk z := fun z w x y => by show (if z = 0 then _ else if z = a ∨ z = b then rk 0 else rk z) = _; rw [if_neg w, if_neg (by omega)]
  have n0a : (0 : Int) ≠ a := by omega
  have n0b : (0 : Int) ≠ b := by omega
  clear_value lo' hi' rk'
  have ed : ∀ q i, jT_i g' q i → (q = 0 ∧ ((i = 0 ∧ jT_c g' q i = a) ∨ (i = 1 ∧ jT_c g' q i = b))) ∨ (q = a ∧ jT_i g 0 i ∧ jT_c g 0 i = jT_c g' q i ∧ i < H) ∨ (q = b ∧ jT_i g 0 (i + H) ∧ jT_c g 0 (i + H) = jT_c g' q i) ∨ (q ≠ 0 ∧ q ≠ a ∧ q ≠ b ∧ jT_i g q i ∧ g' q = g q) := fun q i h => by
    obtain ⟨x1, x2, x3, x4⟩ := h
    by_cases z0 : q = 0
    · subst z0
      rw [rc] at x4
      rcases (show i = 0 ∨ i = 1 by omega) with e | e <;> subst e
      · exact Or.inl ⟨rfl, Or.inl ⟨rfl, ri0⟩⟩
      · exact Or.inl ⟨rfl, Or.inr ⟨rfl, ri1⟩⟩
    · by_cases za : q = a
      · subst za
        rw [a1] at x2
        rw [ac] at x4
        exact Or.inr (Or.inl ⟨rfl, ⟨by decide, x2, x3, by omega⟩, (ai i).symm, x4⟩)
      · by_cases zb : q = b
        · subst zb
          rw [b1] at x2
          rw [bc] at x4
          exact Or.inr (Or.inr (Or.inl ⟨rfl, ⟨by decide, x2, by omega, by omega⟩, (bi i).symm⟩))
        · have eq := ho q z0 za zb
          rw [eq] at x2 x4
          exact Or.inr (Or.inr (Or.inr ⟨z0, za, zb, ⟨x1, x2, x3, x4⟩, eq⟩))
  refine ⟨lo', hi', rk', jTs_mk (F1 := fun _ => 0) (F2 := fun z => if z = a then 0 else 1) (ψ1 := fun q i => if q = 0 then (if i < H then a else b) else q) (ψ2 := fun q i => if q = 0 then (if i < H then i else i - H) else i) hT (fun z z0 z1 => ?_) (by rw [r1]; decide) (fun q i hq => ?_) (fun q i hq => ?_) (fun z z0 z1 hz => ?_) (fun z i z0 z1 hz i0 i1 y => ?_) (fun z i z0 z1 hz i0 i1 => ?_)⟩
  · by_cases e : z = 0
    · rw [e, e0]
      have := (jp_cell w0 (i := H) (by omega) hH.2).1
      rw [hX] at this
      exact (jp_rt_w ha hb this).2
    · by_cases e1 : z = a
      · rw [e1, ea]; exact jp_part_w w0 k0 (by decide) (by omega) (by omega)
      · by_cases e2 : z = b
        · rw [e2, eb]; exact jp_part_w w0 k0 (by omega) (by omega) (by omega)
        · rw [ho z e e1 e2]; exact hT.1.1 z z0 z1
  · unfold jT_b
    rcases ed q i hq with ⟨e, ⟨e2, e3⟩ | ⟨e2, e3⟩⟩ | ⟨e, x1, x2, x3⟩ | ⟨e, x1, x2⟩ | ⟨e1, e2, e3, x1, x2⟩
    · rw [e3]
      subst e e2
      rw [if_pos rfl, rc, if_neg (by decide), show (0 : Int) + 1 = 1 by omega, rk1, a1, rka, rk0, loa, hia, loo 0 n0a n0b]
      exact ⟨k0, by omega, Int.le_refl _, Int.le_refl _⟩
    · rw [e3]
      subst e e2
      rw [if_neg (by decide), rc, if_pos (by decide), rk1, b1, rkb, rk0, lob, hib, hio 0 n0a n0b]
      exact ⟨k0, by omega, Int.le_refl _, Int.le_refl _⟩
    · subst e
      obtain ⟨y1, y2, y3, y4⟩ := hT.1.2.2.1 0 i x1
      have fr := fresh 0 i x1
      have cb := jT_child hT.1.1 x1
      rw [← x2, ho _ (by omega) fr.1 fr.2, rko _ (by omega) fr.1 fr.2, loo _ fr.1 fr.2, hio _ fr.1 fr.2, rka, loa, hia, ac]
      refine ⟨y1, y2, ?_, ?_⟩
      · by_cases z : i = 0
        · rw [if_pos z] at y3 ⊢; exact y3
        · rw [if_neg z] at y3 ⊢
          rw [ak i (Or.inr (by have := x1.2.2.1; omega))]; exact y3
      · rw [if_neg (by omega)] at y4
        by_cases z : i + 1 = H
        · rw [if_pos z, ← hX, ← z]; exact y4
        · rw [if_neg z, ak (i + 1) (Or.inr (by have := x1.2.2.1; omega))]; exact y4
    · subst e
      obtain ⟨y1, y2, y3, y4⟩ := hT.1.2.2.1 0 (i + H) x1
      have fr := fresh 0 _ x1
      have cb := jT_child hT.1.1 x1
      have i0 := hq.2.2.1
      rw [← x2, ho _ (by omega) fr.1 fr.2, rko _ (by omega) fr.1 fr.2, loo _ fr.1 fr.2, hio _ fr.1 fr.2, rkb, lob, hib, bc]
      rw [if_neg (by omega)] at y3
      refine ⟨y1, y2, ?_, ?_⟩
      · by_cases z : i = 0
        · rw [if_pos z, ← hX]
          rw [z, show (0 : Int) + H = H by omega] at y3 ⊢
          exact y3
        · rw [if_neg z, bk i (Or.inr (by omega))]; exact y3
      · by_cases z : i + 1 = (g 0).2.1 - H
        · rw [if_pos z]
          rw [if_pos (by omega)] at y4; exact y4
        · rw [if_neg z, bk (i + 1) (Or.inr (by omega)), show i + 1 + H = i + H + 1 by omega]
          rw [if_neg (by omega)] at y4; exact y4
    · obtain ⟨y1, y2, y3, y4⟩ := hT.1.2.2.1 q i x1
      have fr := fresh q i x1
      have cb := jT_child hT.1.1 x1
      show (g' ((g' q).2.2.2 i)).1 ≠ 0 ∧ rk' ((g' q).2.2.2 i) < rk' q ∧ _ ≤ lo' ((g' q).2.2.2 i) ∧ hi' ((g' q).2.2.2 i) ≤ _
      rw [x2]
      show (g' (jT_c g q i)).1 ≠ 0 ∧ rk' (jT_c g q i) < rk' q ∧ _ ≤ lo' (jT_c g q i) ∧ hi' (jT_c g q i) ≤ _
      rw [ho _ (by omega) fr.1 fr.2, rko _ (by omega) fr.1 fr.2, loo _ fr.1 fr.2, hio _ fr.1 fr.2, rko q e1 e2 e3, loo q e2 e3, hio q e2 e3]
      exact ⟨y1, y2, y3, y4⟩
  · rcases ed q i hq with ⟨e, ⟨e2, e3⟩ | ⟨e2, e3⟩⟩ | ⟨e, x1, x2, x3⟩ | ⟨e, x1, x2⟩ | ⟨e1, e2, e3, x1, x2⟩
    · exact Or.inr ⟨by rw [e3]; exact fa, e, by rw [e3, if_pos rfl]; exact e2⟩
    · exact Or.inr ⟨by rw [e3]; exact fb, e, by rw [e3, if_neg (fun z => hab z.symm)]; exact e2⟩
    · exact Or.inl ⟨0, i, x1, x2, by rw [if_pos rfl, if_pos x3]; exact e, by rw [if_pos rfl, if_pos x3]⟩
    · have i0 := hq.2.2.1
      exact Or.inl ⟨0, i + H, x1, x2, by rw [if_pos rfl, if_neg (by omega)]; exact e, by rw [if_pos rfl, if_neg (by omega)]; omega⟩
    · exact Or.inl ⟨q, i, x1, by show (g q).2.2.2 i = (g' q).2.2.2 i; rw [x2], by rw [if_neg e1], by rw [if_neg e1]⟩
  · by_cases e1 : z = a
    · exact ⟨0, 0, ⟨by decide, r1, by decide, by rw [rc]; decide⟩, by rw [e1]; exact ri0⟩
    · by_cases e2 : z = b
      · exact ⟨0, 1, ⟨by decide, r1, by decide, by rw [rc]; decide⟩, by rw [e2]; exact ri1⟩
      · rw [ho z (by omega) e1 e2] at hz
        obtain ⟨q, i, x1, x2⟩ := hT.1.2.2.2.2.1 z z0 z1 hz
        by_cases e : q = 0
        · subst e
          obtain ⟨y1, y2, y3, y4⟩ := x1
          by_cases l : i < H
          · exact ⟨a, i, ⟨by omega, by rw [a1]; exact y2, y3, by rw [ac]; exact l⟩, (ai i).trans x2⟩
          · exact ⟨b, i - H, ⟨by omega, by rw [b1]; exact y2, by omega, by rw [bc]; omega⟩, (bi _).trans (by rw [show i - H + H = i by omega]; exact x2)⟩
        · have nn := nofree q i x1
          have eq := ho q e nn.1 nn.2
          obtain ⟨y1, y2, y3, y4⟩ := x1
          exact ⟨q, i, ⟨y1, by rw [eq]; exact y2, y3, by rw [eq]; exact y4⟩, by show (g' q).2.2.2 i = z; rw [eq]; exact x2⟩
  · by_cases e : z = 0
    · subst e
      rw [rc] at i1
      rw [r1] at y
      have : i = 1 := by omega
      subst this
      rw [rk1, loo 0 n0a n0b, hio 0 n0a n0b]
      exact kX
    · by_cases e1 : z = a
      · subst e1
        rw [a1] at y
        rw [ac] at i1
        rw [ak i y, loa, hia, ← hX]
        exact ⟨(kb i i0 (by omega) y).1, rise i H y i0 i1 hH.2⟩
      · by_cases e2 : z = b
        · subst e2
          rw [b1] at y
          rw [bc] at i1
          rw [bk i y, lob, hib, ← hX]
          refine ⟨?_, (kb (i + H) (by omega) (by omega) (Or.inr (by omega))).2⟩
          by_cases zi : i = 0
          · rw [zi, show (0 : Int) + H = H by omega]; exact Int.le_refl _
          · exact Int.le_of_lt (rise H (i + H) (Or.inr (by omega)) (by omega) (by omega) (by omega))
        · rw [ho z e e1 e2] at hz i1 y ⊢
          rw [loo z e1 e2, hio z e1 e2]
          exact ⟨(hT.1.2.2.2.2.2 z i z0 z1 hz i0 i1 y).1, hT.2.1 z i z0 z1 hz i0 i1 y⟩
  · by_cases e : z = 0
    · subst e
      rw [rc] at i1
      omega
    · by_cases e1 : z = a
      · subst e1
        rw [ac] at i1
        rw [ak i (Or.inr (by omega)), ak (i + 1) (Or.inr (by omega))]
        exact rise i (i + 1) (Or.inr (by omega)) (by omega) (by omega) (by omega)
      · by_cases e2 : z = b
        · subst e2
          rw [bc] at i1
          rw [bk i (Or.inr (by omega)), bk (i + 1) (Or.inr (by omega))]
          exact rise (i + H) (i + 1 + H) (Or.inr (by omega)) (by omega) (by omega) (by omega)
        · rw [ho z e e1 e2] at hz i1 ⊢
          exact hT.2.2 z i z0 z1 hz i0 i1
