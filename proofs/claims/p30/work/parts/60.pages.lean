/-! PAGES: what a page holds, whatever holds it: kind, count, keys, its -/
theorem jo_Ne : jo_N = 4000 := rfl
theorem jo_bs {α β : Type} {x : α} {f : α → Option β} : (some x).bind f = f x := rfl
abbrev jp_C : Type := Int × Int × (Int → Int) × (Int → Int)
def jp_un (k : Int) : Int := if k = 2 then 100 else 1000
def jp_k (K : jc_K) (p : Nat) (c : jp_C) : Prop := jc_pg K p ∧ jc_i K p 0 = c.1 ∧ jc_i K p 2 = c.2.1 ∧ ∀ i, 0 ≤ i → i < c.2.1 → jc_i K (p + 1) i = jp_un c.1 * c.2.2.1 i + c.2.2.2 i
def jp_r (G : jg_G) (r : Int) (c : jp_C) : Prop := G 93 (67 * r) = c.1 ∧ G 93 (67 * r + 2) = c.2.1 ∧ ∀ i, 0 ≤ i → i < c.2.1 → G 93 (67 * r + 3 + 2 * i) = c.2.2.1 i ∧ G 93 (67 * r + 4 + 2 * i) = c.2.2.2 i
def jp_w (c : jp_C) : Prop := (0 ≤ c.2.1 ∧ c.2.1 ≤ 32) ∧ ((c.1 = 0 ∧ c.2.1 = 0) ∨ (c.1 = 1 ∧ (∀ i, 0 ≤ i → i < c.2.1 → (0 ≤ c.2.2.1 i ∧ c.2.2.1 i < 32) ∧ 0 ≤ c.2.2.2 i ∧ c.2.2.2 i < 1000) ∧ ∀ i, 0 ≤ i → i + 1 < c.2.1 → c.2.2.1 i < c.2.2.1 (i + 1)) ∨ (c.1 = 2 ∧ c.2.1 ≤ 4 ∧ (0 < c.2.1 → c.2.2.1 0 = 0) ∧ (∀ i, 0 ≤ i → i < c.2.1 → (0 ≤ c.2.2.1 i ∧ c.2.2.1 i < 32) ∧ 1 ≤ c.2.2.2 i ∧ c.2.2.2 i < 24) ∧ ∀ i, 0 ≤ i → i + 1 < c.2.1 → c.2.2.1 i ≤ c.2.2.1 (i + 1)))
/-- only the things p and p + 1 have changed, and only in their ints -/
def jk_f (K K' : jc_K) (p : Nat) : Prop := (K'.1 = K.1 ∧ K'.2.1 = K.2.1 ∧ K'.2.2.2 = K.2.2.2) ∧ ∀ n, n ≠ p → n ≠ p + 1 → ∀ i, jc_i K' n i = jc_i K n i
theorem jk_f.refl (K : jc_K) (p : Nat) : jk_f K K p := ⟨⟨rfl, rfl, rfl⟩, fun _ _ _ _ => rfl⟩
theorem jk_f.trans {K K' K'' : jc_K} {p : Nat} (h : jk_f K K' p) (h2 : jk_f K' K'' p) : jk_f K K'' p :=
  ⟨⟨h2.1.1.trans h.1.1, h2.1.2.1.trans h.1.2.1, h2.1.2.2.trans h.1.2.2⟩, fun n h3 h4 i => (h2.2 n h3 h4 i).trans (h.2 n h3 h4 i)⟩
theorem jk_f.u0 {K : jc_K} {p : Nat} {i v : Int} : jk_f K (jc_ui K p i v) p := ⟨⟨rfl, rfl, rfl⟩, fun _ h _ _ => jc_uN h⟩
theorem jk_f.u1 {K : jc_K} {p : Nat} {i v : Int} : jk_f K (jc_ui K (p + 1) i v) p := ⟨⟨rfl, rfl, rfl⟩, fun _ _ h _ => jc_uN h⟩
theorem jk_f.pg {K K' : jc_K} {p q : Nat} (h : jk_f K K' p) (h2 : jc_pg K q) : jc_pg K' q := by
  obtain ⟨⟨e1, e2, e3⟩, _⟩ := h
  unfold jc_pg at *
  rw [e1, e2, e3]
  exact h2
theorem jk_f.rc {K K' : jc_K} {p q : Nat} (h : jk_f K K' p) (h2 : jc_rc K q) : jc_rc K' q := by
  obtain ⟨⟨e1, e2, e3⟩, _⟩ := h
  unfold jc_rc at *
  rw [e1, e2, e3]
  exact h2
/-- two pages that do not touch -/
def jk_a (p q : Nat) : Prop := p ≠ q ∧ p ≠ q + 1 ∧ p + 1 ≠ q
theorem jk_f.k {K K' : jc_K} {p q : Nat} {c : jp_C} (h : jk_f K K' p) (ha : jk_a p q) (h2 : jp_k K q c) : jp_k K' q c := by
  obtain ⟨h3, h4, h5, h6⟩ := h2
  obtain ⟨a1, a2, a3⟩ := ha
  refine ⟨h.pg h3, ?_, ?_, fun i h0 h1 => ?_⟩
  · rw [h.2 q (by omega) (by omega)]; exact h4
  · rw [h.2 q (by omega) (by omega)]; exact h5
  · rw [h.2 (q + 1) (by omega) (by omega)]; exact h6 i h0 h1
theorem jp_un_p (k : Int) : 100 ≤ jp_un k ∧ jp_un k ≤ 1000 := by
  unfold jp_un
  split <;> omega
theorem jp_cell {c : jp_C} (hw : jp_w c) {i : Int} (h0 : 0 ≤ i) (h1 : i < c.2.1) : (0 ≤ c.2.2.1 i ∧ c.2.2.1 i < 32) ∧ (0 ≤ c.2.2.2 i ∧ c.2.2.2 i < jp_un c.1) := by
  obtain ⟨hb, hk | hk | hk⟩ := hw
  · omega
  · have := hk.2.1 i h0 h1
    have e : jp_un c.1 = 1000 := by unfold jp_un; rw [hk.1]; rfl
    rw [e]
    omega
  · have := hk.2.2.2.1 i h0 h1
    have e : jp_un c.1 = 100 := by unfold jp_un; rw [hk.1]; rfl
    rw [e]
    omega
theorem jp_div {u k x : Int} (hx : 0 ≤ x ∧ x < u) : (u * k + x) / u = k ∧ (u * k + x) % u = x := by
  have hu : u ≠ 0 := by omega
  constructor
  · rw [Int.add_comm, Int.add_mul_ediv_left x k hu, Int.ediv_eq_zero_of_lt hx.1 hx.2]
    omega
  · rw [Int.add_comm, Int.add_mul_emod_self_left]
    exact Int.emod_eq_of_lt hx.1 hx.2
theorem jp_cellv {c : jp_C} (hw : jp_w c) {i : Int} (h0 : 0 ≤ i) (h1 : i < c.2.1) : 0 ≤ jp_un c.1 * c.2.2.1 i + c.2.2.2 i ∧ jp_un c.1 * c.2.2.1 i + c.2.2.2 i < 32000 ∧ (jp_un c.1 * c.2.2.1 i + c.2.2.2 i) / jp_un c.1 = c.2.2.1 i ∧ (jp_un c.1 * c.2.2.1 i + c.2.2.2 i) % jp_un c.1 = c.2.2.2 i := by
  obtain ⟨⟨a1, a2⟩, a3, a4⟩ := jp_cell hw h0 h1
  have := jp_div (u := jp_un c.1) (k := c.2.2.1 i) ⟨a3, a4⟩
  have e : jp_un c.1 = 100 ∨ jp_un c.1 = 1000 := by
    unfold jp_un
    split
    · exact Or.inl rfl
    · exact Or.inr rfl
  refine ⟨?_, ?_, this⟩
  · rcases e with e | e <;> rw [e] at a4 ⊢ <;> omega
  · rcases e with e | e <;> rw [e] at a4 ⊢ <;> omega
theorem jk_become {p q : Nat} {c : jp_C} {n9 : Int} : ∀ (m : Nat) (i : Int) (K : jc_K), 0 ≤ i → i ≤ c.2.1 → c.2.1 < i + m → c.2.1 ≤ 32 → jk_a p q → jc_pg K p → jp_k K q c → jc_i K p 0 = c.1 → jc_i K p 1 = n9 → jc_i K p 2 = c.2.1 → (∀ j, 0 ≤ j → j < i → jc_i K (p + 1) j = jp_un c.1 * c.2.2.1 j + c.2.2.2 j) → ∃ K', fc35_26 m K p q i = some (K', 0) ∧ jk_f K K' p ∧ jp_k K' p c ∧ jc_i K' p 1 = n9 := by
  intro m
  induction m with
  | zero => intro i K h0 h1 h2; omega
  | succ m ih =>
    intro i K h0 h1 h2 h32 ha hp hq e0 e1 e2 hc
    unfold fc35_26
    rw [if_pos hp]
    by_cases c1 : jc_i K p 2 ≤ i
    · rw [if_pos c1]
      exact ⟨K, rfl, jk_f.refl K p, ⟨hp, e0, e2, fun j j0 j1 => hc j j0 (by omega)⟩, e1⟩
    · rw [if_neg c1, if_neg (by omega), if_pos hq.1, if_pos ⟨h0, by omega⟩, if_pos (by omega)]
      have hf : jk_f K (jc_ui K (p + 1) i (jc_i K (q + 1) i)) p := jk_f.u1
      obtain ⟨K', r1, r2, r3⟩ := ih (i + 1) (jc_ui K (p + 1) i (jc_i K (q + 1) i)) (by omega) (by omega) (by omega) h32 ha (hf.pg hp) (hf.k ha hq) ((jc_uN (by omega)).trans e0) ((jc_uN (by omega)).trans e1) ((jc_uN (by omega)).trans e2) (fun j j0 j1 => by
        by_cases hj : j = i
        · rw [hj, jc_uH]
          exact hq.2.2.2 i h0 (by omega)
        · rw [jc_uI hj]
          exact hc j j0 (by omega))
      exact ⟨K', r1, hf.trans r2, r3⟩
theorem jk_fc35 {K : jc_K} {p q : Nat} {c : jp_C} (hw : jp_w c) (ha : jk_a p q) (hp : jc_pg K p) (hq : jp_k K q c) : ∃ K', fc35 K p q = some (K', 0) ∧ jk_f K K' p ∧ jp_k K' p c ∧ jc_i K' p 1 = jc_i K q 1 := by
  unfold fc35
  rw [if_pos hq.1, if_pos hp, jo_Ne]
  obtain ⟨a1, a2, a3⟩ := ha
  have f1 : jk_f K (jc_ui K p 0 (jc_i K q 0)) p := jk_f.u0
  generalize hK1 : jc_ui K p 0 (jc_i K q 0) = K1 at f1
  have q1 := f1.k ⟨a1, a2, a3⟩ hq
  have f2 : jk_f K1 (jc_ui K1 p 1 (jc_i K1 q 1)) p := jk_f.u0
  generalize hK2 : jc_ui K1 p 1 (jc_i K1 q 1) = K2 at f2
  have q2 := f2.k ⟨a1, a2, a3⟩ q1
  have f3 : jk_f K2 (jc_ui K2 p 2 (jc_i K2 q 2)) p := jk_f.u0
  generalize hK3 : jc_ui K2 p 2 (jc_i K2 q 2) = K3 at f3
  have q3 := f3.k ⟨a1, a2, a3⟩ q2
  have g : jk_f K K3 p := (f1.trans f2).trans f3
  have e2 : jc_i K3 p 2 = c.2.1 := by rw [← hK3, jc_uH]; exact q2.2.2.1
  have e1 : jc_i K3 p 1 = jc_i K q 1 := by
    rw [← hK3, jc_uI (by decide), ← hK2, jc_uH, f1.2 q (by omega) (by omega)]
  have e0 : jc_i K3 p 0 = c.1 := by
    rw [← hK3, jc_uI (by decide), ← hK2, jc_uI (by decide), ← hK1, jc_uH]
    exact hq.2.1
  obtain ⟨K', r1, r2, r3⟩ := jk_become 4000 0 K3 (by omega) hw.1.1 (by have := hw.1.2; omega) hw.1.2 ⟨a1, a2, a3⟩ (g.pg hp) q3 e0 e1 e2 (fun j j0 j1 => by omega)
  exact ⟨K', r1, g.trans r2, r3⟩
theorem jk_fc34 {K : jc_K} {p : Nat} (k : Int) (hp : jc_pg K p) : ∃ K', fc34 K p k = some (K', 0) ∧ jk_f K K' p ∧ jp_k K' p (k, 0, (fun _ => 0), fun _ => 0) ∧ jc_i K' p 1 = jc_i K p 1 := by
  unfold fc34
  rw [if_pos hp]
  have f1 : jk_f K (jc_ui (jc_ui K p 0 k) p 2 0) p := jk_f.u0.trans jk_f.u0
  refine ⟨_, rfl, f1, ⟨f1.pg hp, ?_, jc_uH, fun i h0 h1 => ?_⟩, ?_⟩
  · rw [jc_uI (by decide), jc_uH]
  · have h1 : i < 0 := h1
    omega
  · rw [jc_uI (by decide), jc_uI (by decide)]
/-- the place of a key in a leaf -/
def jp_pl (c : jp_C) (x k : Int) : Prop := (0 ≤ k ∧ k ≤ c.2.1) ∧ (∀ i, 0 ≤ i → i < k → c.2.2.1 i < x) ∧ (k < c.2.1 → x ≤ c.2.2.1 k)
theorem jp_pl_u {c : jp_C} {x k k' : Int} (h : jp_pl c x k) (h' : jp_pl c x k') : k = k' := by
  by_cases e : k < k'
  · have := h'.2.1 k h.1.1 e
    have := h.2.2 (by have := h'.1.2; omega)
    omega
  · by_cases e2 : k' < k
    · have := h.2.1 k' h'.1.1 e2
      have := h'.2.2 (by have := h.1.2; omega)
      omega
    · omega
theorem jp_leaf {c : jp_C} (hk : c.1 = 1) : jp_un c.1 = 1000 := by unfold jp_un; rw [hk]; rfl
theorem jp_inner {c : jp_C} (hk : c.1 = 2) : jp_un c.1 = 100 := by unfold jp_un; rw [hk]; rfl
theorem jk_fc44 {K : jc_K} {p : Nat} {c : jp_C} {x : Int} (hw : jp_w c) (hk : c.1 = 1) (hp : jp_k K p c) : ∃ k, fc44 K p x = some (K, k) ∧ jp_pl c x k := by
  have key : ∀ (m : Nat) (i : Int), 0 ≤ i → i ≤ c.2.1 → c.2.1 < i + m → (∀ j, 0 ≤ j → j < i → c.2.2.1 j < x) → ∃ k, fc44_2 m K p x i = some (K, k) ∧ jp_pl c x k := by
    intro m
    induction m with
    | zero => intro i h0 h1 h2; omega
    | succ m ih =>
      intro i h0 h1 h2 hj
      unfold fc44_2
      rw [if_pos hp.1, hp.2.2.1]
      by_cases c1 : c.2.1 ≤ i
      · rw [if_pos c1]
        exact ⟨i, rfl, ⟨h0, h1⟩, hj, fun z => by omega⟩
      · obtain ⟨v1, v2, v3, v4⟩ := jp_cellv hw h0 (by omega)
        have hb := hw.1.2
        rw [if_neg c1, if_neg (by omega), if_pos ⟨h0, by omega⟩, hp.2.2.2 i h0 (by omega), if_pos v1]
        rw [jp_leaf hk] at v3 ⊢
        rw [v3]
        by_cases c2 : x ≤ c.2.2.1 i
        · rw [if_pos c2]
          exact ⟨i, rfl, ⟨h0, h1⟩, hj, fun _ => c2⟩
        · rw [if_neg c2, if_pos (by omega)]
          refine ih (i + 1) (by omega) (by omega) (by omega) (fun j j0 j1 => ?_)
          by_cases e : j = i
          · rw [e]; omega
          · exact hj j j0 (by omega)
  unfold fc44
  rw [jo_Ne]
  exact key 4000 0 (by omega) hw.1.1 (by have := hw.1.2; omega) (fun j j0 j1 => by omega)
def jp_at (c : jp_C) (x : Int) (k v : Int) : Prop := jp_pl c x k ∧ v = (if k < c.2.1 ∧ c.2.2.1 k = x then c.2.2.2 k else -1)
theorem jk_fc37 {K : jc_K} {p : Nat} {c : jp_C} {i : Int} (hw : jp_w c) (hp : jp_k K p c) : fc37 K p i = some (K, if 0 ≤ i ∧ i < c.2.1 then jp_un c.1 * c.2.2.1 i + c.2.2.2 i else -1) := by
  unfold fc37
  have hb := hw.1.2
  by_cases c1 : i < 0
  · rw [if_pos c1, if_neg (by omega)]
  · rw [if_neg c1, if_pos hp.1, hp.2.2.1]
    by_cases c2 : c.2.1 ≤ i
    · rw [if_pos c2, if_neg (by omega)]
    · rw [if_neg c2, if_neg (by omega), if_pos ⟨by omega, by omega⟩, hp.2.2.2 i (by omega) (by omega), if_pos ⟨by omega, by omega⟩]
theorem jk_fc37i {K : jc_K} {p : Nat} {c : jp_C} {i : Int} (hw : jp_w c) (hp : jp_k K p c) (h0 : 0 ≤ i) (h1 : i < c.2.1) : fc37 K p i = some (K, jp_un c.1 * c.2.2.1 i + c.2.2.2 i) := by
  rw [jk_fc37 hw hp, if_pos ⟨h0, h1⟩]
theorem jk_fc37o {K : jc_K} {p : Nat} {c : jp_C} {i : Int} (hw : jp_w c) (hp : jp_k K p c) (h : i < 0 ∨ c.2.1 ≤ i) : fc37 K p i = some (K, -1) := by
  rw [jk_fc37 hw hp, if_neg (by omega)]
theorem jk_fc42 {K : jc_K} {p : Nat} {c : jp_C} {x : Int} (hw : jp_w c) (hk : c.1 = 1) (hp : jp_k K p c) : ∃ k v, fc42 K p x = some (K, v) ∧ jp_at c x k v := by
  obtain ⟨k, e1, e2⟩ := jk_fc44 (x := x) hw hk hp
  unfold fc42
  rw [if_pos hp.1, e1, jo_bs]
  dsimp only
  rw [if_pos hp.1]
  by_cases c1 : k < c.2.1
  · obtain ⟨v1, v2, v3, v4⟩ := jp_cellv hw e2.1.1 c1
    rw [jk_fc37i hw hp e2.1.1 c1, jo_bs]
    dsimp only
    rw [jp_leaf hk] at v1 v3 v4 ⊢
    refine ⟨k, (if k < c.2.1 ∧ c.2.2.1 k = x then c.2.2.2 k else -1), ?_, e2, rfl⟩
    rw [if_neg (by omega), if_pos v1, v3]
    by_cases c2 : c.2.2.1 k = x
    · rw [if_pos c2, if_pos v1, if_pos ⟨c1, c2⟩, v4]
    · rw [if_neg c2, if_neg (fun z => c2 z.2)]
  · rw [jk_fc37o hw hp (Or.inr (by omega)), jo_bs]
    dsimp only
    rw [if_pos rfl]
    exact ⟨k, -1, rfl, e2, by rw [if_neg (fun z => c1 z.1)]⟩
/-- a content with an entry more at k -/
def jp_ins (c : jp_C) (k x y : Int) : jp_C := (c.1, c.2.1 + 1, (fun i => if i < k then c.2.2.1 i else if i = k then x else c.2.2.1 (i - 1)), fun i => if i < k then c.2.2.2 i else if i = k then y else c.2.2.2 (i - 1))
/-- with the one at k less -/
def jp_del (c : jp_C) (k : Int) : jp_C := (c.1, c.2.1 - 1, (fun i => if i < k then c.2.2.1 i else c.2.2.1 (i + 1)), fun i => if i < k then c.2.2.2 i else c.2.2.2 (i + 1))
/-- with another value at k -/
def jp_set (c : jp_C) (k y : Int) : jp_C := (c.1, c.2.1, c.2.2.1, fun i => if i = k then y else c.2.2.2 i)
/-- the part from lo on and ahead of hi -/
def jp_part (c : jp_C) (lo hi : Int) : jp_C := (c.1, hi - lo, (fun i => if c.1 = 2 ∧ i = 0 then 0 else c.2.2.1 (i + lo)), fun i => c.2.2.2 (i + lo))
/-- without a key ahead of the first -/
def jp_fg (c : jp_C) : jp_C := (c.1, c.2.1, (fun i => if c.1 = 2 ∧ i = 0 then 0 else c.2.2.1 i), c.2.2.2)
theorem jk_fc45 {K : jc_K} {p : Nat} {c : jp_C} {k x y v : Int} (hw : jp_w c) (hp : jp_k K p c) (h0 : 0 ≤ k) (h1 : k ≤ c.2.1) (h2 : c.2.1 < 32) (hv : v = jp_un c.1 * x + y) : ∃ K', fc45 K p k v = some (K', 0) ∧ jk_f K K' p ∧ jp_k K' p (jp_ins c k x y) ∧ jc_i K' p 1 = jc_i K p 1 := by
  have key : ∀ (m : Nat) (i : Int) (K1 : jc_K), k ≤ i → i ≤ c.2.1 → i < k + m → jk_f K K1 p → (jc_i K1 p 0 = c.1 ∧ jc_i K1 p 1 = jc_i K p 1 ∧ jc_i K1 p 2 = c.2.1) → (∀ j, 0 ≤ j → j ≤ i → j < c.2.1 → jc_i K1 (p + 1) j = jp_un c.1 * c.2.2.1 j + c.2.2.2 j) → (∀ j, i < j → j ≤ c.2.1 → jc_i K1 (p + 1) j = jp_un c.1 * c.2.2.1 (j - 1) + c.2.2.2 (j - 1)) → ∃ K', fc45_27 m K1 p k v i = some (K', 0) ∧ jk_f K K' p ∧ jp_k K' p (jp_ins c k x y) ∧ jc_i K' p 1 = jc_i K p 1 := by
    intro m
    induction m with
    | zero => intro i K1 a1 a2 a3; omega
    | succ m ih =>
      intro i K1 a1 a2 a3 f e lo hi
      unfold fc45_27
      have hp1 := f.pg hp.1
      by_cases c1 : i ≤ k
      · have hik : i = k := by omega
        subst hik
        rw [if_pos c1, if_pos hp1, if_pos ⟨h0, by omega⟩, e.2.2, if_pos (by omega)]
        have f2 : jk_f K1 (jc_ui (jc_ui K1 (p + 1) i v) p 2 (c.2.1 + 1)) p := jk_f.u1.trans jk_f.u0
        refine ⟨_, rfl, f.trans f2, ⟨f2.pg hp1, ?_, jc_uH, fun j j0 j1 => ?_⟩, ?_⟩
        · rw [jc_uI (by decide), jc_uN (by omega)]
          exact e.1
        · have j1 : j < c.2.1 + 1 := j1
          rw [jc_uN (by omega)]
          show jc_i (jc_ui K1 (p + 1) i v) (p + 1) j = jp_un c.1 * (if j < i then c.2.2.1 j else if j = i then x else c.2.2.1 (j - 1)) + (if j < i then c.2.2.2 j else if j = i then y else c.2.2.2 (j - 1))
          by_cases c2 : j = i
          · rw [c2, jc_uH, if_neg (by omega), if_pos rfl, if_neg (by omega), if_pos rfl]
            exact hv
          · rw [jc_uI c2]
            by_cases c3 : j < i
            · rw [if_pos c3, if_pos c3]
              exact lo j j0 (by omega) (by omega)
            · rw [if_neg c3, if_neg c2, if_neg c3, if_neg c2]
              exact hi j (by omega) (by omega)
        · rw [jc_uI (by decide), jc_uN (by omega)]
          exact e.2.1
      · rw [if_neg c1, if_pos hp1, if_pos ⟨by omega, by omega⟩, if_pos ⟨by omega, by omega⟩, if_pos (by omega)]
        have f2 : jk_f K1 (jc_ui K1 (p + 1) i (jc_i K1 (p + 1) (i - 1))) p := jk_f.u1
        refine ih (i + (-1)) _ (by omega) (by omega) (by omega) (f.trans f2) ⟨(jc_uN (by omega)).trans e.1, (jc_uN (by omega)).trans e.2.1, (jc_uN (by omega)).trans e.2.2⟩ (fun j j0 j1 j2 => ?_) (fun j j0 j1 => ?_)
        · rw [jc_uI (by omega)]
          exact lo j j0 (by omega) j2
        · by_cases c2 : j = i
          · rw [c2, jc_uH]
            exact lo (i - 1) (by omega) (by omega) (by omega)
          · rw [jc_uI c2]
            exact hi j (by omega) j1
  unfold fc45
  rw [if_neg (by omega), if_pos hp.1, hp.2.2.1, if_neg (by omega), if_pos h2, jo_Ne]
  exact key 4000 c.2.1 K h1 (Int.le_refl _) (by omega) (jk_f.refl K p) ⟨hp.2.1, rfl, hp.2.2.1⟩ (fun j j0 j1 j2 => hp.2.2.2 j j0 j2) (fun j j0 j1 => by omega)
theorem jk_fc46 {K : jc_K} {p : Nat} {c : jp_C} {k : Int} (hw : jp_w c) (hp : jp_k K p c) (h0 : 0 ≤ k) (h1 : k < c.2.1) : ∃ K', fc46 K p k = some (K', 0) ∧ jk_f K K' p ∧ jp_k K' p (jp_del c k) ∧ jc_i K' p 1 = jc_i K p 1 := by
  have hb := hw.1.2
  have key : ∀ (m : Nat) (i : Int) (K1 : jc_K), k < i → i ≤ c.2.1 → c.2.1 < i + m → jk_f K K1 p → (jc_i K1 p 0 = c.1 ∧ jc_i K1 p 1 = jc_i K p 1 ∧ jc_i K1 p 2 = c.2.1) → (∀ j, 0 ≤ j → j < c.2.1 → (j < k ∨ i ≤ j) → jc_i K1 (p + 1) j = jp_un c.1 * c.2.2.1 j + c.2.2.2 j) → (∀ j, k ≤ j → j + 1 < i → jc_i K1 (p + 1) j = jp_un c.1 * c.2.2.1 (j + 1) + c.2.2.2 (j + 1)) → ∃ K', fc46_26 m K1 p k i = some (K', 0) ∧ jk_f K K' p ∧ jp_k K' p (jp_del c k) ∧ jc_i K' p 1 = jc_i K p 1 := by
    intro m
    induction m with
    | zero => intro i K1 a1 a2 a3; omega
    | succ m ih =>
      intro i K1 a1 a2 a3 f e lo hi
      unfold fc46_26
      have hp1 := f.pg hp.1
      rw [if_pos hp1, e.2.2]
      by_cases c1 : c.2.1 ≤ i
      · rw [if_pos c1, if_pos (by omega)]
        have f2 : jk_f K1 (jc_ui K1 p 2 (c.2.1 - 1)) p := jk_f.u0
        refine ⟨_, rfl, f.trans f2, ⟨f2.pg hp1, ?_, jc_uH, fun j j0 j1 => ?_⟩, ?_⟩
        · rw [jc_uI (by decide)]
          exact e.1
        · have j1 : j < c.2.1 - 1 := j1
          rw [jc_uN (by omega)]
          show jc_i K1 (p + 1) j = jp_un c.1 * (if j < k then c.2.2.1 j else c.2.2.1 (j + 1)) + (if j < k then c.2.2.2 j else c.2.2.2 (j + 1))
          by_cases c3 : j < k
          · rw [if_pos c3, if_pos c3]
            exact lo j j0 (by omega) (Or.inl c3)
          · rw [if_neg c3, if_neg c3]
            exact hi j (by omega) (by omega)
        · rw [jc_uI (by decide)]
          exact e.2.1
      · rw [if_neg c1, if_pos ⟨by omega, by omega⟩, if_pos ⟨by omega, by omega⟩, if_pos (by omega)]
        have f2 : jk_f K1 (jc_ui K1 (p + 1) (i - 1) (jc_i K1 (p + 1) i)) p := jk_f.u1
        refine ih (i + 1) _ (by omega) (by omega) (by omega) (f.trans f2) ⟨(jc_uN (by omega)).trans e.1, (jc_uN (by omega)).trans e.2.1, (jc_uN (by omega)).trans e.2.2⟩ (fun j j0 j1 j2 => ?_) (fun j j0 j1 => ?_)
        · rw [jc_uI (by omega)]
          exact lo j j0 j1 (by omega)
        · by_cases c2 : j = i - 1
          · rw [c2, jc_uH]
            have := lo i (by omega) (by omega) (Or.inr (Int.le_refl _))
            rw [this, show i - 1 + 1 = i by omega]
          · rw [jc_uI c2]
            exact hi j j0 (by omega)
  unfold fc46
  rw [if_neg (by omega), if_pos hp.1, hp.2.2.1, if_neg (by omega), if_pos hb, if_pos (by omega), jo_Ne]
  exact key 4000 (k + 1) K (by omega) (by omega) (by omega) (jk_f.refl K p) ⟨hp.2.1, rfl, hp.2.2.1⟩ (fun j j0 j1 j2 => hp.2.2.2 j j0 j1) (fun j j0 j1 => by omega)
