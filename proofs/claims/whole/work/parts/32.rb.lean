/-! the reference's small methods: what each does to G, closed -/
def fr_copies (G : jg_G) (a b : Int) : jg_G := fun n j => if n = 93 ∧ 67 * b ≤ j ∧ j < 67 * b + 67 then G 93 (j - 67 * b + 67 * a) else G n j
theorem cs148 {d : Nat} {σ0 : ib_H} {G : jg_G} {Q : ib_O → Prop} {a b : Int} (ha : 0 ≤ a ∧ a < 4554) (hb : 0 ≤ b ∧ b < 4554) (h : jg_E σ0 (fr_copies G a b) none Q) : jg_W σ0 G d 148 0 [some (.ref 92), some (jb_v a), some (jb_v b), none] [] Q := by
  have ra : jb_r a := ⟨by omega, by omega⟩
  have rb : jb_r b := ⟨by omega, by omega⟩
  have key : ∀ (m : Nat) (i : Int), i = 67 - m → 0 ≤ i → jg_W σ0 (fun n j => if n = 93 ∧ 67 * b ≤ j ∧ j < 67 * b + i then G 93 (j - 67 * b + 67 * a) else G n j) d 148 2 [some (.ref 92), some (jb_v a), some (jb_v b), some (jb_v i)] [] Q := by
    intro m
    induction m with
    | zero =>
      intro i hi h0
      have hi : i = 67 := by omega
      subst hi
      exact jt148_2 ra rb ⟨by decide, by decide⟩ ⟨fun _ => h, fun z => absurd (by decide) z⟩
    | succ m ih =>
      intro i hi h0
      refine jt148_2 ra rb ⟨by omega, by omega⟩ ⟨fun z => by omega, fun _ => ⟨⟨by omega, by omega⟩, ⟨by omega, by omega⟩, ?_⟩⟩
      have e := ih (i + 1) (by omega) (by omega)
      refine cast (congrArg (fun g => jg_W σ0 g d 148 2 [some (.ref 92), some (jb_v a), some (jb_v b), some (jb_v (i + 1))] [] Q) ?_) e
      funext n j
      by_cases hn : n = 93
      · subst hn
        simp only [jg_u, true_and]
        repeat' split
        all_goals first | rfl | (exfalso; omega) | (congr 1; omega)
      · simp only [jg_u, hn, false_and, if_false]
  refine jt148_0 ra rb ?_
  refine cast (congrArg (fun g => jg_W σ0 g d 148 2 [some (.ref 92), some (jb_v a), some (jb_v b), some (jb_v 0)] [] Q) ?_) (key 67 0 (by omega) (by omega))
  funext n j
  rw [if_neg]
  omega
def fr_empties (G : jg_G) (a k : Int) : jg_G := fun n j => if n = 93 ∧ 67 * a ≤ j ∧ j < 67 * a + 67 then (if j = 67 * a then k else 0) else G n j
theorem cs154 {d : Nat} {σ0 : ib_H} {G : jg_G} {Q : ib_O → Prop} {a k : Int} (ha : 0 ≤ a ∧ a < 4554) (hk : jb_r k) (h : jg_E σ0 (fr_empties G a k) none Q) : jg_W σ0 G d 154 0 [some (.ref 92), some (jb_v a), some (jb_v k), none] [] Q := by
  have ra : jb_r a := ⟨by omega, by omega⟩
  have key : ∀ (m : Nat) (i : Int), i = 67 - m → 0 ≤ i → jg_W σ0 (fun n j => if n = 93 ∧ 67 * a ≤ j ∧ j < 67 * a + i then 0 else G n j) d 154 2 [some (.ref 92), some (jb_v a), some (jb_v k), some (jb_v i)] [] Q := by
    intro m
    induction m with
    | zero =>
      intro i hi h0
      have hi : i = 67 := by omega
      subst hi
      refine jt154_2 ra hk ⟨by decide, by decide⟩ ⟨fun _ => ⟨⟨by omega, by omega⟩, ?_⟩, fun z => absurd (by decide) z⟩
      refine cast (congrArg (fun g => jg_E σ0 g none Q) ?_) h
      funext n j
      by_cases hn : n = 93
      · subst hn
        simp only [jg_u, fr_empties, true_and]
        repeat' split
        all_goals first | rfl | (exfalso; omega)
      · simp only [jg_u, fr_empties, hn, false_and, if_false]
    | succ m ih =>
      intro i hi h0
      refine jt154_2 ra hk ⟨by omega, by omega⟩ ⟨fun z => by omega, fun _ => ⟨⟨by omega, by omega⟩, ?_⟩⟩
      have e := ih (i + 1) (by omega) (by omega)
      refine cast (congrArg (fun g => jg_W σ0 g d 154 2 [some (.ref 92), some (jb_v a), some (jb_v k), some (jb_v (i + 1))] [] Q) ?_) e
      funext n j
      by_cases hn : n = 93
      · subst hn
        simp only [jg_u, true_and]
        repeat' split
        all_goals first | rfl | (exfalso; omega)
      · simp only [jg_u, hn, false_and, if_false]
  refine jt154_0 ra hk ?_
  refine cast (congrArg (fun g => jg_W σ0 g d 154 2 [some (.ref 92), some (jb_v a), some (jb_v k), some (jb_v 0)] [] Q) ?_) (key 67 0 (by omega) (by omega))
  funext n j
  rw [if_neg]
  omega
/-- an entry laid at k: what stood from there on moves one up; n stood there -/
def fr_puts (G : jg_G) (a k x y : Int) : jg_G := fun n j => if n = 93 ∧ j = 67 * a + 2 then G 93 (67 * a + 2) + 1 else if n = 93 ∧ j = 67 * a + 3 + 2 * k then x else if n = 93 ∧ j = 67 * a + 4 + 2 * k then y else if n = 93 ∧ 67 * a + 5 + 2 * k ≤ j ∧ j < 67 * a + 5 + 2 * G 93 (67 * a + 2) then G 93 (j - 2) else G n j
theorem cs156 {d : Nat} {σ0 : ib_H} {G : jg_G} {Q : ib_O → Prop} {a k x y : Int} (ha : 0 ≤ a ∧ a < 4554) (hk : 0 ≤ k ∧ k ≤ G 93 (67 * a + 2) ∧ G 93 (67 * a + 2) < 32) (hx : jb_r x) (hy : jb_r y) (h : jg_E σ0 (fr_puts G a k x y) none Q) : jg_W σ0 G (d + 1) 156 0 [some (.ref 92), some (jb_v a), some (jb_v k), some (jb_v x), some (jb_v y), none, none] [] Q := by
  have ra : jb_r a := ⟨by omega, by omega⟩
  have rk : jb_r k := ⟨by omega, by omega⟩
  generalize hc : G 93 (67 * a + 2) = c at hk
  have key : ∀ (m : Nat) (i : Int), i = k + m → i ≤ c → jg_W σ0 (fun n j => if n = 93 ∧ 67 * a + 5 + 2 * i ≤ j ∧ j < 67 * a + 5 + 2 * c then G 93 (j - 2) else G n j) (d + 1) 156 11 [some (.ref 92), some (jb_v a), some (jb_v k), some (jb_v x), some (jb_v y), some (jb_v c), some (jb_v i)] [] Q := by
    intro m
    induction m with
    | zero =>
      intro i hi h0
      have hi : i = k := by omega
      subst hi
      refine jt156_11 ra rk hx hy ⟨by omega, by omega⟩ ⟨by omega, by omega⟩ ⟨fun _ => ⟨⟨by omega, by omega⟩, ⟨by omega, by omega⟩, ⟨by omega, by omega⟩, ⟨by omega, by omega⟩, ?_⟩, fun z => absurd (Int.le_refl _) z⟩
      refine cast (congrArg (fun g => jg_E σ0 g none Q) ?_) h
      funext n j
      by_cases hn : n = 93
      · subst hn
        simp only [jg_u, fr_puts, true_and, hc]
        repeat' split
        all_goals first | rfl | (exfalso; omega)
      · simp only [jg_u, fr_puts, hn, false_and, if_false]
    | succ m ih =>
      intro i hi h0
      refine jt156_11 ra rk hx hy ⟨by omega, by omega⟩ ⟨by omega, by omega⟩ ⟨fun z => by omega, fun _ => ⟨⟨by omega, by omega⟩, ⟨by omega, by omega⟩, ⟨by omega, by omega⟩, ⟨by omega, by omega⟩, ?_⟩⟩
      have e := ih (i + -1) (by omega) (by omega)
      refine cast (congrArg (fun g => jg_W σ0 g (d + 1) 156 11 [some (.ref 92), some (jb_v a), some (jb_v k), some (jb_v x), some (jb_v y), some (jb_v c), some (jb_v (i + -1))] [] Q) ?_) e
      funext n j
      by_cases hn : n = 93
      · subst hn
        simp only [jg_u, true_and]
        repeat' split
        all_goals first | rfl | (exfalso; omega) | (congr 1; omega)
      · simp only [jg_u, hn, false_and, if_false]
  refine jt156_0 ra rk hx hy ⟨⟨by omega, by omega⟩, ?_⟩
  rw [hc]
  refine cast (congrArg (fun g => jg_W σ0 g (d + 1) 156 11 [some (.ref 92), some (jb_v a), some (jb_v k), some (jb_v x), some (jb_v y), some (jb_v c), some (jb_v c)] [] Q) ?_) (key (c - k).toNat c (by omega) (by omega))
  funext n j
  rw [if_neg]
  omega
def fr_drops (G : jg_G) (a k : Int) : jg_G := fun n j => if n = 93 ∧ j = 67 * a + 2 then G 93 (67 * a + 2) - 1 else if n = 93 ∧ (j = 67 * a + 1 + 2 * G 93 (67 * a + 2) ∨ j = 67 * a + 2 + 2 * G 93 (67 * a + 2)) then 0 else if n = 93 ∧ 67 * a + 3 + 2 * k ≤ j ∧ j < 67 * a + 1 + 2 * G 93 (67 * a + 2) then G 93 (j + 2) else G n j
theorem cs157 {d : Nat} {σ0 : ib_H} {G : jg_G} {Q : ib_O → Prop} {a k : Int} (ha : 0 ≤ a ∧ a < 4554) (hk : 0 ≤ k ∧ k < G 93 (67 * a + 2) ∧ G 93 (67 * a + 2) ≤ 32) (h : jg_E σ0 (fr_drops G a k) none Q) : jg_W σ0 G (d + 1) 157 0 [some (.ref 92), some (jb_v a), some (jb_v k), none, none] [] Q := by
  have ra : jb_r a := ⟨by omega, by omega⟩
  have rk : jb_r k := ⟨by omega, by omega⟩
  generalize hc : G 93 (67 * a + 2) = c at hk
  have key : ∀ (m : Nat) (i : Int), i = c - 1 - m → k ≤ i → jg_W σ0 (fun n j => if n = 93 ∧ 67 * a + 3 + 2 * k ≤ j ∧ j < 67 * a + 3 + 2 * i then G 93 (j + 2) else G n j) (d + 1) 157 11 [some (.ref 92), some (jb_v a), some (jb_v k), some (jb_v (c - 1)), some (jb_v i)] [] Q := by
    intro m
    induction m with
    | zero =>
      intro i hi h0
      have hi : i = c - 1 := by omega
      subst hi
      refine jt157_11 ra rk ⟨by omega, by omega⟩ ⟨by omega, by omega⟩ ⟨fun _ => ⟨⟨by omega, by omega⟩, ⟨by omega, by omega⟩, ⟨by omega, by omega⟩, ?_⟩, fun z => absurd (Int.le_refl _) z⟩
      refine cast (congrArg (fun g => jg_E σ0 g none Q) ?_) h
      funext n j
      by_cases hn : n = 93
      · subst hn
        simp only [jg_u, fr_drops, true_and, hc]
        repeat' split
        all_goals first | rfl | (exfalso; omega)
      · simp only [jg_u, fr_drops, hn, false_and, if_false]
    | succ m ih =>
      intro i hi h0
      refine jt157_11 ra rk ⟨by omega, by omega⟩ ⟨by omega, by omega⟩ ⟨fun z => by omega, fun _ => ⟨⟨by omega, by omega⟩, ⟨by omega, by omega⟩, ⟨by omega, by omega⟩, ⟨by omega, by omega⟩, ?_⟩⟩
      have e := ih (i + 1) (by omega) (by omega)
      refine cast (congrArg (fun g => jg_W σ0 g (d + 1) 157 11 [some (.ref 92), some (jb_v a), some (jb_v k), some (jb_v (c - 1)), some (jb_v (i + 1))] [] Q) ?_) e
      funext n j
      by_cases hn : n = 93
      · subst hn
        simp only [jg_u, true_and]
        repeat' split
        all_goals first | rfl | (exfalso; omega) | (congr 1; omega)
      · simp only [jg_u, hn, false_and, if_false]
  refine jt157_0 ra rk ⟨⟨by omega, by omega⟩, ?_⟩
  rw [hc]
  refine cast (congrArg (fun g => jg_W σ0 g (d + 1) 157 11 [some (.ref 92), some (jb_v a), some (jb_v k), some (jb_v (c - 1)), some (jb_v k)] [] Q) ?_) (key (c - 1 - k).toNat k (by omega) (by omega))
  funext n j
  rw [if_neg]
  omega
/-- the first place from k on whose key is not less -/
def fr_scan (G : jg_G) (a x : Int) : Nat → Int → Int
  | 0, k => k
  | m + 1, k => if G 93 (67 * a + 2) ≤ k then k else if x ≤ G 93 (67 * a + 3 + 2 * k) then k else fr_scan G a x m (k + 1)
theorem fr_scan_sp (G : jg_G) (a x : Int) : ∀ (m : Nat) (k : Int), 0 ≤ k → k ≤ G 93 (67 * a + 2) → G 93 (67 * a + 2) ≤ k + m → k ≤ fr_scan G a x m k ∧ fr_scan G a x m k ≤ G 93 (67 * a + 2) ∧ (∀ i, k ≤ i → i < fr_scan G a x m k → G 93 (67 * a + 3 + 2 * i) < x) ∧ (fr_scan G a x m k < G 93 (67 * a + 2) → x ≤ G 93 (67 * a + 3 + 2 * fr_scan G a x m k)) := by
  intro m
  induction m with
  | zero =>
    intro k h0 h1 h2
    unfold fr_scan
    exact ⟨by omega, by omega, fun i _ _ => by omega, fun _ => by omega⟩
  | succ m ih =>
    intro k h0 h1 h2
    unfold fr_scan
    split
    · exact ⟨by omega, by omega, fun i _ _ => by omega, fun _ => by omega⟩
    · split
      · exact ⟨by omega, by omega, fun i _ _ => by omega, fun _ => by assumption⟩
      · rename_i c1 c2
        obtain ⟨e1, e2, e3, e4⟩ := ih (k + 1) (by omega) (by omega) (by omega)
        refine ⟨by omega, e2, fun i hi hi2 => ?_, e4⟩
        by_cases hik : i = k
        · subst hik; omega
        · exact e3 i (by omega) hi2
def fr_at (G : jg_G) (a x : Int) : Int := fr_scan G a x 33 0
def fr_pl (G : jg_G) (a x : Int) : Int := if fr_at G a x < G 93 (67 * a + 2) ∧ G 93 (67 * a + 3 + 2 * fr_at G a x) = x then fr_at G a x else -1 - fr_at G a x
theorem cs158 {d : Nat} {σ0 : ib_H} {G : jg_G} {Q : ib_O → Prop} {a x : Int} (ha : 0 ≤ a ∧ a < 4554) (hk : 0 ≤ G 93 (67 * a + 2) ∧ G 93 (67 * a + 2) ≤ 32) (hx : jb_r x) (h : ∀ σ, jg_S σ0 G σ → jb_r (fr_pl G a x) → Q (.inl (some (jb_v (fr_pl G a x))), σ)) : jg_W σ0 G (d + 1) 158 0 [some (.ref 92), some (jb_v a), some (jb_v x), none] [] Q := by
  have ra : jb_r a := ⟨by omega, by omega⟩
  have hr : jb_r (fr_pl G a x) := by
    have := fr_scan_sp G a x 33 0 (by omega) (by omega) (by omega)
    unfold fr_pl fr_at
    split <;> exact ⟨by omega, by omega⟩
  have key : ∀ (m : Nat) (k : Int), 0 ≤ k → k ≤ G 93 (67 * a + 2) → G 93 (67 * a + 2) < k + m → fr_scan G a x m k = fr_at G a x → jg_W σ0 G (d + 1) 158 2 [some (.ref 92), some (jb_v a), some (jb_v x), some (jb_v k)] [] Q := by
    intro m
    induction m with
    | zero =>
      intro k h0 h1 h2 _
      omega
    | succ m ih =>
      intro k h0 h1 h2 he
      unfold fr_scan at he
      refine jt158_2 ra hx ⟨by omega, by omega⟩ ⟨⟨by omega, by omega⟩, fun c1 => ?_, fun c1 => ⟨⟨by omega, by omega⟩, fun c2 => ⟨fun c3 => ?_, fun c3 => ?_⟩, fun c2 => ?_⟩⟩
      · rw [if_pos c1] at he
        have : fr_pl G a x = -1 - k := by
          unfold fr_pl
          rw [← he, if_neg (by omega)]
        rw [← this]
        exact fun σ s => h σ s hr
      · rw [if_neg c1, if_pos c2] at he
        have : fr_pl G a x = -1 - k := by
          unfold fr_pl
          rw [← he, if_neg (fun z => c3 z.2)]
        rw [← this]
        exact fun σ s => h σ s hr
      · rw [if_neg c1, if_pos c2] at he
        have : fr_pl G a x = k := by
          unfold fr_pl
          rw [← he, if_pos ⟨by omega, Decidable.byContradiction c3⟩]
        rw [← this]
        exact fun σ s => h σ s hr
      · rw [if_neg c1, if_neg c2] at he
        exact ih (k + 1) (by omega) (by omega) (by omega) he
  refine jt158_0 ra hx ?_
  exact key 33 0 (by omega) (by omega) (by omega) rfl
/-- the last place from k on ahead of which no key is greater -/
def fr_cs (G : jg_G) (a x : Int) : Nat → Int → Int
  | 0, k => k
  | m + 1, k => if G 93 (67 * a + 2) ≤ k + 1 then k else if x < G 93 (67 * a + 3 + 2 * (k + 1)) then k else fr_cs G a x m (k + 1)
theorem fr_cs_sp (G : jg_G) (a x : Int) : ∀ (m : Nat) (k : Int), 0 ≤ k → G 93 (67 * a + 2) ≤ k + 1 + m → k ≤ fr_cs G a x m k ∧ (k < G 93 (67 * a + 2) → fr_cs G a x m k < G 93 (67 * a + 2)) ∧ (G 93 (67 * a + 2) ≤ k → fr_cs G a x m k = k) ∧ (∀ i, k < i → i ≤ fr_cs G a x m k → G 93 (67 * a + 3 + 2 * i) ≤ x) ∧ (fr_cs G a x m k + 1 < G 93 (67 * a + 2) → x < G 93 (67 * a + 3 + 2 * (fr_cs G a x m k + 1))) := by
  intro m
  induction m with
  | zero =>
    intro k h0 h2
    unfold fr_cs
    exact ⟨by omega, by omega, fun _ => rfl, fun i _ _ => by omega, fun _ => by omega⟩
  | succ m ih =>
    intro k h0 h2
    unfold fr_cs
    split
    · exact ⟨by omega, by omega, fun _ => rfl, fun i _ _ => by omega, fun _ => by omega⟩
    · split
      · exact ⟨by omega, by omega, fun _ => rfl, fun i _ _ => by omega, fun _ => by assumption⟩
      · rename_i c1 c2
        obtain ⟨e1, e2, e3, e4, e5⟩ := ih (k + 1) (by omega) (by omega)
        refine ⟨by omega, fun _ => e2 (by omega), fun _ => by omega, fun i hi hi2 => ?_, e5⟩
        by_cases hik : i = k + 1
        · subst hik; omega
        · exact e4 i (by omega) hi2
def fr_ct (G : jg_G) (a x : Int) : Int := fr_cs G a x 33 0
def fr_ch (G : jg_G) (a x : Int) : Int := G 93 (67 * a + 4 + 2 * fr_ct G a x)
theorem cs159 {d : Nat} {σ0 : ib_H} {G : jg_G} {Q : ib_O → Prop} {a x : Int} (ha : 0 ≤ a ∧ a < 4553) (hk : 0 ≤ G 93 (67 * a + 2) ∧ G 93 (67 * a + 2) ≤ 32) (hx : jb_r x) (h : ∀ σ, jg_S σ0 G σ → jb_r (fr_ch G a x) → Q (.inl (some (jb_v (fr_ch G a x))), σ)) : jg_W σ0 G (d + 1) 159 0 [some (.ref 92), some (jb_v a), some (jb_v x), none] [] Q := by
  have ra : jb_r a := ⟨by omega, by omega⟩
  have key : ∀ (m : Nat) (k : Int), 0 ≤ k → k ≤ 32 → G 93 (67 * a + 2) ≤ k + m → fr_cs G a x m k = fr_ct G a x → jg_W σ0 G (d + 1) 159 2 [some (.ref 92), some (jb_v a), some (jb_v x), some (jb_v k)] [] Q := by
    have fin : ∀ k, k = fr_ct G a x → 0 ≤ k → k ≤ 32 → (0 ≤ (((67 * a) + 4) + (2 * k)) ∧ (((67 * a) + 4) + (2 * k)) < 305118) ∧ (jg_E σ0 G (some (jb_v (G 93 (((67 * a) + 4) + (2 * k))))) Q) := by
      intro k he h0 h1
      refine ⟨⟨by omega, by omega⟩, fun σ s => ?_⟩
      subst he
      exact h σ s (s.r _ _)
    intro m
    induction m with
    | zero =>
      intro k h0 h1 h2 he
      unfold fr_cs at he
      exact jt159_2 ra hx ⟨by omega, by omega⟩ ⟨⟨by omega, by omega⟩, ⟨by omega, by omega⟩, fun c1 => fin k he h0 h1, fun c1 => by omega⟩
    | succ m ih =>
      intro k h0 h1 h2 he
      unfold fr_cs at he
      refine jt159_2 ra hx ⟨by omega, by omega⟩ ⟨⟨by omega, by omega⟩, ⟨by omega, by omega⟩, fun c1 => ?_, fun c1 => ⟨⟨by omega, by omega⟩, fun c2 => ?_, fun c2 => ?_⟩⟩
      · rw [if_pos c1] at he
        exact fin k he h0 h1
      · rw [if_neg c1, if_pos c2] at he
        exact fin k he h0 h1
      · rw [if_neg c1, if_neg c2] at he
        exact ih (k + 1) (by omega) (by omega) (by omega) he
  refine jt159_0 ra hx ?_
  exact key 33 0 (by omega) (by omega) (by omega) rfl
def fr_fo (G : jg_G) (p : Int) : Int := if G 95 3 = p then 3 else if G 95 2 = p then 2 else if G 95 1 = p then 1 else if G 95 0 = p then 0 else -1
theorem fr_fo_r (G : jg_G) (p : Int) : -1 ≤ fr_fo G p ∧ fr_fo G p < 4 ∧ (0 ≤ fr_fo G p → G 95 (fr_fo G p) = p) := by
  unfold fr_fo
  split
  · exact ⟨by decide, by decide, fun _ => by assumption⟩
  split
  · exact ⟨by decide, by decide, fun _ => by assumption⟩
  split
  · exact ⟨by decide, by decide, fun _ => by assumption⟩
  split
  · exact ⟨by decide, by decide, fun _ => by assumption⟩
  · exact ⟨by decide, by decide, fun h => absurd h (by decide)⟩
theorem cs160 {d : Nat} {σ0 : ib_H} {G : jg_G} {Q : ib_O → Prop} {p : Int} (rp : jb_r p) (h : ∀ σ, jg_S σ0 G σ → jb_r (fr_fo G p) → Q (.inl (some (jb_v (fr_fo G p))), σ)) : jg_W σ0 G d 160 0 [some (.ref 92), some (jb_v p), none, none] [] Q := by
  have hr := fr_fo_r G p
  have fin : ∀ f, f = fr_fo G p → jg_W σ0 G d 160 4 [some (.ref 92), some (jb_v p), some (jb_v f), some (jb_v 4)] [] Q := by
    intro f he
    refine jt160_4 rp ⟨by omega, by omega⟩ ⟨by decide, by decide⟩ ⟨fun _ σ s => ?_, fun z => absurd (by decide) z⟩
    subst he
    exact h σ s ⟨by omega, by omega⟩
  have st : ∀ (k f : Int), 0 ≤ k → k < 4 → jb_r f → (jg_W σ0 G d 160 4 [some (.ref 92), some (jb_v p), some (jb_v (if G 95 k = p then k else f)), some (jb_v (k + 1))] [] Q) → jg_W σ0 G d 160 4 [some (.ref 92), some (jb_v p), some (jb_v f), some (jb_v k)] [] Q := by
    intro k f h0 h1 rf hh
    refine jt160_4 rp rf ⟨by omega, by omega⟩ ⟨fun z => by omega, fun _ => ⟨⟨by omega, by omega⟩, fun c => ?_, fun c => ?_⟩⟩
    · rw [if_neg c] at hh
      exact hh
    · rw [if_pos (Decidable.byContradiction c)] at hh
      exact hh
  have ri : ∀ (P : Prop) [Decidable P] (x y : Int), jb_r x → jb_r y → jb_r (if P then x else y) := by
    intro P _ x y hx hy
    split
    · exact hx
    · exact hy
  refine jt160_0 rp ?_
  refine st 0 (-1) (by decide) (by decide) ⟨by decide, by decide⟩ ?_
  refine st 1 _ (by decide) (by decide) (ri _ _ _ ⟨by decide, by decide⟩ ⟨by decide, by decide⟩) ?_
  refine st 2 _ (by decide) (by decide) (ri _ _ _ ⟨by decide, by decide⟩ (ri _ _ _ ⟨by decide, by decide⟩ ⟨by decide, by decide⟩)) ?_
  refine st 3 _ (by decide) (by decide) (ri _ _ _ ⟨by decide, by decide⟩ (ri _ _ _ ⟨by decide, by decide⟩ (ri _ _ _ ⟨by decide, by decide⟩ ⟨by decide, by decide⟩))) ?_
  exact fin _ rfl
def fr_cl (G : jg_G) (t : Int) : jg_G := fun n j => if (n = 107 ∨ n = 108 ∨ n = 109) ∧ j = t then 0 else if n = 110 ∧ (j = t ∨ (0 ≤ j ∧ j < 4 ∧ G 110 j = t)) then -1 else if n = 111 ∧ 0 ≤ j ∧ j < 32 ∧ G 111 j = t then -1 else G n j
theorem cs185 {d : Nat} {σ0 : ib_H} {G : jg_G} {Q : ib_O → Prop} {t : Int} (ht : 0 ≤ t ∧ t < 4) (h : jg_E σ0 (fr_cl G t) none Q) : jg_W σ0 G d 185 0 [some (.ref 92), some (jb_v t), none] [] Q := by
  have rt : jb_r t := ⟨by omega, by omega⟩
  have k2 : ∀ (m : Nat) (i : Int), i = 4 - m → 0 ≤ i → jg_W σ0 (fun n j => if (n = 107 ∨ n = 108 ∨ n = 109) ∧ j = t then 0 else if n = 110 ∧ (j = t ∨ (0 ≤ j ∧ j < i ∧ G 110 j = t)) then -1 else if n = 111 ∧ 0 ≤ j ∧ j < 32 ∧ G 111 j = t then -1 else G n j) d 185 70 [some (.ref 92), some (jb_v t), some (jb_v i)] [] Q := by
    intro m
    induction m with
    | zero =>
      intro i hi h0
      have hi : i = 4 := by omega
      subst hi
      exact jt185_70 rt ⟨by decide, by decide⟩ ⟨fun _ => h, fun z => absurd (by decide) z⟩
    | succ m ih =>
      intro i hi h0
      have e := ih (i + 1) (by omega) (by omega)
      refine jt185_70 rt ⟨by omega, by omega⟩ ⟨fun z => by omega, fun _ => ⟨⟨by omega, by omega⟩, fun c => ?_, fun c => ?_⟩⟩
      all_goals
        refine cast (congrArg (fun g => jg_W σ0 g d 185 70 [some (.ref 92), some (jb_v t), some (jb_v (i + 1))] [] Q) ?_) e
        funext n j
        by_cases hn : n = 110
        · subst hn
          simp only [jg_u, true_and, show ¬ (110 = 107 ∨ 110 = 108 ∨ 110 = 109) by decide, false_and, if_false, show ¬ (110 = 111) by decide] at c ⊢
          by_cases hj : j = i
          · subst hj
            repeat' split
            all_goals first | rfl | (exfalso; omega) | omega
          · repeat' split
            all_goals first | rfl | (exfalso; omega)
        · simp only [jg_u, hn, false_and, if_false]
  have k1 : ∀ (m : Nat) (i : Int), i = 32 - m → 0 ≤ i → jg_W σ0 (fun n j => if (n = 107 ∨ n = 108 ∨ n = 109) ∧ j = t then 0 else if n = 110 ∧ j = t then -1 else if n = 111 ∧ 0 ≤ j ∧ j < i ∧ G 111 j = t then -1 else G n j) d 185 30 [some (.ref 92), some (jb_v t), some (jb_v i)] [] Q := by
    intro m
    induction m with
    | zero =>
      intro i hi h0
      have hi : i = 32 := by omega
      subst hi
      refine jt185_30 rt ⟨by decide, by decide⟩ ⟨fun _ => ?_, fun z => absurd (by decide) z⟩
      refine cast (congrArg (fun g => jg_W σ0 g d 185 70 [some (.ref 92), some (jb_v t), some (jb_v 0)] [] Q) ?_) (k2 4 0 (by decide) (by decide))
      funext n j
      by_cases hn : n = 110
      · subst hn
        simp only [true_and, show ¬ (110 = 107 ∨ 110 = 108 ∨ 110 = 109) by decide, false_and, if_false, show ¬ (110 = 111) by decide]
        repeat' split
        all_goals first | rfl | (exfalso; omega)
      · simp only [hn, false_and, if_false]
    | succ m ih =>
      intro i hi h0
      have e := ih (i + 1) (by omega) (by omega)
      refine jt185_30 rt ⟨by omega, by omega⟩ ⟨fun z => by omega, fun _ => ⟨⟨by omega, by omega⟩, fun c => ?_, fun c => ?_⟩⟩
      all_goals
        refine cast (congrArg (fun g => jg_W σ0 g d 185 30 [some (.ref 92), some (jb_v t), some (jb_v (i + 1))] [] Q) ?_) e
        funext n j
        by_cases hn : n = 111
        · subst hn
          simp only [jg_u, true_and, show ¬ (111 = 107 ∨ 111 = 108 ∨ 111 = 109) by decide, false_and, if_false, show ¬ (111 = 110) by decide] at c ⊢
          by_cases hj : j = i
          · subst hj
            repeat' split
            all_goals first | rfl | (exfalso; omega) | omega
          · repeat' split
            all_goals first | rfl | (exfalso; omega)
        · simp only [jg_u, hn, false_and, if_false]
  refine jt185_0 rt ⟨⟨by omega, by omega⟩, ?_⟩
  refine cast (congrArg (fun g => jg_W σ0 g d 185 30 [some (.ref 92), some (jb_v t), some (jb_v 0)] [] Q) ?_) (k1 32 0 (by decide) (by decide))
  funext n j
  simp only [jg_u]
  repeat' split
  all_goals first | rfl | (exfalso; omega)
/-- the last place of a child; f if there is none -/
def fr_cps (G : jg_G) (a p : Int) : Nat → Int → Int → Int
  | 0, f, _ => f
  | m + 1, f, k => if G 93 (67 * a + 2) ≤ k then f else fr_cps G a p m (if G 93 (67 * a + 4 + 2 * k) = p then k else f) (k + 1)
def fr_cp (G : jg_G) (a p : Int) : Int := fr_cps G a p 33 0 0
theorem fr_cps_sp (G : jg_G) (a p : Int) : ∀ (m : Nat) (f k : Int), 0 ≤ k → G 93 (67 * a + 2) ≤ k + m → (fr_cps G a p m f k = f ∧ (∀ i, k ≤ i → i < G 93 (67 * a + 2) → G 93 (67 * a + 4 + 2 * i) ≠ p)) ∨ (k ≤ fr_cps G a p m f k ∧ fr_cps G a p m f k < G 93 (67 * a + 2) ∧ G 93 (67 * a + 4 + 2 * fr_cps G a p m f k) = p) := by
  intro m
  induction m with
  | zero =>
    intro f k h0 h1
    unfold fr_cps
    exact Or.inl ⟨rfl, fun i _ _ => by omega⟩
  | succ m ih =>
    intro f k h0 h1
    unfold fr_cps
    split
    · exact Or.inl ⟨rfl, fun i _ _ => by omega⟩
    · rename_i c
      rcases ih (if G 93 (67 * a + 4 + 2 * k) = p then k else f) (k + 1) (by omega) (by omega) with ⟨e1, e2⟩ | ⟨e1, e2, e3⟩
      · by_cases hp : G 93 (67 * a + 4 + 2 * k) = p
        · rw [if_pos hp] at e1 ⊢
          rw [e1]
          exact Or.inr ⟨by omega, by omega, hp⟩
        · rw [if_neg hp] at e1 ⊢
          rw [e1]
          refine Or.inl ⟨rfl, fun i hi hi2 => ?_⟩
          by_cases hik : i = k
          · subst hik; exact hp
          · exact e2 i (by omega) hi2
      · exact Or.inr ⟨by omega, e2, e3⟩
theorem cs179 {d : Nat} {σ0 : ib_H} {G : jg_G} {Q : ib_O → Prop} {a p : Int} (ha : 0 ≤ a ∧ a < 4554) (hk : 0 ≤ G 93 (67 * a + 2) ∧ G 93 (67 * a + 2) ≤ 32) (rp : jb_r p) (h : ∀ σ, jg_S σ0 G σ → jb_r (fr_cp G a p) → Q (.inl (some (jb_v (fr_cp G a p))), σ)) : jg_W σ0 G (d + 1) 179 0 [some (.ref 92), some (jb_v a), some (jb_v p), none, none] [] Q := by
  have ra : jb_r a := ⟨by omega, by omega⟩
  have key : ∀ (m : Nat) (f k : Int), 0 ≤ f → f ≤ 32 → 0 ≤ k → k ≤ G 93 (67 * a + 2) → G 93 (67 * a + 2) < k + m → fr_cps G a p m f k = fr_cp G a p → jg_W σ0 G (d + 1) 179 5 [some (.ref 92), some (jb_v a), some (jb_v p), some (jb_v f), some (jb_v k)] [] Q := by
    intro m
    induction m with
    | zero =>
      intro f k f0 f1 h0 h1 h2 he
      omega
    | succ m ih =>
      intro f k f0 f1 h0 h1 h2 he
      unfold fr_cps at he
      refine jt179_5 ra rp ⟨by omega, by omega⟩ ⟨by omega, by omega⟩ ⟨⟨by omega, by omega⟩, fun c1 => ?_, fun c1 => ⟨⟨by omega, by omega⟩, fun c2 => ?_, fun c2 => ?_⟩⟩
      · rw [if_pos c1] at he
        subst he
        exact fun σ s => h σ s ⟨by omega, by omega⟩
      · rw [if_neg c1, if_neg c2] at he
        exact ih f (k + 1) f0 f1 (by omega) (by omega) (by omega) he
      · rw [if_neg c1, if_pos (Decidable.byContradiction c2)] at he
        exact ih k (k + 1) h0 (by omega) (by omega) (by omega) (by omega) he
  refine jt179_0 ra rp ?_
  exact key 33 0 0 (by decide) (by decide) (by decide) (by omega) (by omega) rfl
/-- the row of a page in a record's images -/
def fr_ri (G : jg_G) (r p : Int) : Int := if 2 < G 105 r ∧ G 106 (3 * r + 2) = p then 54 + 3 * (r - 1) + 2 else if 1 < G 105 r ∧ G 106 (3 * r + 1) = p then 54 + 3 * (r - 1) + 1 else 54 + 3 * (r - 1) + 0
theorem cs172 {d : Nat} {σ0 : ib_H} {G : jg_G} {Q : ib_O → Prop} {r p : Int} (hr : 1 ≤ r ∧ r < 1501) (hm : 0 ≤ G 105 r ∧ G 105 r ≤ 3) (rp : jb_r p) (h : ∀ σ, jg_S σ0 G σ → jb_r (fr_ri G r p) → Q (.inl (some (jb_v (fr_ri G r p))), σ)) : jg_W σ0 G (d + 1) 172 0 [some (.ref 92), some (jb_v r), some (jb_v p), none, none] [] Q := by
  have rr : jb_r r := ⟨by omega, by omega⟩
  have hv : jb_r (fr_ri G r p) := by
    unfold fr_ri
    repeat' split
    all_goals exact ⟨by omega, by omega⟩
  have st : ∀ (f k : Int), 0 ≤ k → k ≤ 3 → jb_r f → (k < G 105 r → jg_W σ0 G (d + 1) 172 9 [some (.ref 92), some (jb_v r), some (jb_v p), some (jb_v (if G 106 (3 * r + k) = p then 54 + 3 * (r - 1) + k else f)), some (jb_v (k + 1))] [] Q) → (G 105 r ≤ k → f = fr_ri G r p) → jg_W σ0 G (d + 1) 172 9 [some (.ref 92), some (jb_v r), some (jb_v p), some (jb_v f), some (jb_v k)] [] Q := by
    intro f k h0 h1 rf h2 h3
    refine jt172_9 rr rp rf ⟨by omega, by omega⟩ ⟨⟨by omega, by omega⟩, fun c => ?_, fun c => ⟨⟨by omega, by omega⟩, fun c2 => ?_, fun c2 => ?_⟩⟩
    · rw [h3 c]
      exact fun σ s => h σ s hv
    · have := h2 (by omega)
      rw [if_neg c2] at this
      exact this
    · have := h2 (by omega)
      rw [if_pos (Decidable.byContradiction c2)] at this
      exact this
  have ri : ∀ (P : Prop) [Decidable P] (x y : Int), jb_r x → jb_r y → jb_r (if P then x else y) := by
    intro P _ x y hx hy
    split
    · exact hx
    · exact hy
  have r3 : ∀ k, 0 ≤ k → k ≤ 3 → jb_r (54 + 3 * (r - 1) + k) := fun k h0 h1 => ⟨by omega, by omega⟩
  refine jt172_0 rr rp ?_
  refine st _ 0 (by decide) (by decide) (r3 0 (by decide) (by decide)) (fun c0 => ?_) (fun c0 => ?_)
  · refine st _ 1 (by decide) (by decide) (ri _ _ _ (r3 _ (by decide) (by decide)) (r3 _ (by decide) (by decide))) (fun c1 => ?_) (fun c1 => ?_)
    · refine st _ 2 (by decide) (by decide) (ri _ _ _ (r3 _ (by decide) (by decide)) (ri _ _ _ (r3 _ (by decide) (by decide)) (r3 _ (by decide) (by decide)))) (fun c2 => ?_) (fun c2 => ?_)
      · refine st _ 3 (by decide) (by decide) (ri _ _ _ (r3 _ (by decide) (by decide)) (ri _ _ _ (r3 _ (by decide) (by decide)) (ri _ _ _ (r3 _ (by decide) (by decide)) (r3 _ (by decide) (by decide))))) (fun c3 => ?_) (fun c3 => ?_)
        · omega
        · unfold fr_ri
          simp only [show (2 < G 105 r) from c2, show (1 < G 105 r) from c1, true_and, show (1 : Int) + 1 = 2 by decide]
          repeat' split
          all_goals first | rfl | omega
      · unfold fr_ri
        simp only [show ¬ (2 < G 105 r) by omega, show (1 < G 105 r) from c1, true_and, false_and, if_false, show (0 : Int) + 1 = 1 by decide]
        repeat' split
        all_goals first | rfl | omega
    · unfold fr_ri
      simp only [show ¬ (2 < G 105 r) by omega, show ¬ (1 < G 105 r) by omega, false_and, if_false]
      repeat' split
      all_goals first | rfl | omega
  · unfold fr_ri
    simp only [show ¬ (2 < G 105 r) by omega, show ¬ (1 < G 105 r) by omega, false_and, if_false]
/-- a new record -/
def fr_nr (G : jg_G) (w t : Int) : jg_G := jg_u (jg_u (jg_u (jg_u (jg_u (jg_u (jg_u G 92 12 (G 92 12 + 1)) 98 (G 92 12 + 1) w) 99 (G 92 12 + 1) t) 100 (G 92 12 + 1) (if t = -1 then 0 else G 108 t)) 101 (G 92 12 + 1) (-1)) 104 (G 92 12 + 1) (-1)) 105 (G 92 12 + 1) 0
def fr_no (G : jg_G) (w t : Int) : jg_G := if t = -1 then fr_nr G w t else jg_u (jg_u (fr_nr G w t) 108 t (G 92 12 + 1)) 109 t (jb_m (G 109 t + 1))
theorem cs169 {d : Nat} {σ0 : ib_H} {G : jg_G} {Q : ib_O → Prop} {w t : Int} (hr : 0 ≤ G 92 12 ∧ G 92 12 < 1500) (ht : -1 ≤ t ∧ t < 4) (rw0 : jb_r w) (h : ∀ σ, jg_S σ0 (fr_no G w t) σ → jb_r (G 92 12 + 1) → Q (.inl (some (jb_v (G 92 12 + 1))), σ)) : jg_W σ0 G d 169 0 [some (.ref 92), some (jb_v w), some (jb_v t), none] [] Q := by
  have rr : jb_r (G 92 12 + 1) := ⟨by omega, by omega⟩
  refine jt169_0 rw0 ⟨by omega, by omega⟩ ⟨rr, ⟨by omega, by omega⟩, fun c => ⟨⟨by omega, by omega⟩, fun σ s => h σ ?_ rr⟩, fun c σ s => h σ ?_ rr⟩
  · unfold fr_no fr_nr
    rw [if_neg c, if_neg c]
    exact s
  · have c := Decidable.byContradiction c
    unfold fr_no fr_nr
    rw [if_pos c, if_pos c]
    exact s
