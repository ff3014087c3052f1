/-! RINGS and victims -/
def jWo (G : jg_G) : Prop := (∀ k, 0 ≤ k → k < 32 → 0 ≤ G 111 k → G 107 (G 111 k) = 1) ∧ ∀ s, 0 ≤ s → s < 4 → 0 ≤ G 110 s → G 107 s = 1 ∧ G 107 (G 110 s) = 1
def jWt (G : jg_G) : Prop := jWo G ∧ ∃ ρ : Int → Int, ∀ s, 0 ≤ s → s < 4 → 0 ≤ G 110 s → ρ (G 110 s) < ρ s
def jwk (G : jg_G) : Nat → Int → Int
  | 0, s => s
  | n + 1, s => if 0 ≤ s ∧ s < 4 then jwk G n (G 110 s) else -1
def jRe (G : jg_G) (t s : Int) : Prop := ∃ n : Nat, jwk G n s = t
theorem jRe_n {G : jg_G} {t : Int} (ht : 0 ≤ t) : ¬ jRe G t (-1) := by
  rintro ⟨n, h⟩
  cases n with
  | zero =>
    have : (-1 : Int) = t := h
    omega
  | succ n =>
    have : (if 0 ≤ (-1 : Int) ∧ (-1 : Int) < 4 then jwk G n (G 110 (-1)) else -1) = t := h
    rw [if_neg (by decide)] at this
    omega
theorem jRe_s {G : jg_G} {t s : Int} (hs : 0 ≤ s ∧ s < 4) (hne : s ≠ t) : jRe G t s ↔ jRe G t (G 110 s) := by
  constructor
  · rintro ⟨n, h⟩
    cases n with
    | zero => exact absurd h hne
    | succ n =>
      refine ⟨n, ?_⟩
      have : (if 0 ≤ s ∧ s < 4 then jwk G n (G 110 s) else -1) = t := h
      rw [if_pos hs] at this
      exact this
  · rintro ⟨n, h⟩
    refine ⟨n + 1, ?_⟩
    show (if 0 ≤ s ∧ s < 4 then jwk G n (G 110 s) else -1) = t
    rw [if_pos hs]
    exact h
theorem jp_dist {G : jg_G} {t : Int} {ρ : Int → Int} (hρ : ∀ s, 0 ≤ s → s < 4 → s ≠ t → 0 ≤ G 110 s → ρ (G 110 s) < ρ s) {P : Nat → Int} {i : Nat} (hP : ∀ j, j ≤ i + 1 → 0 ≤ P j ∧ P j < 4) (hn : ∀ j, j ≤ i → P (j + 1) = G 110 (P j)) (h0 : P 0 = t) (ht : ∀ j, 1 ≤ j → j ≤ i + 1 → P j ≠ t) : i + 2 ≤ 4 := by
  have mono : ∀ (d j : Nat), 1 ≤ j → j + d + 1 ≤ i + 1 → ρ (P (j + d + 1)) < ρ (P j) := by
    intro d
    induction d with
    | zero =>
      intro j h1 h2
      rw [show j + 0 + 1 = j + 1 by omega, hn j (by omega)]
      have := hP (j + 1) (by omega)
      rw [hn j (by omega)] at this
      exact hρ (P j) (hP j (by omega)).1 (hP j (by omega)).2 (ht j h1 (by omega)) this.1
    | succ d ih =>
      intro j h1 h2
      have a := ih j h1 (by omega)
      have b : ρ (P (j + d + 1 + 1)) < ρ (P (j + d + 1)) := by
        have := hP (j + d + 1 + 1) (by omega)
        rw [hn (j + d + 1) (by omega)] at this ⊢
        exact hρ _ (hP _ (by omega)).1 (hP _ (by omega)).2 (ht _ (by omega) (by omega)) this.1
      rw [show j + (d + 1) + 1 = j + d + 1 + 1 by omega]
      omega
  refine jT_pig 4 (i + 2) (fun j => (P j).toNat) (fun j hj => by have := hP j (by omega); show (P j).toNat < 4; omega) (fun a b ha hb e => ?_)
  have ea := hP a (by omega)
  have eb := hP b (by omega)
  have e' : P a = P b := by
    have : (P a).toNat = (P b).toNat := e
    omega
  rcases Nat.lt_trichotomy a b with c | c | c
  · exfalso
    by_cases a0 : a = 0
    · rw [a0, h0] at e'
      exact ht b (by omega) (by omega) e'.symm
    · have := mono (b - a - 1) a (by omega) (by omega)
      rw [show a + (b - a - 1) + 1 = b by omega, e'] at this
      omega
  · exact c
  · exfalso
    by_cases b0 : b = 0
    · rw [b0, h0] at e'
      exact ht a (by omega) (by omega) e'
    · have := mono (a - b - 1) b (by omega) (by omega)
      rw [show b + (a - b - 1) + 1 = a by omega, e'] at this
      omega
section Vi
variable {K : jc_K} {G : jg_G} {t : Int}
theorem jvict_l (ht : 0 ≤ t ∧ t < 4) (h60 : ∀ s, 0 ≤ s → s < 4 → G 107 s = 1 → jc_i K 60 s = G 109 s) (h61 : ∀ s, 0 ≤ s → s < 4 → jc_i K 61 s = G 110 s ∧ -1 ≤ G 110 s ∧ G 110 s < 4) (ho : ∀ s, 0 ≤ s → s < 4 → 0 ≤ G 110 s → G 107 s = 1 ∧ G 107 (G 110 s) = 1) {ρ : Int → Int} (hρ : ∀ s, 0 ≤ s → s < 4 → s ≠ t → 0 ≤ G 110 s → ρ (G 110 s) < ρ s) (P : Nat → Int) (h0 : P 0 = t) (hn : ∀ j, P (j + 1) = G 110 (P j)) : ∀ (m m' i : Nat) (its : Int), i ≤ 3 → 4 < i + m → 4 < i + m' → (∀ j, j ≤ i → 0 ≤ P j ∧ P j < 4) → (∀ j, 1 ≤ j → j ≤ i → P j ≠ t) → (0 ≤ its ∧ its < 4) → G 107 its = 1 → (0 ≤ P (i + 1) → 0 ≤ G 110 its) → ∃ v, fc66_12 m K t its (P (i + 1)) i = some (K, v) ∧ fo189_9 m' G t its (P (i + 1)) = some (G, v) ∧ (v = -1 → ¬ jRe G t (P (i + 1))) ∧ (v ≠ -1 → (0 ≤ v ∧ v < 4) ∧ 0 ≤ G 110 v) := by
  intro m
  induction m with
  | zero => intro m' i its h1 h2; omega
  | succ m ih =>
    intro m' i its h1 h2 h3 hP hne hi o1 hw
    cases m' with
    | zero => omega
    | succ m' =>
      have kb : -1 ≤ P (i + 1) ∧ P (i + 1) < 4 := by
        rw [hn]
        have := hP i (Nat.le_refl _)
        exact (h61 (P i) this.1 this.2).2
      unfold fc66_12 fo189_9
      rw [if_neg (by omega)]
      by_cases e1 : P (i + 1) = -1
      · rw [e1, if_neg (show ¬ (-1 : Int) = t by omega), if_pos (show (-1 : Int) < 0 by decide), if_pos rfl, if_neg (show ¬ (-1 : Int) = t by omega)]
        exact ⟨-1, rfl, rfl, fun _ => jRe_n ht.1, fun z => absurd rfl z⟩
      · by_cases e2 : P (i + 1) = t
        · rw [if_pos e2, if_neg e1, if_pos e2]
          exact ⟨its, rfl, rfl, fun z => by omega, fun _ => ⟨hi, hw (by omega)⟩⟩
        · have kk : 0 ≤ P (i + 1) ∧ P (i + 1) < 4 := by omega
          have len := jp_dist (i := i) hρ (fun j hj => by
            by_cases z : j = i + 1
            · rw [z]; exact kk
            · exact hP j (by omega)) (fun j _ => hn j) h0 (fun j j1 j2 => by
            by_cases z : j = i + 1
            · rw [z]; exact e2
            · exact hne j j1 (by omega))
          have pi := hP i (Nat.le_refl _)
          have ok : G 107 (P (i + 1)) = 1 := by
            rw [hn]
            exact (ho (P i) pi.1 pi.2 (by rw [← hn]; exact kk.1)).2
          have nxt : ∀ it : Int, (0 ≤ it ∧ it < 4) → G 107 it = 1 → (0 ≤ P (i + 1 + 1) → 0 ≤ G 110 it) → ∃ v, fc66_12 m K t it (jc_i K 61 (P (i + 1))) ((i : Int) + 1) = some (K, v) ∧ fo189_9 m' G t it (G 110 (P (i + 1))) = some (G, v) ∧ (v = -1 → ¬ jRe G t (P (i + 1))) ∧ (v ≠ -1 → (0 ≤ v ∧ v < 4) ∧ 0 ≤ G 110 v) := fun it h1 h2 h3 => by
            rw [(h61 _ kk.1 kk.2).1, ← hn (i + 1)]
            obtain ⟨v, v1, v2, v3, v4⟩ := ih m' (i + 1) it (by omega) (by omega) (by omega) (fun j hj => by
              by_cases z : j = i + 1
              · rw [z]; exact kk
              · exact hP j (by omega)) (fun j j1 j2 => by
              by_cases z : j = i + 1
              · rw [z]; exact e2
              · exact hne j j1 (by omega)) h1 h2 h3
            refine ⟨v, by rw [show (i : Int) + 1 = ((i + 1 : Nat) : Int) by omega]; exact v1, v2, fun z => ?_, v4⟩
            rw [jRe_s kk e2, ← hn (i + 1)]
            exact v3 z
          have own : 0 ≤ P (i + 1 + 1) → 0 ≤ G 110 (P (i + 1)) := fun z => by rw [← hn (i + 1)]; exact z
          have old : 0 ≤ P (i + 1 + 1) → 0 ≤ G 110 its := fun _ => hw kk.1
          rw [if_neg e2, if_neg (show ¬ P (i + 1) < 0 by omega), if_pos kk.2, if_pos kk, if_pos hi, if_neg e1, if_neg e2, if_pos kk, if_pos hi, h60 _ kk.1 kk.2 ok, h60 _ hi.1 hi.2 o1]
          by_cases c1 : G 109 (P (i + 1)) < G 109 its
          · rw [if_pos c1, if_pos (by omega), if_pos c1]
            exact nxt _ kk ok own
          · rw [if_neg c1, if_neg c1]
            by_cases c2 : G 109 (P (i + 1)) = G 109 its
            · rw [if_pos c2, if_pos c2]
              by_cases c3 : P (i + 1) ≤ its
              · rw [if_pos c3, if_pos (by omega), if_pos c3]
                exact nxt _ hi o1 old
              · rw [if_neg c3, if_pos (by omega), if_neg c3]
                exact nxt _ kk ok own
            · rw [if_neg c2, if_pos (by omega), if_neg c2]
              exact nxt _ hi o1 old
def jwp (G : jg_G) (t : Int) : Nat → Int
  | 0 => t
  | n + 1 => G 110 (jwp G t n)
theorem jvict (ht : 0 ≤ t ∧ t < 4) (h60 : ∀ s, 0 ≤ s → s < 4 → G 107 s = 1 → jc_i K 60 s = G 109 s) (h61 : ∀ s, 0 ≤ s → s < 4 → jc_i K 61 s = G 110 s ∧ -1 ≤ G 110 s ∧ G 110 s < 4) (ho : ∀ s, 0 ≤ s → s < 4 → 0 ≤ G 110 s → G 107 s = 1 ∧ G 107 (G 110 s) = 1) {ρ : Int → Int} (hρ : ∀ s, 0 ≤ s → s < 4 → s ≠ t → 0 ≤ G 110 s → ρ (G 110 s) < ρ s) (h0 : 0 ≤ G 110 t) : ∃ v, fc66 K t = some (K, v) ∧ fo189 G t = some (G, v) ∧ (v = -1 → ¬ jRe G t (G 110 t)) ∧ (v ≠ -1 → (0 ≤ v ∧ v < 4) ∧ 0 ≤ G 110 v) ∧ fo189_9 5 G t t (G 110 t) = some (G, v) := by
  have five := jvict_l ht h60 h61 ho hρ (jwp G t) rfl (fun _ => rfl) jo_N 5 0 t (by decide) (by unfold jo_N; omega) (by omega) (fun j hj => by rw [show j = 0 by omega]; exact ht) (fun j j1 j2 => by omega) ht (ho t ht.1 ht.2 h0).1 (fun _ => h0)
  unfold fc66 fo189
  rw [if_pos ht, if_pos ht, (h61 t ht.1 ht.2).1]
  obtain ⟨v, a1, a2, a3, a4⟩ := jvict_l ht h60 h61 ho hρ (jwp G t) rfl (fun _ => rfl) jo_N jo_N 0 t (by decide) (by unfold jo_N; omega) (by unfold jo_N; omega) (fun j hj => by rw [show j = 0 by omega]; exact ht) (fun j j1 j2 => by omega) ht (ho t ht.1 ht.2 h0).1 (fun _ => h0)
  obtain ⟨v', b1, b2, _, _⟩ := five
  have e : v' = v := by
    have := b1.symm.trans a1
    injection this with this
    injection this
  exact ⟨v, a1, a2, a3, a4, by rw [← e]; exact b2⟩
/-- one more waits, on no ring -/
theorem jwait (ht : 0 ≤ t ∧ t < 4) {ρ : Int → Int} (hb : ∀ s, 0 ≤ s → s < 4 → -1 ≤ G 110 s ∧ G 110 s < 4) (hρ : ∀ s, 0 ≤ s → s < 4 → s ≠ t → 0 ≤ G 110 s → ρ (G 110 s) < ρ s) (hr : ¬ jRe G t (G 110 t)) : ∃ ρ' : Int → Int, ∀ s, 0 ≤ s → s < 4 → 0 ≤ G 110 s → ρ' (G 110 s) < ρ' s := by
  obtain ⟨ρ', h⟩ := jcase (jRe G t) (fun s => ρ s + (if ρ t ≤ ρ (G 110 t) then ρ (G 110 t) - ρ t + 1 else 0)) ρ
  refine ⟨ρ', fun s s0 s1 sw => ?_⟩
  by_cases e : s = t
  · subst e
    rw [(h (G 110 s)).2 hr, (h s).1 ⟨0, rfl⟩]
    split <;> omega
  · have d := hρ s s0 s1 e sw
    rcases Classical.em (jRe G t s) with c | c
    · rw [(h s).1 c, (h (G 110 s)).1 ((jRe_s ⟨s0, s1⟩ e).1 c)]
      omega
    · rw [(h s).2 c, (h (G 110 s)).2 (fun z => c ((jRe_s ⟨s0, s1⟩ e).2 z))]
      exact d
end Vi
theorem jWo.cl {G G' : jg_G} {v : Int} (h : jWo G) (c : jcl G G' v) (hb : ∀ k, 0 ≤ k → k < 32 → G 111 k < 4) (hb2 : ∀ s, 0 ≤ s → s < 4 → G 110 s < 4) : jWo G' := by
  refine ⟨fun k k0 k1 h0 => ?_, fun s s0 s1 h0 => ?_⟩
  · have e := c.2.2 k k0 k1
    have b := hb k k0 k1
    by_cases z : G 111 k = v
    · rw [if_pos z] at e; omega
    · rw [if_neg z] at e
      rw [e] at h0 ⊢
      rw [c.1 _ h0 b, if_neg z]
      exact h.1 k k0 k1 h0
  · have e := c.2.1 s s0 s1
    have b := hb2 s s0 s1
    by_cases z : s = v ∨ G 110 s = v
    · rw [if_pos z] at e; omega
    · rw [if_neg z] at e
      rw [e] at h0 ⊢
      have x := h.2 s s0 s1 h0
      rw [c.1 s s0 s1, if_neg (fun y => z (Or.inl y)), c.1 _ h0 b, if_neg (fun y => z (Or.inr y))]
      exact x
theorem jrho.cl {G G' : jg_G} {v t : Int} {ρ : Int → Int} (c : jcl G G' v) (h : ∀ s, 0 ≤ s → s < 4 → s ≠ t → 0 ≤ G 110 s → ρ (G 110 s) < ρ s) : ∀ s, 0 ≤ s → s < 4 → s ≠ t → 0 ≤ G' 110 s → ρ (G' 110 s) < ρ s := fun s s0 s1 st h0 => by
  have e := c.2.1 s s0 s1
  by_cases z : s = v ∨ G 110 s = v
  · rw [if_pos z] at e; omega
  · rw [if_neg z] at e
    rw [e] at h0 ⊢
    exact h s s0 s1 st h0
