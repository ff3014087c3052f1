/-! RECOVER: the log is read, class and reference -/
/-- what reading changes in the reference: 108, 114, 113 at 0 -/
def jx_r (G X : jg_G) : Prop := (∀ n, n ≠ 108 → n ≠ 113 → n ≠ 114 → ∀ j, X n j = G n j) ∧ ∀ i, i ≠ 0 → X 113 i = G 113 i
theorem jx_r.refl (G : jg_G) : jx_r G G := ⟨fun _ _ _ _ _ => rfl, fun _ _ => rfl⟩
theorem jx_r.u {G X : jg_G} (h : jx_r G X) {n : Nat} {i v : Int} (hn : n = 108 ∨ n = 114 ∨ (n = 113 ∧ i = 0)) : jx_r G (jg_u X n i v) := ⟨fun m a b c j => by rw [jg_uN (by omega)]; exact h.1 m a b c j, fun j hj => by
  by_cases e : n = 113
  · subst e
    rw [jg_uI (by omega)]; exact h.2 j hj
  · rw [jg_uN (fun z => e z.symm)]; exact h.2 j hj⟩
section
variable {G : jg_G} {N s : Nat} {f0 : Int → Int}
/-- the pages of a record, the reference -/
theorem jr_213 {n : Nat} (hv : jl_v G (n + 1)) (hn : n + 1 < 1501) (l1 l2 : Int) : ∀ (d m : Nat) (k : Int) (X : jg_G), jx_r G X → 0 ≤ k → k + d = G 105 ((n : Int) + 1) → ∃ X', fo205_s (m + (d + 1)) 213 X l1 l2 ((n : Int) + 1) k = fo205_s m 146 X' l1 l2 ((n : Int) + 1 + 1) 0 ∧ jx_r G X' ∧ (∀ j, X' 108 j = X 108 j) ∧ (∀ j, X' 113 j = X 113 j) ∧ ∀ p, 0 ≤ p → p < 24 → X' 114 p = if X 114 p = 0 ∧ k ≤ jh_k G ((n : Int) + 1) p then (n : Int) + 1 else X 114 p := by
  have ec : ((n + 1 : Nat) : Int) = (n : Int) + 1 := by omega
  have v3 := hv.2.1
  have vk := hv.2.2.1
  rw [ec] at v3 vk
  intro d
  induction d with
  | zero =>
    intro m k X hX h0 e
    refine ⟨X, ?_, hX, fun _ => rfl, fun _ => rfl, fun p p0 p1 => ?_⟩
    · show fo205_s (m + 1) 213 X l1 l2 ((n : Int) + 1) k = _
      conv => lhs; unfold fo205_s
      rw [if_neg (by decide), if_pos rfl, if_pos (by omega), hX.1 105 (by decide) (by decide) (by decide), if_pos (by omega), if_pos (by omega)]
    · have hb := (jh_k_b G ((n : Int) + 1) p).2.2
      rw [if_neg (fun z => by have := hb (by omega); omega)]
  | succ d ih =>
    intro m k X hX h0 e
    obtain ⟨cp, ck⟩ := vk k h0 (by omega)
    have key : ∀ p, p ≠ G 106 (3 * ((n : Int) + 1) + k) → (k ≤ jh_k G ((n : Int) + 1) p ↔ k + 1 ≤ jh_k G ((n : Int) + 1) p) := fun p hn => by
      refine ⟨fun z => ?_, fun z => by omega⟩
      by_cases y : jh_k G ((n : Int) + 1) p = k
      · have := ((jh_k_b G ((n : Int) + 1) p).2.2 (by omega)).2
        rw [y] at this
        exact absurd this.symm hn
      · omega
    have e106 : X 106 (3 * ((n : Int) + 1) + k) = G 106 (3 * ((n : Int) + 1) + k) := hX.1 106 (by decide) (by decide) (by decide) _
    generalize hp : G 106 (3 * ((n : Int) + 1) + k) = pk at cp ck key e106
    have step : ∃ X1, fo205_s (m + (d + 1 + 1)) 213 X l1 l2 ((n : Int) + 1) k = fo205_s (m + (d + 1)) 213 X1 l1 l2 ((n : Int) + 1) (k + 1) ∧ jx_r G X1 ∧ (∀ j, X1 108 j = X 108 j) ∧ (∀ j, X1 113 j = X 113 j) ∧ (∀ p, p ≠ pk → X1 114 p = X 114 p) ∧ X1 114 pk = if X 114 pk = 0 then (n : Int) + 1 else X 114 pk := by
      by_cases z : X 114 pk = 0
      · refine ⟨jg_u X 114 pk ((n : Int) + 1), ?_, hX.u (Or.inr (Or.inl rfl)), fun j => jg_uN (by decide), fun j => jg_uN (by decide), fun p hp => jg_uI hp, by rw [jg_uH, if_pos z]⟩
        show fo205_s (m + (d + 1) + 1) 213 X l1 l2 ((n : Int) + 1) k = _
        conv => lhs; unfold fo205_s
        rw [if_neg (by decide), if_pos rfl, if_pos (by omega), hX.1 105 (by decide) (by decide) (by decide), if_neg (by omega), if_pos (by omega), e106, if_pos cp, if_pos z, if_pos (by omega)]
      · refine ⟨jg_u X 114 pk (X 114 pk), ?_, hX.u (Or.inr (Or.inl rfl)), fun j => jg_uN (by decide), fun j => jg_uN (by decide), fun p hp => jg_uI hp, by rw [jg_uH, if_neg z]⟩
        show fo205_s (m + (d + 1) + 1) 213 X l1 l2 ((n : Int) + 1) k = _
        conv => lhs; unfold fo205_s
        rw [if_neg (by decide), if_pos rfl, if_pos (by omega), hX.1 105 (by decide) (by decide) (by decide), if_neg (by omega), if_pos (by omega), e106, if_pos cp, if_neg z, if_pos (by omega)]
    obtain ⟨X1, s1, s2, s3, s4, s5, s6⟩ := step
    obtain ⟨X', y1, y2, y3, y4, y5⟩ := ih m (k + 1) X1 s2 (by omega) (by omega)
    refine ⟨X', by rw [s1, y1], y2, fun j => (y3 j).trans (s3 j), fun j => (y4 j).trans (s4 j), fun p p0 p1 => ?_⟩
    rw [y5 p p0 p1]
    by_cases ep : p = pk
    · subst ep
      rw [s6]
      by_cases z : X 114 p = 0
      · rw [if_pos z, if_neg (by omega), if_pos ⟨z, by omega⟩]
      · rw [if_neg z, if_neg (fun w => z w.1), if_neg (fun w => z w.1)]
    · rw [s5 p ep]
      by_cases w : X 114 p = 0 ∧ k ≤ jh_k G ((n : Int) + 1) p
      · rw [if_pos w, if_pos ⟨w.1, (key p ep).1 w.2⟩]
      · rw [if_neg w, if_neg (fun x => w ⟨x.1, (key p ep).2 x.2⟩)]
/-- all records from n on, the reference -/
theorem jr_146 (hz : ∀ r : Nat, 1 ≤ r → r ≤ N → jl_v G r) (hL : jLg G N) (h12 : G 92 12 = N) (hN : N ≤ 1100) (l1 l2 : Int) : ∀ (d m n : Nat) (X : jg_G), n + d = N → s ≤ n → jw2 G N < m + jw2 G n → jx_r G X → (∀ t, 0 ≤ t → t < 4 → X 108 t = jt G t n) → (∀ p, 0 ≤ p → p < 24 → X 114 p = jrf G s f0 p n) → (0 ≤ X 113 0 ∧ X 113 0 + d ≤ 2000) → ∃ X', fo205_s m 146 X l1 l2 ((n : Int) + 1) 0 = some (X', 0) ∧ jx_r G X' ∧ (∀ t, 0 ≤ t → t < 4 → X' 108 t = jt G t N) ∧ (∀ p, 0 ≤ p → p < 24 → X' 114 p = jrf G s f0 p N) ∧ X' 113 0 = X 113 0 + d := by
  intro d
  induction d with
  | zero =>
    intro m n X e sn hm hX h108 h114 h113
    have en : n = N := by omega
    subst en
    cases m with
    | zero => omega
    | succ m =>
      unfold fo205_s
      rw [if_pos rfl, hX.1 92 (by decide) (by decide) (by decide), h12, if_pos (by omega)]
      exact ⟨X, rfl, hX, h108, h114, by omega⟩
  | succ d ih =>
    intro m n X e sn hm hX h108 h114 h113
    have hv := hz (n + 1) (by omega) (by omega)
    have hl := hL.1 (n + 1) (by omega) (by omega)
    have ec : ((n + 1 : Nat) : Int) = (n : Int) + 1 := by omega
    have who := hl.2.1
    have v3 := hv.2.1
    rw [ec] at who v3
    have w2 : jw2 G (n + 1) = jw2 G n + 2 + (G 105 ((n : Int) + 1)).toNat := rfl
    have w3 := jw2_mono (G := G) (n := n + 1) d
    rw [show n + 1 + d = N by omega] at w3
    have m1 : jb_m (X 113 0 + 1) = X 113 0 + 1 := jb_m_e ⟨by omega, by omega⟩
    -- the head
    have head : ∃ X1, fo205_s m 146 X l1 l2 ((n : Int) + 1) 0 = fo205_s (m - 1) 213 X1 l1 l2 ((n : Int) + 1) 0 ∧ jx_r G X1 ∧ (∀ t, 0 ≤ t → t < 4 → X1 108 t = jt G t (n + 1)) ∧ (∀ j, X1 114 j = X 114 j) ∧ X1 113 0 = X 113 0 + 1 := by
      obtain ⟨m, rfl⟩ : ∃ m', m = m' + 1 := ⟨m - 1, by omega⟩
      have hX1 : jx_r G (jg_u X 113 0 (X 113 0 + 1)) := hX.u (Or.inr (Or.inr ⟨rfl, rfl⟩))
      have jn : ∀ t, jt G t (n + 1) = if G 99 ((n : Int) + 1) = t then (if G 98 ((n : Int) + 1) = 2 ∨ G 98 ((n : Int) + 1) = 3 then 0 else (n : Int) + 1) else jt G t n := fun t => rfl
      have unf : fo205_s (m + 1) 146 X l1 l2 ((n : Int) + 1) 0 = (if G 99 ((n : Int) + 1) = (-1) then (fo205_s m 213 (jg_u X 113 0 (X 113 0 + 1)) l1 l2 ((n : Int) + 1) 0) else (if G 98 ((n : Int) + 1) = 2 then (if 0 ≤ (G 99 ((n : Int) + 1)) ∧ (G 99 ((n : Int) + 1)) < 4 then fo205_s m 213 (jg_u (jg_u X 113 0 (X 113 0 + 1)) 108 (G 99 ((n : Int) + 1)) 0) l1 l2 ((n : Int) + 1) 0 else none) else (if G 98 ((n : Int) + 1) = 3 then (if 0 ≤ (G 99 ((n : Int) + 1)) ∧ (G 99 ((n : Int) + 1)) < 4 then fo205_s m 213 (jg_u (jg_u X 113 0 (X 113 0 + 1)) 108 (G 99 ((n : Int) + 1)) 0) l1 l2 ((n : Int) + 1) 0 else none) else (if 0 ≤ (G 99 ((n : Int) + 1)) ∧ (G 99 ((n : Int) + 1)) < 4 then fo205_s m 213 (jg_u (jg_u X 113 0 (X 113 0 + 1)) 108 (G 99 ((n : Int) + 1)) ((n : Int) + 1)) l1 l2 ((n : Int) + 1) 0 else none)))) := by
        conv => lhs; unfold fo205_s
        rw [if_pos rfl, hX.1 92 (by decide) (by decide) (by decide), h12, if_neg (by omega), if_pos (by omega), hX.1 99 (by decide) (by decide) (by decide), hX.1 98 (by decide) (by decide) (by decide), m1]
      rw [unf]
      have put : ∀ v : Int, v = (if G 98 ((n : Int) + 1) = 2 ∨ G 98 ((n : Int) + 1) = 3 then 0 else (n : Int) + 1) → ∀ t, 0 ≤ t → t < 4 → jg_u (jg_u X 113 0 (X 113 0 + 1)) 108 (G 99 ((n : Int) + 1)) v 108 t = jt G t (n + 1) := fun v hv t t0 t1 => by
        rw [jn]
        by_cases e : G 99 ((n : Int) + 1) = t
        · rw [if_pos e, e, jg_uH]; exact hv
        · rw [if_neg e, jg_uI (fun z => e z.symm), jg_uN (by decide)]; exact h108 t t0 t1
      have v113 : ∀ v i, jg_u (jg_u X 113 0 (X 113 0 + 1)) 108 i v 113 0 = X 113 0 + 1 := fun v i => by rw [jg_uN (by decide)]; exact jg_uH
      have v114 : ∀ v i j, jg_u (jg_u X 113 0 (X 113 0 + 1)) 108 i v 114 j = X 114 j := fun v i j => by rw [jg_uN (by decide), jg_uN (by decide)]
      by_cases w0 : G 99 ((n : Int) + 1) = -1
      · rw [if_pos w0]
        refine ⟨_, rfl, hX1, fun t t0 t1 => ?_, fun j => jg_uN (by decide), jg_uH⟩
        rw [jg_uN (by decide), jn, if_neg (by omega)]
        exact h108 t t0 t1
      · have k3 : G 98 ((n : Int) + 1) ≤ 3 := by
          by_cases z : 4 ≤ G 98 ((n : Int) + 1)
          · exact absurd (who.2 z) w0
          · omega
        have wb := who.1 k3
        rw [if_neg w0]
        by_cases k2 : G 98 ((n : Int) + 1) = 2
        · rw [if_pos k2, if_pos wb]
          exact ⟨_, rfl, hX1.u (Or.inl rfl), put 0 (by rw [if_pos (Or.inl k2)]), v114 _ _, v113 _ _⟩
        · rw [if_neg k2]
          by_cases k3 : G 98 ((n : Int) + 1) = 3
          · rw [if_pos k3, if_pos wb]
            exact ⟨_, rfl, hX1.u (Or.inl rfl), put 0 (by rw [if_pos (Or.inr k3)]), v114 _ _, v113 _ _⟩
          · rw [if_neg k3, if_pos wb]
            exact ⟨_, rfl, hX1.u (Or.inl rfl), put _ (by rw [if_neg (by omega)]), v114 _ _, v113 _ _⟩
    obtain ⟨X1, a1, a2, a3, a4, a5⟩ := head
    have em : m - 1 = m - 1 - ((G 105 ((n : Int) + 1)).toNat + 1) + ((G 105 ((n : Int) + 1)).toNat + 1) := by omega
    obtain ⟨X2, b1, b2, b3, b4, b5⟩ := jr_213 hv (by omega) l1 l2 (G 105 ((n : Int) + 1)).toNat (m - 1 - ((G 105 ((n : Int) + 1)).toNat + 1)) 0 X1 a2 (Int.le_refl _) (by omega)
    rw [← em] at b1
    obtain ⟨X', c1, c2, c3, c4, c5⟩ := ih (m - 1 - ((G 105 ((n : Int) + 1)).toNat + 1)) (n + 1) X2 (by omega) (by omega) (by omega) b2 (fun t t0 t1 => by rw [b3]; exact a3 t t0 t1) (fun p p0 p1 => by
      rw [b5 p p0 p1, a4, h114 p p0 p1, jrf_n sn]
      by_cases z : jrf G s f0 p n = 0 ∧ jh_k G ((n : Int) + 1) p ≠ -1
      · rw [if_pos z, if_pos ⟨z.1, jhk_nn.2 z.2⟩]
      · rw [if_neg z, if_neg (fun x => z ⟨x.1, jhk_nn.1 x.2⟩)]) (by rw [b4, a5]; omega)
    rw [ec] at c1
    exact ⟨X', by rw [a1, b1, c1], c2, c3, c4, by rw [c5, b4, a5]; omega⟩
/-- the reference's start of the first pass -/
theorem jr_88 {sI b : Int} (hb : sI ≠ 0 → 0 ≤ b ∧ b + 28 ≤ 305118) : ∀ (m : Nat) (l : Int) (X : jg_G), jx_r G X → 0 ≤ l → l ≤ 24 → 24 < l + m → (∀ p, 0 ≤ p → p < l → X 114 p = if sI = 0 then 0 else G 93 (b + 4 + p)) → ∃ X', fo205_88 m X sI b l = fo205_88 1 X' sI b 24 ∧ jx_r G X' ∧ (∀ j, X' 108 j = X 108 j) ∧ (∀ j, X' 113 j = X 113 j) ∧ ∀ p, 0 ≤ p → p < 24 → X' 114 p = if sI = 0 then 0 else G 93 (b + 4 + p) := by
  intro m
  induction m with
  | zero => intro l X hX h0 h1 h2; omega
  | succ m ih =>
    intro l X hX h0 h1 h2 hp
    by_cases e : 24 ≤ l
    · have el : l = 24 := by omega
      subst el
      refine ⟨X, ?_, hX, fun _ => rfl, fun _ => rfl, hp⟩
      unfold fo205_88
      rw [if_pos e, if_pos e]
    · have go : ∀ v, v = (if sI = 0 then 0 else G 93 (b + 4 + l)) → fo205_88 (m + 1) X sI b l = fo205_88 m (jg_u X 114 l v) sI b (l + 1) → ∃ X', fo205_88 (m + 1) X sI b l = fo205_88 1 X' sI b 24 ∧ jx_r G X' ∧ (∀ j, X' 108 j = X 108 j) ∧ (∀ j, X' 113 j = X 113 j) ∧ ∀ p, 0 ≤ p → p < 24 → X' 114 p = if sI = 0 then 0 else G 93 (b + 4 + p) := fun v hv eq => by
        obtain ⟨X', y1, y2, y3, y4, y5⟩ := ih (l + 1) (jg_u X 114 l v) (hX.u (Or.inr (Or.inl rfl))) (by omega) (by omega) (by omega) (fun p p0 p1 => by
          by_cases z : p = l
          · rw [z, jg_uH]; exact hv
          · rw [jg_uI z]; exact hp p p0 (by omega))
        exact ⟨X', by rw [eq, y1], y2, fun j => (y3 j).trans (jg_uN (by decide)), fun j => (y4 j).trans (jg_uN (by decide)), y5⟩
      by_cases z : sI = 0
      · refine go 0 (by rw [if_pos z]) ?_
        conv => lhs; unfold fo205_88
        rw [if_neg e, if_pos z, if_pos (by omega), if_pos (by omega)]
      · have := hb z
        refine go (G 93 (b + 4 + l)) (by rw [if_neg z]) ?_
        conv => lhs; unfold fo205_88
        rw [if_neg e, if_neg z, if_pos (by omega), if_pos (by omega), if_pos (by omega), hX.1 93 (by decide) (by decide) (by decide)]
theorem jr_5_53 {sI b : Int} (hb : sI ≠ 0 → 0 ≤ b ∧ b + 28 ≤ 305118) : ∀ (m : Nat) (l : Int) (X : jg_G), jx_r G X → 0 ≤ l → l ≤ 4 → 4 < l + m → (∀ t, 0 ≤ t → t < l → X 108 t = if sI = 0 then 0 else G 93 (b + t)) → ∃ X', fo205_53 m X sI b l = fo205_88 1 X' sI b 24 ∧ jx_r G X' ∧ (∀ t, 0 ≤ t → t < 4 → X' 108 t = if sI = 0 then 0 else G 93 (b + t)) ∧ (∀ j, X' 113 j = X 113 j) ∧ ∀ p, 0 ≤ p → p < 24 → X' 114 p = if sI = 0 then 0 else G 93 (b + 4 + p) := by
  intro m
  induction m with
  | zero => intro l X hX h0 h1 h2; omega
  | succ m ih =>
    intro l X hX h0 h1 h2 hp
    by_cases e : 4 ≤ l
    · obtain ⟨X', y1, y2, y3, y4, y5⟩ := jr_88 hb jo_N 0 X hX (by decide) (by decide) (by decide) (fun p _ _ => by omega)
      refine ⟨X', ?_, y2, fun t t0 t1 => by rw [y3]; exact hp t t0 (by omega), y4, y5⟩
      rw [← y1]
      conv => lhs; unfold fo205_53
      rw [if_pos e]
    · have go : ∀ v, v = (if sI = 0 then 0 else G 93 (b + l)) → fo205_53 (m + 1) X sI b l = fo205_53 m (jg_u X 108 l v) sI b (l + 1) → ∃ X', fo205_53 (m + 1) X sI b l = fo205_88 1 X' sI b 24 ∧ jx_r G X' ∧ (∀ t, 0 ≤ t → t < 4 → X' 108 t = if sI = 0 then 0 else G 93 (b + t)) ∧ (∀ j, X' 113 j = X 113 j) ∧ ∀ p, 0 ≤ p → p < 24 → X' 114 p = if sI = 0 then 0 else G 93 (b + 4 + p) := fun v hv eq => by
        obtain ⟨X', y1, y2, y3, y4, y5⟩ := ih (l + 1) (jg_u X 108 l v) (hX.u (Or.inl rfl)) (by omega) (by omega) (by omega) (fun p p0 p1 => by
          by_cases z : p = l
          · rw [z, jg_uH]; exact hv
          · rw [jg_uI z]; exact hp p p0 (by omega))
        exact ⟨X', by rw [eq, y1], y2, y3, fun j => (y4 j).trans (jg_uN (by decide)), y5⟩
      by_cases z : sI = 0
      · refine go 0 (by rw [if_pos z]) ?_
        conv => lhs; unfold fo205_53
        rw [if_neg e, if_pos z, if_pos (by omega), if_pos (by omega)]
      · have := hb z
        refine go (G 93 (b + l)) (by rw [if_neg z]) ?_
        conv => lhs; unfold fo205_53
        rw [if_neg e, if_neg z, if_pos (by omega), if_pos (by omega), if_pos (by omega), hX.1 93 (by decide) (by decide) (by decide)]
theorem jr_5_4 (h12 : G 92 12 = N) (hN : N ≤ 1100) : ∀ (d m n : Nat), n + d = N → d < m → ∃ m', fo205_4 m G (jlm G n : Nat) ((n : Int) + 1) = fo205_4 (m' + 1) G (jlm G N : Nat) ((N : Int) + 1) := by
  intro d
  induction d with
  | zero =>
    intro m n e hm
    have en : n = N := by omega
    subst en
    exact ⟨m - 1, by rw [show m - 1 + 1 = m by omega]⟩
  | succ d ih =>
    intro m n e hm
    obtain ⟨m, rfl⟩ : ∃ m', m = m' + 1 := ⟨m - 1, by omega⟩
    obtain ⟨m', y⟩ := ih m (n + 1) (by omega) (by omega)
    refine ⟨m', ?_⟩
    rw [← y]
    have ec : ((n + 1 : Nat) : Int) = (n : Int) + 1 := by omega
    conv => lhs; unfold fo205_4
    rw [h12, if_neg (by omega), if_pos (by omega)]
    by_cases k4 : G 98 ((n : Int) + 1) = 4
    · have ej : jlm G (n + 1) = n + 1 := if_pos k4
      rw [if_pos k4, if_pos (by omega), ej, ec]
    · have ej : jlm G (n + 1) = jlm G n := if_neg k4
      rw [if_neg k4, if_pos (by omega), ej, ec]
end
