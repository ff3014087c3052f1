/-! A PAGE WRITTEN: class and reference alike -/
def jd_due (G : jg_G) (r : Int) : Int := if G 92 13 < r then r - G 92 13 else 0
theorem jx_ha {G : jg_G} {r : Int} (h7 : G 92 7 = 0) (h5 : jb_r (G 92 5)) (hA : ¬ (G 92 13 < r ∧ 1 ≤ G 92 6 ∧ G 92 6 ≤ r - G 92 13)) : fr_ha G r 92 13 = G 92 13 + jd_due G r ∧ fr_ha G r 92 6 = (if G 92 6 ≤ 0 then G 92 6 else G 92 6 - jd_due G r) ∧ fr_ha G r 92 5 = jb_m (G 92 5 + jd_due G r) ∧ (∀ i, i ≠ 5 → i ≠ 6 → i ≠ 13 → fr_ha G r 92 i = G 92 i) ∧ ∀ n, n ≠ 92 → ∀ j, fr_ha G r n j = G n j := by
  unfold fr_ha jd_due
  by_cases c1 : G 92 13 < r
  · rw [if_pos ⟨h7, c1⟩, if_neg (fun z => hA ⟨c1, z⟩), if_pos c1]
    unfold fr_w
    refine ⟨?_, ?_, ?_, fun i i5 i6 i13 => ?_, fun n hn j => ?_⟩
    · rw [jg_uH]; omega
    · rw [jg_uI (by decide), jg_uI (by decide), jg_uH]
    · rw [jg_uI (by decide), jg_uH]
    · rw [jg_uI i13, jg_uI i5, jg_uI i6]
    · rw [jg_uN hn, jg_uN hn, jg_uN hn]
  · rw [if_neg (fun z => c1 z.2), if_neg c1, Int.add_zero, Int.sub_zero]
    refine ⟨rfl, ?_, ?_, fun i _ _ _ => rfl, fun n _ j => rfl⟩
    · split <;> rfl
    · rw [Int.add_zero, jb_m_e h5]
theorem jx_h5 {G : jg_G} {f to : Int} : jx_h G f to 92 5 = jb_m (G 92 5 + 1) := by
  unfold jx_h fr_copies fr_w
  rw [jg_uN (by decide)]
  show (if (92 : Nat) = 93 ∧ _ then _ else _) = _
  rw [if_neg (fun z => absurd z.1 (by decide)), jg_uH]
/-- what a fall leaves alone -/
theorem fr_fw_k (G : jg_G) : (∀ i, i ≠ 6 → i ≠ 7 → i ≠ 8 → i ≠ 12 → fr_fw G 92 i = G 92 i) ∧ (∀ n, (n = 93 ∨ n = 94 ∨ (98 ≤ n ∧ n ≤ 106) ∨ 112 ≤ n) → ∀ j, fr_fw G n j = G n j) := by
  constructor
  · intro i h6 h7 h8 h12
    unfold fr_fw fr_fa fr_fi fr_f0
    rw [if_neg (by omega), if_neg (by omega), if_neg (by omega), if_neg (by omega), jg_uI h12, jg_uI h8, jg_uI h7, jg_uI h6]
  · intro n hn j
    unfold fr_fw fr_fa fr_fi fr_f0
    rw [if_neg (by omega), if_neg (by omega), if_neg (by omega), if_neg (by omega), jg_uN (by omega), jg_uN (by omega), jg_uN (by omega), jg_uN (by omega)]
/-- fallen: X is what stood when the told write came -/
theorem jl_s.fw (G : jg_G) : jl_s G (fr_fw G) := ⟨fun m a b j => (fr_fw_k G).2 m (by omega) j, fun j _ => (fr_fw_k G).2 93 (by decide) j⟩
/-- a fall keeps the disk -/
theorem jdc.fall {K : jc_K} {G : jg_G} {D : Int} (h : jdc K G D) : jdc K (fr_fw G) D :=
  h.keep (Int.le_refl _) ⟨⟨rfl, rfl, rfl⟩, fun _ _ => rfl, fun _ _ _ _ => rfl⟩ (by rw [(fr_fw_k G).1 3 (by decide) (by decide) (by decide) (by decide)]; exact h.1.1) (by rw [(fr_fw_k G).1 3 (by decide) (by decide) (by decide) (by decide)]; exact Int.le_refl _) ((fr_fw_k G).1 4 (by decide) (by decide) (by decide) (by decide)) (jl_s.fw G) (fun j _ _ => (fr_fw_k G).2 93 (by decide) j) (fun i => (fr_fw_k G).2 94 (by decide) i)
/-- what writing a page leaves: the log as it was, rows below the disk's as they were -/
def jw_k (G G' : jg_G) : Prop := jl_s G G' ∧ (∀ j, j < 67 * 4 → G' 93 j = G 93 j) ∧ G' 92 3 ≤ G 92 3 + 1 ∧ ∀ n, (n = 112 ∨ n = 113 ∨ n = 114 ∨ n = 115 ∨ n = 116 ∨ n = 117 ∨ n = 118) → ∀ j, G' n j = G n j
/-- the class's page chain by the number of halves -/
theorem jk_c01 {K : jc_K} {p l3 l4 j : Int} {q : Nat} (h : j ≤ 1) : fc14_109 K p q l3 l4 j = some (K, 0) := by
  unfold fc14_109
  rw [if_pos h]
  unfold fc14_131
  rw [if_pos (by omega)]
  unfold fc14_147
  rw [if_pos (by omega)]
  unfold fc14_173
  rw [if_neg (by omega)]
theorem jk_c2 {K K2 : jc_K} {p l3 l4 : Int} {q : Nat} (h : fc35 (jc_ui K 3 6 (jc_i K 3 7)) 7 q = some (K2, 0)) : fc14_109 K p q l3 l4 2 = some (K2, 0) := by
  unfold fc14_109
  rw [if_neg (by decide), h, jo_bs]
  unfold fc14_131
  rw [if_pos (by decide)]
  unfold fc14_147
  rw [if_pos (by decide)]
  unfold fc14_173
  rw [if_neg (by decide)]
theorem jk_c3 {K K2 : jc_K} {p l3 l4 : Int} {q : Nat} (hp : 0 ≤ p ∧ p < 24) (h : fc35 (jc_ui K 3 6 (jc_i K 3 7)) 7 q = some (K2, 0)) : fc14_109 K p q l3 l4 3 = some (jc_ui K2 5 p (jc_i K2 3 7), 0) := by
  unfold fc14_109
  rw [if_neg (by decide), h, jo_bs]
  unfold fc14_131
  rw [if_neg (by decide), if_pos hp]
  unfold fc14_147
  rw [if_pos (by decide)]
  unfold fc14_173
  rw [if_neg (by decide)]
theorem jk_c4 {K K2 K4 : jc_K} {p l3 l4 : Int} {q : Nat} (hp : 0 ≤ p ∧ p < 24) (h : fc35 (jc_ui K 3 6 (jc_i K 3 7)) 7 q = some (K2, 0)) (h4 : fc35 (jc_ui (jc_ui K2 5 p (jc_i K2 3 7)) 6 p (jc_i (jc_ui K2 5 p (jc_i K2 3 7)) 3 7)) (9 + 2 * Int.toNat p) q = some (K4, 0)) : fc14_109 K p q l3 l4 4 = some (K4, 1) := by
  unfold fc14_109
  rw [if_neg (by decide), h, jo_bs]
  unfold fc14_131
  rw [if_neg (by decide), if_pos hp]
  unfold fc14_147
  rw [if_neg (by decide), if_pos hp, h4, jo_bs]
  unfold fc14_173
  rw [if_pos rfl]
/-- the class's writing up to its halves -/
theorem jk_37 {K : jc_K} {p due t D W : Int} {q : Nat} (hd : 0 ≤ due ∧ due < 1501) (ht : jc_i K 3 10 = t) (ht2 : 0 ≤ t ∧ t < 1000) (h8 : jc_i K 3 8 = D) (hD : 0 ≤ D ∧ D < 1501) (hW : jc_i K 3 7 = W) (hW2 : 0 ≤ W ∧ W < 2147483647) :
    (1 ≤ t ∧ t ≤ due ∧ ∃ K', fc14_37 K p q due = some (K', 0) ∧ jk_s (fun n => n = 3) K K' ∧ jc_i K' 3 8 = D + (t - 1) ∧ jc_i K' 3 9 = jb_m (jc_i K 3 9 + (t - 1)) ∧ jc_i K' 3 10 = 0 ∧ ∀ i, i ≠ 8 → i ≠ 9 → i ≠ 10 → jc_i K' 3 i = jc_i K 3 i) ∨
    (¬ (1 ≤ t ∧ t ≤ due) ∧ ∃ j K', (0 ≤ j ∧ j ≤ 4 ∧ j = (if 1 ≤ t ∧ t ≤ due + 4 then t - 1 - due else 4)) ∧ fc14_37 K p q due = fc14_109 K' p q due (due + j) j ∧ jk_s (fun n => n = 3) K K' ∧ jc_i K' 3 8 = D + due ∧ jc_i K' 3 7 = W + 1 ∧ jc_i K' 3 9 = jb_m (jc_i K 3 9 + (due + j)) ∧ jc_i K' 3 10 = (if 1 ≤ t ∧ t ≤ due + 4 then 0 else if t ≤ 0 then t else t - (due + 4)) ∧ (0 < j → jc_i K' 3 4 = p ∧ jc_i K' 3 5 = W + 1) ∧ (j = 0 → jc_i K' 3 4 = jc_i K 3 4 ∧ jc_i K' 3 5 = jc_i K 3 5) ∧ jc_i K' 3 6 = jc_i K 3 6) := by
  obtain ⟨K1, r1, s1, e10, e9, ei⟩ := jk_fc12 (K := K) (w := due + 4) ⟨by omega, by omega⟩ ht ht2
  have e8 : jc_i K1 3 8 = D := (ei 8 (by decide) (by decide)).trans h8
  have e7 : jc_i K1 3 7 = W := (ei 7 (by decide) (by decide)).trans hW
  have hF : ∀ cn, (if 1 ≤ t ∧ t ≤ due + 4 then t - 1 else due + 4) = cn → fc14_37 K p q due = if due ≤ cn then (if -2147483648 ≤ D + due ∧ D + due < 2147483648 then if -2147483648 ≤ cn - due ∧ cn - due < 2147483648 then if cn - due ≤ 0 then fc14_109 (jc_ui (jc_ui K1 3 8 (D + due)) 3 7 (jb_m (W + 1))) p q due cn (cn - due) else fc14_109 (jc_ui (jc_ui (jc_ui (jc_ui K1 3 8 (D + due)) 3 7 (jb_m (W + 1))) 3 4 p) 3 5 (jb_m (W + 1))) p q due cn (cn - due) else none else none) else (if -2147483648 ≤ D + cn ∧ D + cn < 2147483648 then some (jc_ui K1 3 8 (D + cn), 0) else none) := by
    intro cn hcn
    unfold fc14_37
    rw [if_pos (by omega), r1, jo_bs]
    dsimp only
    rw [e8, e7, hcn]
  by_cases cA : 1 ≤ t ∧ t ≤ due
  · left
    have ec : (if 1 ≤ t ∧ t ≤ due + 4 then t - 1 else due + 4) = t - 1 := if_pos ⟨cA.1, by omega⟩
    have hF := hF _ ec
    rw [ec] at e9
    rw [if_pos ⟨cA.1, by omega⟩] at e10
    refine ⟨cA.1, cA.2, ?_⟩
    rw [if_neg (by omega), if_pos (by omega)] at hF
    exact ⟨_, hF, s1.trans (jk_s.u (S := fun n => n = 3) rfl), jc_uH, (jc_uI (by decide)).trans e9, (jc_uI (by decide)).trans e10, fun i i8 i9 i10 => (jc_uI i8).trans (ei i i9 i10)⟩
  · right
    refine ⟨cA, ?_⟩
    have em : jb_m (W + 1) = W + 1 := jb_m_e ⟨by omega, by omega⟩
    have ec : ∃ j, 0 ≤ j ∧ j ≤ 4 ∧ (if 1 ≤ t ∧ t ≤ due + 4 then t - 1 else due + 4) = due + j ∧ j = (if 1 ≤ t ∧ t ≤ due + 4 then t - 1 - due else 4) := by
      by_cases c : 1 ≤ t ∧ t ≤ due + 4
      · refine ⟨t - 1 - due, by omega, by omega, ?_, ?_⟩
        · rw [if_pos c]; omega
        · rw [if_pos c]
      · refine ⟨4, by decide, by decide, ?_, ?_⟩
        · rw [if_neg c]
        · rw [if_neg c]
    obtain ⟨j, j0, j4, ej, ej2⟩ := ec
    have hF := hF _ ej
    rw [ej] at e9
    rw [if_pos (by omega), if_pos (by omega), if_pos (by omega), em, show due + j - due = j by omega] at hF
    refine ⟨j, ?_⟩
    by_cases cj : j ≤ 0
    · have j00 : j = 0 := by omega
      rw [if_pos cj] at hF
      refine ⟨_, ⟨j0, j4, ej2⟩, hF, (s1.trans (jk_s.u (S := fun n => n = 3) rfl)).trans (jk_s.u rfl), ?_, jc_uH, ?_, ?_, fun z => by omega, fun _ => ⟨?_, ?_⟩, ?_⟩
      · rw [jc_uI (by decide), jc_uH]
      · rw [jc_uI (by decide), jc_uI (by decide)]; exact e9
      · rw [jc_uI (by decide), jc_uI (by decide)]; exact e10
      · rw [jc_uI (by decide), jc_uI (by decide)]; exact ei 4 (by decide) (by decide)
      · rw [jc_uI (by decide), jc_uI (by decide)]; exact ei 5 (by decide) (by decide)
      · rw [jc_uI (by decide), jc_uI (by decide)]; exact ei 6 (by decide) (by decide)
    · rw [if_neg cj] at hF
      refine ⟨_, ⟨j0, j4, ej2⟩, hF, (((s1.trans (jk_s.u (S := fun n => n = 3) rfl)).trans (jk_s.u rfl)).trans (jk_s.u rfl)).trans (jk_s.u rfl), ?_, ?_, ?_, ?_, fun _ => ⟨?_, jc_uH⟩, fun z => by omega, ?_⟩
      · rw [jc_uI (by decide), jc_uI (by decide), jc_uI (by decide), jc_uH]
      · rw [jc_uI (by decide), jc_uI (by decide), jc_uH]
      · rw [jc_uI (by decide), jc_uI (by decide), jc_uI (by decide), jc_uI (by decide)]; exact e9
      · rw [jc_uI (by decide), jc_uI (by decide), jc_uI (by decide), jc_uI (by decide)]; exact e10
      · rw [jc_uI (by decide), jc_uH]
      · rw [jc_uI (by decide), jc_uI (by decide), jc_uI (by decide), jc_uI (by decide)]; exact ei 6 (by decide) (by decide)
