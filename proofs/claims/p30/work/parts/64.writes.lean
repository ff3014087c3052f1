/-! WRITES of the reference: what writesFrame does, by where the told write lies -/
theorem jg_uS {G : jg_G} {n : Nat} {i v : Int} (h : G n i = v) : jg_u G n i v = G := by
  funext m j
  by_cases e : m = n ∧ j = i
  · rw [e.1, e.2, jg_uH, h]
  · exact if_neg e
/-- a half written -/
def jx_h (G : jg_G) (f to : Int) : jg_G := jg_u (fr_copies (fr_w G 1) f to) 94 to (G 92 3)
theorem fr_iw_ok {G : jg_G} (h7 : G 92 7 = 0) (h6 : G 92 6 ≠ 1) : fr_iw G = fr_w G 1 ∧ fr_ok G = 1 := ⟨by unfold fr_iw; rw [if_pos h7, if_neg h6], if_pos ⟨h7, h6⟩⟩
theorem fr_iw_f {G : jg_G} (h7 : G 92 7 = 0) (h6 : G 92 6 = 1) : fr_iw G = fr_fw G ∧ fr_ok G = 0 := ⟨by unfold fr_iw; rw [if_pos h7, if_pos h6], if_neg (fun z => z.2 h6)⟩
theorem fr_iw_n {G : jg_G} (h7 : G 92 7 ≠ 0) : fr_iw G = G ∧ fr_ok G = 0 := ⟨by unfold fr_iw; rw [if_neg h7], if_neg (fun z => h7 z.1)⟩
theorem jx_ok {G : jg_G} {f to w : Int} (hf : 0 ≤ f ∧ f < 4554) (ht : 0 ≤ to ∧ to < 54) (h6 : 0 ≤ G 92 6 ∧ G 92 6 < 1000) (h7 : G 92 7 = 0) (h1 : G 92 6 ≠ 1) (hw : w = G 92 3) : fo166 G f to w = some (jx_h G f to, 0) := by
  obtain ⟨e1, e2⟩ := fr_iw_ok h7 h1
  unfold fo166 jo_l
  rw [if_pos h6, e1, e2]
  dsimp only
  rw [if_neg (by decide), if_pos hf, if_pos ⟨by omega, by omega⟩, if_pos ht, hw]
  rfl
theorem jx_f {G : jg_G} {f to w : Int} (h6 : 0 ≤ G 92 6 ∧ G 92 6 < 1000) (h7 : G 92 7 = 0) (h1 : G 92 6 = 1) : fo166 G f to w = some (fr_fw G, 0) := by
  obtain ⟨e1, e2⟩ := fr_iw_f h7 h1
  unfold fo166 jo_l
  rw [if_pos h6, e1, e2]
  dsimp only
  rw [if_pos rfl]
theorem jx_n {G : jg_G} {f to w : Int} (h6 : 0 ≤ G 92 6 ∧ G 92 6 < 1000) (h7 : G 92 7 ≠ 0) : fo166 G f to w = some (G, 0) := by
  obtain ⟨e1, e2⟩ := fr_iw_n h7
  unfold fo166 jo_l
  rw [if_pos h6, e1, e2]
  dsimp only
  rw [if_pos rfl]
theorem jx_h92 {G : jg_G} {f to i : Int} (h5 : i ≠ 5) (h6 : i ≠ 6) : jx_h G f to 92 i = G 92 i := by
  unfold jx_h fr_copies fr_w
  rw [jg_uN (by decide)]
  show (if (92 : Nat) = 93 ∧ _ then _ else _) = _
  rw [if_neg (fun z => absurd z.1 (by decide)), jg_uI h5, jg_uI h6]
theorem jx_h6 {G : jg_G} {f to : Int} : jx_h G f to 92 6 = if G 92 6 ≤ 0 then G 92 6 else G 92 6 - 1 := by
  unfold jx_h fr_copies fr_w
  rw [jg_uN (by decide)]
  show (if (92 : Nat) = 93 ∧ _ then _ else _) = _
  rw [if_neg (fun z => absurd z.1 (by decide)), jg_uI (by decide), jg_uH]
theorem fr_fw7 (G : jg_G) : fr_fw G 92 7 = 1 := by
  unfold fr_fw fr_fa fr_fi fr_f0
  simp [jg_u]
theorem fr_fw6 (G : jg_G) : fr_fw G 92 6 = 0 := by
  unfold fr_fw fr_fa fr_fi fr_f0
  simp [jg_u]
theorem fr_fw97 (G : jg_G) {f : Int} (h : 0 ≤ f ∧ f < 4) : fr_fw G 97 f = 0 := by
  unfold fr_fw fr_fa fr_fi
  rw [if_neg (by omega), if_pos ⟨by decide, h.1, h.2⟩]
/-- the log made durable as far as needed, and a writing begun -/
def jx_0 (G : jg_G) (r : Int) : jg_G := jg_u (fr_ha G r) 92 3 (jb_m (fr_ha G r 92 3 + 1))
def jx_1 (G : jg_G) (f r : Int) : jg_G := jx_h (jx_0 G r) f 52
def jx_2 (G : jg_G) (f r : Int) : jg_G := jx_h (jx_1 G f r) f 53
def jx_2' (G : jg_G) (f r : Int) : jg_G := jg_u (jx_2 G f r) 92 4 (G 95 f)
def jx_3 (G : jg_G) (f r : Int) : jg_G := jx_h (jx_2' G f r) f (4 + 2 * G 95 f)
def jx_4 (G : jg_G) (f r : Int) : jg_G := jx_h (jx_3 G f r) f (5 + 2 * G 95 f)
theorem jx_42 {G : jg_G} {f p : Int} {m : Nat} (hf : 0 ≤ f ∧ f < 4) (hp : 0 ≤ p ∧ p < 24) (h6 : 0 ≤ G 92 6 ∧ G 92 6 < 1000) (h7 : G 92 7 ≠ 0) (h97 : G 97 f = 0) : fo167_87 (m + 3) G f p 0 = some (G, 0) := by
  unfold fo167_87
  rw [if_neg (by decide), if_pos ⟨by omega, by omega⟩, jx_n h6 h7, jo_bs, if_pos (by decide)]
  unfold fo167_87
  rw [if_neg (by decide), if_pos ⟨by omega, by omega⟩, jx_n h6 h7, jo_bs, if_pos (by decide)]
  unfold fo167_87
  rw [if_pos (by decide), if_pos hf, jg_uS h97]
theorem jx_167 {G : jg_G} {f r : Int} (hf : 0 ≤ f ∧ f < 4) (hp : 0 ≤ G 95 f ∧ G 95 f < 24) (h6 : 0 ≤ G 92 6 ∧ G 92 6 < 1000) (h7 : G 92 7 = 0) (h13 : 0 ≤ G 92 13) (hr : G 93 (67 * f + 1) = r) (hrr : 0 ≤ r ∧ r < 1501) :
    (G 92 13 < r ∧ 1 ≤ G 92 6 ∧ G 92 6 ≤ r - G 92 13 ∧ fo167 G f = some (fr_ha G r, 0)) ∨
    (jx_0 G r 92 7 = 0 ∧ ((jx_0 G r 92 6 = 1 ∧ fo167 G f = some (fr_fw (jx_0 G r), 0)) ∨
      (jx_0 G r 92 6 = 2 ∧ fo167 G f = some (fr_fw (jx_1 G f r), 0)) ∨
      (jx_0 G r 92 6 = 3 ∧ fo167 G f = some (fr_fw (jx_2' G f r), 0)) ∨
      (jx_0 G r 92 6 = 4 ∧ fo167 G f = some (fr_fw (jx_3 G f r), 0)) ∨
      ((jx_0 G r 92 6 = 0 ∨ 4 < jx_0 G r 92 6) ∧ fo167 G f = some (jg_u (jx_4 G f r) 97 f 0, 0)))) := by
  have un : fo167 G f = if (fr_ha G r) 92 7 = 0 then fo167_42 jo_N (jx_0 G r) f (G 95 f) 0 else some (fr_ha G r, 0) := by
    unfold fo167
    rw [if_pos hf, if_pos ⟨by omega, by omega⟩, hr, if_pos hrr, if_pos h6, if_pos h13]
    rfl
  by_cases cA : G 92 13 < r ∧ 1 ≤ G 92 6 ∧ G 92 6 ≤ r - G 92 13
  · refine Or.inl ⟨cA.1, cA.2.1, cA.2.2, ?_⟩
    have e : fr_ha G r = fr_fw (jg_u (fr_w G (G 92 6 - 1)) 92 13 (G 92 13 + (G 92 6 - 1))) := by
      unfold fr_ha
      rw [if_pos ⟨h7, cA.1⟩, if_pos cA.2]
    rw [un, if_neg (by rw [e, fr_fw7]; decide)]
  · right
    have hh7 : fr_ha G r 92 7 = 0 := by
      unfold fr_ha
      by_cases c1 : G 92 7 = 0 ∧ G 92 13 < r
      · rw [if_pos c1, if_neg (fun z => cA ⟨c1.2, z⟩)]
        unfold fr_w
        rw [jg_uI (by decide), jg_uI (by decide), jg_uI (by decide)]
        exact h7
      · rw [if_neg c1]
        exact h7
    have hh6 : 0 ≤ fr_ha G r 92 6 ∧ fr_ha G r 92 6 < 1000 := by
      unfold fr_ha
      by_cases c1 : G 92 7 = 0 ∧ G 92 13 < r
      · rw [if_pos c1, if_neg (fun z => cA ⟨c1.2, z⟩)]
        unfold fr_w
        rw [jg_uI (by decide), jg_uI (by decide), jg_uH]
        split <;> omega
      · rw [if_neg c1]
        exact h6
    have k7 : jx_0 G r 92 7 = 0 := (jg_uI (by decide)).trans hh7
    have k6 : jx_0 G r 92 6 = fr_ha G r 92 6 := jg_uI (by decide)
    have a7 : jx_1 G f r 92 7 = 0 := (jx_h92 (by decide) (by decide)).trans k7
    have b7 : jx_2 G f r 92 7 = 0 := (jx_h92 (by decide) (by decide)).trans a7
    have b7' : jx_2' G f r 92 7 = 0 := (jg_uI (by decide)).trans b7
    have c7 : jx_3 G f r 92 7 = 0 := (jx_h92 (by decide) (by decide)).trans b7'
    have a6 : jx_1 G f r 92 6 = _ := jx_h6
    have b6 : jx_2 G f r 92 6 = _ := jx_h6
    have b6' : jx_2' G f r 92 6 = jx_2 G f r 92 6 := jg_uI (by decide)
    have c6 : jx_3 G f r 92 6 = _ := jx_h6
    have d6 : jx_4 G f r 92 6 = _ := jx_h6
    refine ⟨k7, ?_⟩
    rw [un, if_pos hh7, show jo_N = 3996 + 4 from rfl]
    have fin : ∀ X, X 92 7 ≠ 0 → (0 ≤ X 92 6 ∧ X 92 6 < 1000) → X 97 f = 0 → ∀ m, fo167_42 (m + 1) X f (G 95 f) 2 = some (X, 0) := by
      intro X x7 x6 x97 m
      unfold fo167_42
      rw [if_pos (by decide), if_neg x7, jg_uS rfl, show jo_N = 3997 + 3 from rfl]
      exact jx_42 hf hp x6 x7 x97
    have ff : ∀ X, fr_fw X 92 7 ≠ 0 := fun X => by rw [fr_fw7]; decide
    have f6 : ∀ X, 0 ≤ fr_fw X 92 6 ∧ fr_fw X 92 6 < 1000 := fun X => by rw [fr_fw6]; exact ⟨by decide, by decide⟩
    by_cases t1 : jx_0 G r 92 6 = 1
    · refine Or.inl ⟨t1, ?_⟩
      unfold fo167_42
      rw [if_neg (by decide), if_pos (by decide), jx_f (by omega) k7 t1, jo_bs, if_pos (by decide)]
      unfold fo167_42
      rw [if_neg (by decide), if_pos (by decide), jx_n (f6 _) (ff _), jo_bs, if_pos (by decide)]
      exact fin _ (ff _) (f6 _) (fr_fw97 _ hf) _
    · right
      unfold fo167_42
      rw [if_neg (by decide), if_pos (by decide), jx_ok ⟨by omega, by omega⟩ (by decide) (by omega) k7 t1 rfl, jo_bs, if_pos (by decide)]
      rw [show jx_h (jx_0 G r) f (52 + 0) = jx_1 G f r from rfl]
      by_cases t2 : jx_0 G r 92 6 = 2
      · refine Or.inl ⟨t2, ?_⟩
        rw [t2] at a6
        unfold fo167_42
        rw [if_neg (by decide), if_pos (by decide), jx_f (by rw [a6]; decide) a7 a6, jo_bs, if_pos (by decide)]
        exact fin _ (ff _) (f6 _) (fr_fw97 _ hf) _
      · right
        have a6b : 0 ≤ jx_1 G f r 92 6 ∧ jx_1 G f r 92 6 < 1000 := by rw [a6]; split <;> omega
        unfold fo167_42
        rw [if_neg (by decide), if_pos (by decide), jx_ok ⟨by omega, by omega⟩ (by decide) a6b a7 (by rw [a6]; split <;> omega) rfl, jo_bs, if_pos (by decide)]
        rw [show jx_h (jx_1 G f r) f (52 + (0 + 1)) = jx_2 G f r from rfl]
        have b6b : 0 ≤ jx_2' G f r 92 6 ∧ jx_2' G f r 92 6 < 1000 := by rw [b6', b6]; split <;> omega
        have st : fo167_42 (3996 + 2) (jx_2 G f r) f (G 95 f) 2 = fo167_87 jo_N (jx_2' G f r) f (G 95 f) 0 := by
          show (if (2 : Int) ≤ 2 then (if jx_2 G f r 92 7 = 0 then _ else _) else _) = _
          rw [if_pos (by decide), if_pos b7]
          rfl
        show (_ ∧ fo167_42 (3996 + 2) (jx_2 G f r) f (G 95 f) 2 = _) ∨ (_ ∧ fo167_42 (3996 + 2) (jx_2 G f r) f (G 95 f) 2 = _) ∨ (_ ∧ fo167_42 (3996 + 2) (jx_2 G f r) f (G 95 f) 2 = _)
        rw [st, show jo_N = 3996 + 4 from rfl]
        by_cases t3 : jx_0 G r 92 6 = 3
        · refine Or.inl ⟨t3, ?_⟩
          have b1 : jx_2' G f r 92 6 = 1 := by rw [b6', b6, a6, t3]; rfl
          unfold fo167_87
          rw [if_neg (by decide), if_pos ⟨by omega, by omega⟩, jx_f b6b b7' b1, jo_bs, if_pos (by decide)]
          unfold fo167_87
          rw [if_neg (by decide), if_pos ⟨by omega, by omega⟩, jx_n (f6 _) (ff _), jo_bs, if_pos (by decide)]
          unfold fo167_87
          rw [if_pos (by decide), if_pos hf, jg_uS (fr_fw97 _ hf)]
        · right
          have b1 : jx_2' G f r 92 6 ≠ 1 := by rw [b6', b6, a6]; repeat' split <;> omega
          have w3 : ∀ (G1 : jg_G) (f1 t1 : Int), jx_h G1 f1 t1 92 3 = G1 92 3 := fun G1 f1 t1 => jx_h92 (by decide) (by decide)
          unfold fo167_87
          rw [if_neg (by decide), if_pos ⟨by omega, by omega⟩, jx_ok ⟨by omega, by omega⟩ ⟨by omega, by omega⟩ b6b b7' b1 rfl, jo_bs, if_pos (by decide)]
          rw [show jx_h (jx_2' G f r) f (4 + 2 * G 95 f + 0) = jx_3 G f r by rw [Int.add_zero]; rfl]
          have c6b : 0 ≤ jx_3 G f r 92 6 ∧ jx_3 G f r 92 6 < 1000 := by rw [c6]; split <;> omega
          by_cases t4 : jx_0 G r 92 6 = 4
          · refine Or.inl ⟨t4, ?_⟩
            have c1 : jx_3 G f r 92 6 = 1 := by rw [c6, b6', b6, a6, t4]; rfl
            unfold fo167_87
            rw [if_neg (by decide), if_pos ⟨by omega, by omega⟩, jx_f c6b c7 c1, jo_bs, if_pos (by decide)]
            unfold fo167_87
            rw [if_pos (by decide), if_pos hf, jg_uS (fr_fw97 _ hf)]
          · right
            have c1 : jx_3 G f r 92 6 ≠ 1 := by rw [c6, b6', b6, a6]; repeat' split <;> omega
            refine ⟨by omega, ?_⟩
            unfold fo167_87
            rw [if_neg (by decide), if_pos ⟨by omega, by omega⟩, jx_ok ⟨by omega, by omega⟩ ⟨by omega, by omega⟩ c6b c7 c1 rfl, jo_bs, if_pos (by decide)]
            rw [show jx_h (jx_3 G f r) f (4 + 2 * G 95 f + (0 + 1)) = jx_4 G f r by rw [show 4 + 2 * G 95 f + (0 + 1) = 5 + 2 * G 95 f by omega]; rfl]
            unfold fo167_87
            rw [if_pos (by decide), if_pos hf]
