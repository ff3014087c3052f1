/-! AN UNDO: tellUndo() and the midst of undoes() -/
def ju_g (G : jg_G) (r t R key v was p : Int) : jg_G := jg_u (jg_u (jg_u (jg_u (jg_u (jg_u (fr_no G 1 t) 101 r key) 102 r was) 103 r v) 104 r R) 106 (3 * r) p) 105 r 1
theorem ju_g_is {G : jg_G} {N : Nat} {t R key v was p : Int} (h12 : G 92 12 = N) (ht : 0 ≤ t ∧ t < 4) : jc_ch G (ju_g G ((N : Int) + 1) t R key v was p) N 1 t key v p R ∧ jr_b (fr_no G 1 t) (ju_g G ((N : Int) + 1) t R key v was p) ((N : Int) + 1) := by
  have is := fr_no_is (G := G) (w := 1) (t := t) ⟨by omega, ht.2⟩
  have o := fun (n : Nat) (j : Int) => fr_no_o (G := G) (w := 1) (t := t) (n := n) (j := j)
  rw [h12] at is
  simp only [h12] at o
  unfold jc_ch ju_g
  obtain ⟨a, b, c, d, e, f, g, i⟩ := is
  obtain ⟨i1, i2⟩ := i ht.1
  refine ⟨⟨⟨?_, ?_, ?_, ?_, ?_, ?_, ?_, ?_⟩, ⟨?_, fun j hj => ?_⟩, ⟨?_, fun j hj => ?_⟩, fun j => ?_, ?_⟩, fun m j x y z => ?_⟩
  · simp only [jg_u]; simp; exact b
  · simp only [jg_u]; simp; exact c
  · simp only [jg_u]; simp; rw [d, if_neg (by omega)]
  · simp only [jg_u]; simp
  · simp only [jg_u]; simp
  · simp only [jg_u]; simp
  · simp only [jg_u]; simp
  · simp only [jg_u]; simp
  · simp only [jg_u]; simp; exact i1
  · simp only [jg_u]; simp; exact o 108 j (by omega) (by omega) (by omega)
  · simp only [jg_u]; simp; exact i2
  · simp only [jg_u]; simp; exact o 109 j (by omega) (by omega) (by omega)
  · simp only [jg_u]; simp; exact o 112 j (by omega) (by omega) (by omega)
  · simp only [jg_u]; simp; exact o 92 29 (by omega) (by omega) (by omega)
  · simp only [jg_u]
    rw [if_neg (by omega), if_neg (by omega), if_neg (by omega), if_neg (by omega), if_neg (by omega), if_neg (by omega)]
theorem jo_186 {G G0 : jg_G} {N L R : Nat} {t p : Int} {c : jp_C} (hf : fo175 G0 (G0 101 R) = some (G, 0)) (h7 : G 92 7 = 0) (h12 : G 92 12 = N) (hN : N < 1100) (hR : 1 ≤ R ∧ R ≤ N) (ht : -1 ≤ t ∧ t < 4) (h29 : G 92 29 = (L : Int) + 1) (hL : L < 24) (hp : G 112 L = p) (hp0 : 0 ≤ p ∧ p < 24) (hro : 0 ≤ fr_ro G p ∧ fr_ro G p < 54) (hc : jp_r G (fr_ro G p) c) (hw : jp_w c) : ∃ was, fo186 G0 t R = (fo174 (ju_g G ((N : Int) + 1) t R (G 101 R) (G 102 R) was p) ((N : Int) + 1)).bind fun x26 => (fo183 x26.1).bind fun x28 => some (x28.1, 0) := by
  obtain ⟨k, k1, k2⟩ := jr_pl (x := G 101 R) hc hw.1.1 hw.1.2
  refine ⟨if k < c.2.1 ∧ c.2.2.1 k = G 101 R then c.2.2.2 k else -1, ?_⟩
  unfold fo186
  rw [if_pos ⟨by omega, by omega⟩, hf, jo_bs]
  dsimp only
  rw [if_pos h7]
  simp only [h29, show (L : Int) + 1 - 1 = L by omega, hp]
  rw [if_pos ⟨by omega, by omega⟩, if_pos hp0, jo_le, if_pos ⟨by omega, by omega⟩, hc.2.1, if_pos hw.1, jo_le, h12, if_pos ⟨by omega, by omega⟩, if_pos ht, jo_le, if_pos ⟨by omega, by omega⟩, k2]
  have o := fun (n : Nat) (j : Int) => fr_no_o (G := G) (w := 1) (t := t) (n := n) (j := j)
  simp only [h12] at o
  have e101 : (fr_no G (1 : Int) t) 101 R = G 101 R := o 101 R (by omega) (by omega) (by omega)
  have e102 : ∀ a b, (jg_u (jg_u (fr_no G (1 : Int) t) 101 ((N : Int) + 1) a) 102 ((N : Int) + 1) b) 102 R = G 102 R := fun a b => by
    rw [jg_uI (by omega), jg_uN (by decide)]
    exact o 102 R (by omega) (by omega) (by omega)
  by_cases e : k < c.2.1 ∧ c.2.2.1 k = G 101 R
  · rw [if_pos e, if_pos e, if_neg (by have := k1.1.1; omega)]
    have ro : fr_ro (jg_u (fr_no G (1 : Int) t) 101 ((N : Int) + 1) ((fr_no G (1 : Int) t) 101 R)) p = fr_ro G p := by
      have : ∀ f, (jg_u (fr_no G (1 : Int) t) 101 ((N : Int) + 1) ((fr_no G (1 : Int) t) 101 R)) 95 f = G 95 f := fun f => by
        rw [jg_uN (by decide), o 95 f (by omega) (by omega) (by omega)]
      unfold fr_ro fr_fo
      simp only [this]
    have e93 : ∀ j, (fr_no G (1 : Int) t) 93 j = G 93 j := fun j => o 93 j (by omega) (by omega) (by omega)
    have k0 := k1.1.1
    have e1 := e.1
    have w2 := hw.1.2
    rw [jo_le, ro, if_pos ⟨by omega, by omega⟩, if_pos ⟨by omega, by omega⟩, e93, (hc.2.2 k k1.1.1 e.1).2, e101, e102]
    rfl
  · rw [if_neg e, if_neg e, if_pos (by have := k1.1.1; omega), if_pos ⟨by omega, by omega⟩, e101, e102]
    rfl
