/-! runs, read forward: what is to hold at the end of a run that begins here -/
abbrev jb_v (z : Int) : Value := .int (Int32.ofInt z)
def jb_r (z : Int) : Prop := -2147483648 ≤ z ∧ z < 2147483648
def jb_i (σ : ib_H) (n : Nat) (i : Int) : Int := (ib_I σ n i.toNat).toInt
def jb_p (σ : ib_H) (n : Nat) (i : Int) : Nat := ib_P σ n i.toNat
def jb_si (σ : ib_H) (n : Nat) (i z : Int) : ib_H := ib_setI σ n i.toNat (Int32.ofInt z)
def jb_sp (σ : ib_H) (n : Nat) (i : Int) (q : Nat) : ib_H := ib_setP σ n i.toNat q
theorem jb_r_i (σ : ib_H) (n : Nat) (i : Int) : jb_r (jb_i σ n i) := ⟨Int32.le_toInt _, Int32.toInt_lt _⟩
theorem jb_ti {z : Int} (h : jb_r z) : (Int32.ofInt z).toInt = z := Int32.toInt_ofInt_of_le h.1 h.2
theorem jb_v_i (σ : ib_H) (n : Nat) (i : Int) : Int32.ofInt (jb_i σ n i) = ib_I σ n i.toNat := Int32.ofInt_toInt _
theorem jb_nc {z : Int} (h : jb_r z) : (Int32.ofInt z).toNatClampNeg = z.toNat := Int32.toNatClampNeg_ofInt_of_le h.1 h.2
theorem jb_ltI {x y : Int} (hx : jb_r x) (hy : jb_r y) : Int32.ofInt x < Int32.ofInt y ↔ x < y := by rw [Int32.lt_iff_toInt_lt, jb_ti hx, jb_ti hy]
theorem jb_leI {x y : Int} (hx : jb_r x) (hy : jb_r y) : Int32.ofInt x ≤ Int32.ofInt y ↔ x ≤ y := by rw [Int32.le_iff_toInt_le, jb_ti hx, jb_ti hy]
theorem jb_eqI {x y : Int} (hx : jb_r x) (hy : jb_r y) : Int32.ofInt x = Int32.ofInt y ↔ x = y := by rw [← Int32.toInt_inj, jb_ti hx, jb_ti hy]
theorem jb_divI {x y : Int} (hx : 0 ≤ x) (hx2 : jb_r x) (hy : 0 < y) (hy2 : jb_r y) : Int32.ofInt x / Int32.ofInt y = Int32.ofInt (x / y) := by
  have hq : 0 ≤ x / y := Int.ediv_nonneg hx (Int.le_of_lt hy)
  have hq2 : x / y ≤ x := Int.ediv_le_self y hx
  apply Int32.toInt_inj.mp
  rw [jb_ti ⟨by omega, Int.lt_of_le_of_lt hq2 hx2.2⟩, Int32.toInt_div_of_ne_right _ _ (fun h => ?_), jb_ti hx2, jb_ti hy2, Int.tdiv_eq_ediv_of_nonneg hx]
  have := congrArg Int32.toInt h
  rw [jb_ti hy2] at this
  have h3 : (-1 : Int32).toInt = -1 := by decide
  omega
theorem jb_remI {x y : Int} (hx : 0 ≤ x) (hx2 : jb_r x) (hy : 0 < y) (hy2 : jb_r y) : Int32.ofInt x - Int32.ofInt x / Int32.ofInt y * Int32.ofInt y = Int32.ofInt (x % y) := by
  rw [jb_divI hx hx2 hy hy2, ← Int32.ofInt_mul, ← Int32.ofInt_sub]
  congr 1
  have := Int.emod_add_mul_ediv x y
  have h2 : x / y * y = y * (x / y) := Int.mul_comm _ _
  omega
theorem jb_i_si {σ : ib_H} {n m : Nat} {i j z : Int} (hi : 0 ≤ i) (hj : 0 ≤ j) (hz : jb_r z) : jb_i (jb_si σ n i z) m j = if m = n ∧ j = i then z else jb_i σ m j := by
  unfold jb_i jb_si
  show (ib_u (ib_I σ) n i.toNat (Int32.ofInt z) m j.toNat).toInt = _
  unfold ib_u
  by_cases h : m = n ∧ j = i
  · rw [if_pos h, if_pos ⟨h.1, by rw [h.2]⟩, jb_ti hz]
  · rw [if_neg h, if_neg (fun h2 => h ⟨h2.1, by have := h2.2; omega⟩)]
theorem jb_p_si {σ : ib_H} {n m : Nat} {i j z : Int} : jb_p (jb_si σ n i z) m j = jb_p σ m j := rfl
theorem jb_i_sp {σ : ib_H} {n m q : Nat} {i j : Int} : jb_i (jb_sp σ n i q) m j = jb_i σ m j := rfl
theorem jb_p_sp {σ : ib_H} {n m q : Nat} {i j : Int} (hi : 0 ≤ i) (hj : 0 ≤ j) : jb_p (jb_sp σ n i q) m j = if m = n ∧ j = i then q else jb_p σ m j := by
  unfold jb_p jb_sp
  show ib_u (ib_P σ) n i.toNat q m j.toNat = _
  unfold ib_u
  by_cases h : m = n ∧ j = i
  · rw [if_pos h, if_pos ⟨h.1, by rw [h.2]⟩]
  · rw [if_neg h, if_neg (fun h2 => h ⟨h2.1, by have := h2.2; omega⟩)]
/-- runs grow -/
theorem jb_mono {Ms : Nat → Option ib_M} {ks : Nat → Nat → Nat} {fn : Nat → Nat} {ct : Nat → Nat} : ∀ (n k : Nat) {d mi pc : Nat} {ls : ib_Ls} {st : List Value} {σ : ib_H} {o : ib_O}, ib_run Ms ks fn ct n d mi pc ls st σ = some o → ib_run Ms ks fn ct (n + k) d mi pc ls st σ = some o := by
  intro n
  induction n with
  | zero => intro k d mi pc ls st σ o h; cases h
  | succ n ih =>
    intro k d mi pc ls st σ o h
    rw [show n + 1 + k = (n + k) + 1 by omega]
    change ib_one Ms ks fn ct (ib_run Ms ks fn ct n) d mi pc ls st σ = some o at h
    change ib_one Ms ks fn ct (ib_run Ms ks fn ct (n + k)) d mi pc ls st σ = some o
    unfold ib_one at h ⊢
    split at h
    · cases h
    · split at h
      · split at h
        · cases h
        · exact ih k h
        · split at h
          · cases h
          · rename_i hd
            rw [if_neg hd]
            split at h
            · cases h
            · rename_i C hC
              split at h
              · rename_i hck
                rw [if_pos hck]
                split at h
                · cases h
                · rename_i v σ1 hr
                  rw [ih k hr]
                  exact ih k h
                · rename_i kk σ1 hr
                  rw [ih k hr]
                  dsimp only
                  split at h
                  · split at h
                    · exact ih k h
                    · exact ih k h
                    · cases h
                  · exact h
              · cases h
        · exact h
        · exact h
      · cases h
def jb_w (d mi pc : Nat) (ls : ib_Ls) (st : List Value) (σ : ib_H) (Q : ib_O → Prop) : Prop := ∃ n o, ib_run ib_Ms ib_ks ib_fn ib_ct n d mi pc ls st σ = some o ∧ Q o
theorem jb_w_mono {d mi pc : Nat} {ls : ib_Ls} {st : List Value} {σ : ib_H} {Q Q' : ib_O → Prop} (h : jb_w d mi pc ls st σ Q) (hq : ∀ o, Q o → Q' o) : jb_w d mi pc ls st σ Q' := by
  obtain ⟨n, o, h1, h2⟩ := h
  exact ⟨n, o, h1, hq o h2⟩
/-- behind a call: its end, and what follows -/
def jb_k (d mi pc : Nat) (ls : ib_Ls) (st : List Value) (Q : ib_O → Prop) (o : ib_O) : Prop := match o.1 with
  | .inl v => jb_w d mi (pc + 3) ls (v.toList ++ st) o.2 Q
  | .inr k => Q (.inr k, o.2)
section JbW
variable {d mi pc : Nat} {ls : ib_Ls} {st : List Value} {σ : ib_H} {Q : ib_O → Prop} {M : ib_M}
theorem jb_step {q : ib_A} {x : Nat × ib_Ls × List Value × ib_H} (hM : ib_Ms mi = some M) (hq : M.2.2.2.2.2[pc]? = some (some q)) (hx : ib_at ib_ks ib_fn q pc ls st σ = some (.inl x)) (h : jb_w d mi x.1 x.2.1 x.2.2.1 x.2.2.2 Q) : jb_w d mi pc ls st σ Q := by
  obtain ⟨n, o, h1, h2⟩ := h
  refine ⟨n + 1, o, ?_, h2⟩
  show ib_one _ _ _ _ _ d mi pc ls st σ = _
  unfold ib_one
  rw [hM]
  dsimp only
  rw [hq]
  dsimp only
  rw [hx]
  exact h1
theorem jb_end {q : ib_A} {v : Option Value} (hM : ib_Ms mi = some M) (hq : M.2.2.2.2.2[pc]? = some (some q)) (hx : ib_at ib_ks ib_fn q pc ls st σ = some (.inr (.inr (.inl v)))) (h : Q (.inl v, σ)) : jb_w d mi pc ls st σ Q := by
  refine ⟨1, _, ?_, h⟩
  show ib_one _ _ _ _ _ d mi pc ls st σ = _
  unfold ib_one
  rw [hM]
  dsimp only
  rw [hq]
  dsimp only
  rw [hx]
theorem jb_throw {idx k a2 a3 a4 : Nat} (hM : ib_Ms mi = some M) (hq : M.2.2.2.2.2[pc]? = some (some (.new idx, 100 + k, a2, a3, a4))) (hs : st = []) (hd : 6 ≤ d) (h : Q (.inr k, ib_cost σ 1 6)) : jb_w d mi pc ls st σ Q := by
  refine ⟨1, _, ?_, h⟩
  show ib_one _ _ _ _ _ d mi pc ls st σ = _
  unfold ib_one
  rw [hM]
  dsimp only
  rw [hq]
  dsimp only
  have : ib_at ib_ks ib_fn (.new idx, 100 + k, a2, a3, a4) pc ls st σ = some (.inr (.inr (.inr k))) := by
    subst hs
    simp only [ib_at]
    rw [if_pos (by omega), if_pos (show ([] : List Value).isEmpty = true from rfl), Nat.add_sub_cancel_left]
  rw [this]
  dsimp only
  rw [if_pos hd]
theorem jb_call {q : ib_A} {c : Nat × List Value × List Value} {C : ib_M} (hM : ib_Ms mi = some M) (hq : M.2.2.2.2.2[pc]? = some (some q)) (hx : ib_at ib_ks ib_fn q pc ls st σ = some (.inr (.inl c))) (hh : M.2.2.2.2.1 = []) (hC : ib_Ms c.1 = some C) (hck : (c.2.1.all ib_cat1 && decide (c.2.1.length ≤ C.2.2.1) && decide (c.2.2.length ≤ 4)) = true) (h : jb_w d c.1 0 (ib_ent C.2.2.1 c.2.1) [] σ (jb_k (d + 1) mi pc ls c.2.2 Q)) : jb_w (d + 1) mi pc ls st σ Q := by
  obtain ⟨n1, o1, h1, h2⟩ := h
  have key : ∀ n o, (ib_one ib_Ms ib_ks ib_fn ib_ct (ib_run ib_Ms ib_ks ib_fn ib_ct n) (d + 1) mi pc ls st σ = some o) → ib_run ib_Ms ib_ks ib_fn ib_ct (n + 1) (d + 1) mi pc ls st σ = some o := fun n o h => h
  obtain ⟨o1, σ1⟩ := o1
  cases o1 with
  | inl v =>
    obtain ⟨n2, o2, h3, h4⟩ := h2
    refine ⟨n1 + n2 + 1, o2, key _ _ ?_, h4⟩
    unfold ib_one
    rw [hM]
    dsimp only
    rw [hq]
    dsimp only
    rw [hx]
    dsimp only
    rw [if_neg (Nat.succ_ne_zero d), hC]
    dsimp only
    rw [if_pos hck, Nat.add_sub_cancel, jb_mono n1 n2 h1]
    dsimp only
    have := jb_mono n2 n1 h3
    rw [Nat.add_comm n2 n1] at this
    exact this
  | inr k =>
    refine ⟨n1 + 1, _, key _ _ ?_, h2⟩
    unfold ib_one
    rw [hM]
    dsimp only
    rw [hq]
    dsimp only
    rw [hx]
    dsimp only
    rw [if_neg (Nat.succ_ne_zero d), hC]
    dsimp only
    rw [if_pos hck, Nat.add_sub_cancel, h1]
    dsimp only
    rw [hh]
    rfl
end JbW
