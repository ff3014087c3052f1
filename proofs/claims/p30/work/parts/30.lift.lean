/-! the reference's ints as a function: G n i is the i-th int of the thing n, for the names 92 to 118 -/
abbrev jg_G : Type := Nat → Int → Int
def jg_u (G : jg_G) (n : Nat) (i v : Int) : jg_G := fun m j => if m = n ∧ j = i then v else G m j
def jg_ref (σ : ib_H) : jg_G := fun n i => if 92 ≤ n ∧ n < 98 ∧ 0 ≤ i then jb_i σ n i else 0
def jg_same (σ σ' : ib_H) : Prop := σ'.1 = σ.1 ∧ σ'.2.1 = σ.2.1 ∧ σ'.2.2.2 = σ.2.2.2 ∧ ∀ n, (n < 92 ∨ 98 ≤ n) → σ'.2.2.1 n = σ.2.2.1 n
def jg_S (σ0 : ib_H) (G : jg_G) (σ : ib_H) : Prop := jb_F σ ∧ jg_ref σ = G ∧ jg_same σ0 σ
def jg_W (σ0 : ib_H) (G : jg_G) (d mi pc : Nat) (ls : ib_Ls) (st : List Value) (Q : ib_O → Prop) : Prop := ∀ σ, jg_S σ0 G σ → jb_w d mi pc ls st σ Q
def jg_E (σ0 : ib_H) (G : jg_G) (v : Option Value) (Q : ib_O → Prop) : Prop := ∀ σ, jg_S σ0 G σ → Q (.inl v, σ)
def jb_m (z : Int) : Int := (Int32.ofInt z).toInt
theorem jb_m_v (z : Int) : jb_v (jb_m z) = jb_v z := congrArg Value.int (Int32.ofInt_toInt _)
theorem jb_m_r (z : Int) : jb_r (jb_m z) := ⟨Int32.le_toInt _, Int32.toInt_lt _⟩
theorem jb_m_e {z : Int} (h : jb_r z) : jb_m z = z := jb_ti h
theorem jb_m_add (x y : Int) : jb_m (jb_m x + y) = jb_m (x + y) := by
  unfold jb_m
  rw [Int32.ofInt_add, Int32.ofInt_toInt, Int32.ofInt_add]
theorem jg_S.r {σ0 σ : ib_H} {G : jg_G} (s : jg_S σ0 G σ) (n : Nat) (i : Int) : jb_r (G n i) := by
  rw [← s.2.1]
  unfold jg_ref
  split
  · exact jb_r_i _ _ _
  · exact ⟨by decide, by decide⟩
theorem jg_S.g {σ0 σ : ib_H} {G : jg_G} (s : jg_S σ0 G σ) {n : Nat} {i : Int} (hn : 92 ≤ n ∧ n < 98) (hi : 0 ≤ i) : jb_i σ n i = G n i := by
  rw [← s.2.1]
  unfold jg_ref
  rw [if_pos ⟨hn.1, hn.2, hi⟩]
theorem jb_F_si {σ : ib_H} {n : Nat} {i z : Int} (h : jb_F σ) : jb_F (jb_si σ n i z) := h
theorem jg_S.u {σ0 σ : ib_H} {G : jg_G} (s : jg_S σ0 G σ) {n : Nat} {i z : Int} (hn : 92 ≤ n ∧ n < 98) (hi : 0 ≤ i) (hz : jb_r z) : jg_S σ0 (jg_u G n i z) (jb_si σ n i z) := by
  refine ⟨s.1, ?_, s.2.2.1, s.2.2.2.1, s.2.2.2.2.1, fun m hm => ?_⟩
  · funext m j
    unfold jg_ref jg_u
    rw [← s.2.1]
    unfold jg_ref
    by_cases h : 92 ≤ m ∧ m < 98 ∧ 0 ≤ j
    · rw [if_pos h, if_pos h, jb_i_si hi h.2.2 hz]
    · rw [if_neg h, if_neg h, if_neg]
      intro e
      exact h ⟨by omega, by omega, by omega⟩
  · rw [← s.2.2.2.2.2 m hm]
    funext k
    show ib_u (ib_I σ) n i.toNat (Int32.ofInt z) m k = ib_I σ m k
    unfold ib_u
    rw [if_neg]
    intro e
    omega
theorem jg_S.um {σ0 σ : ib_H} {G : jg_G} (s : jg_S σ0 G σ) {n : Nat} {i z : Int} (hn : 92 ≤ n ∧ n < 98) (hi : 0 ≤ i) : jg_S σ0 (jg_u G n i (jb_m z)) (jb_si σ n i z) := by
  have := s.u (n := n) (i := i) (z := jb_m z) hn hi (jb_m_r z)
  have e : jb_si σ n i (jb_m z) = jb_si σ n i z := by
    unfold jb_si
    rw [show Int32.ofInt (jb_m z) = Int32.ofInt z from Int32.ofInt_toInt _]
  rw [e] at this
  exact this
theorem jg_uN {G : jg_G} {n m : Nat} {i j v : Int} (h : m ≠ n) : jg_u G n i v m j = G m j := if_neg (fun z => h z.1)
theorem jg_uI {G : jg_G} {n : Nat} {i j v : Int} (h : j ≠ i) : jg_u G n i v n j = G n j := if_neg (fun z => h z.2)
theorem jg_uH {G : jg_G} {n : Nat} {i v : Int} : jg_u G n i v n i = v := if_pos ⟨rfl, rfl⟩
section JgI
variable {d mi pc : Nat} {ls : ib_Ls} {st r : List Value} {σ0 σ : ib_H} {G : jg_G} {Q : ib_O → Prop} {M : ib_M} {a1 a2 a3 a4 : Nat}
theorem jg_getI {idx n : Nat} {i v : Int} {p : Nat} (hpc : pc + 3 = p) (hM : ib_Ms mi = some M) (hq : M.2.2.2.2.2[pc]? = some (some (.getfield idx, a1, a2, a3, a4))) (hi : i.toNat = a2) (ho : jb_ob σ a1 n) (hk : ib_ks a1 a2 ≠ 2) (s : jg_S σ0 G σ) (hn : 92 ≤ n ∧ n < 98) (h0 : 0 ≤ i) (hv : G n i = v) (h : jb_w d mi p ls (jb_v v :: r) σ Q) : jb_w d mi pc ls (.ref n :: r) σ Q :=
  jw_getI hpc hM hq hi ho hk (by rw [s.g hn h0, hv]; exact h)
theorem jg_putI {idx n : Nat} {i x : Int} {p : Nat} (hpc : pc + 3 = p) (hM : ib_Ms mi = some M) (hq : M.2.2.2.2.2[pc]? = some (some (.putfield idx, a1, a2, a3, a4))) (hi : i.toNat = a2) (ho : jb_ob σ a1 n) (hk : ib_ks a1 a2 = 0 ∨ (ib_ks a1 a2 = 1 ∧ (x = 0 ∨ x = 1))) (s : jg_S σ0 G σ) (hn : 92 ≤ n ∧ n < 98) (h0 : 0 ≤ i) (hx : jb_r x) (h : jg_W σ0 (jg_u G n i x) d mi p ls r Q) : jb_w d mi pc ls (jb_v x :: .ref n :: r) σ Q :=
  jw_putI hpc hM hq hi ho hk (h _ (s.u hn h0 hx))
theorem jg_putM {idx n : Nat} {i x : Int} {p : Nat} (hpc : pc + 3 = p) (hM : ib_Ms mi = some M) (hq : M.2.2.2.2.2[pc]? = some (some (.putfield idx, a1, a2, a3, a4))) (hi : i.toNat = a2) (ho : jb_ob σ a1 n) (hk : ib_ks a1 a2 = 0 ∨ (ib_ks a1 a2 = 1 ∧ (x = 0 ∨ x = 1))) (s : jg_S σ0 G σ) (hn : 92 ≤ n ∧ n < 98) (h0 : 0 ≤ i) (h : jg_W σ0 (jg_u G n i (jb_m x)) d mi p ls r Q) : jb_w d mi pc ls (jb_v x :: .ref n :: r) σ Q :=
  jw_putI hpc hM hq hi ho hk (h _ (s.um hn h0))
theorem jg_iald {n len : Nat} {i v : Int} {p : Nat} (hpc : pc + 1 = p) (hM : ib_Ms mi = some M) (hq : M.2.2.2.2.2[pc]? = some (some (.iaload, a1, a2, a3, a4))) (ha : jb_arr σ 100 n len) (h0 : 0 ≤ i) (h1 : i < len) (s : jg_S σ0 G σ) (hn : 92 ≤ n ∧ n < 98) (hv : G n i = v) (h : jb_w d mi p ls (jb_v v :: r) σ Q) : jb_w d mi pc ls (jb_v i :: .ref n :: r) σ Q :=
  jw_iald hpc hM hq ha h0 h1 (by rw [s.g hn h0, hv]; exact h)
theorem jg_bald {n len : Nat} {i v : Int} {p : Nat} (hpc : pc + 1 = p) (hM : ib_Ms mi = some M) (hq : M.2.2.2.2.2[pc]? = some (some (.baload, a1, a2, a3, a4))) (ha : jb_arr σ 101 n len) (h0 : 0 ≤ i) (h1 : i < len) (s : jg_S σ0 G σ) (hn : 92 ≤ n ∧ n < 98) (hv : G n i = v) (h : jb_w d mi p ls (jb_v v :: r) σ Q) : jb_w d mi pc ls (jb_v i :: .ref n :: r) σ Q :=
  jw_bald hpc hM hq ha h0 h1 (by rw [s.g hn h0, hv]; exact h)
theorem jg_iast {n len : Nat} {i x : Int} {p : Nat} (hpc : pc + 1 = p) (hM : ib_Ms mi = some M) (hq : M.2.2.2.2.2[pc]? = some (some (.iastore, a1, a2, a3, a4))) (ha : jb_arr σ 100 n len) (h0 : 0 ≤ i) (h1 : i < len) (s : jg_S σ0 G σ) (hn : 92 ≤ n ∧ n < 98) (hx : jb_r x) (h : jg_W σ0 (jg_u G n i x) d mi p ls r Q) : jb_w d mi pc ls (jb_v x :: jb_v i :: .ref n :: r) σ Q :=
  jw_iast hpc hM hq ha h0 h1 (h _ (s.u hn h0 hx))
theorem jg_iasM {n len : Nat} {i x : Int} {p : Nat} (hpc : pc + 1 = p) (hM : ib_Ms mi = some M) (hq : M.2.2.2.2.2[pc]? = some (some (.iastore, a1, a2, a3, a4))) (ha : jb_arr σ 100 n len) (h0 : 0 ≤ i) (h1 : i < len) (s : jg_S σ0 G σ) (hn : 92 ≤ n ∧ n < 98) (h : jg_W σ0 (jg_u G n i (jb_m x)) d mi p ls r Q) : jb_w d mi pc ls (jb_v x :: jb_v i :: .ref n :: r) σ Q :=
  jw_iast hpc hM hq ha h0 h1 (h _ (s.um hn h0))
theorem jg_bast {n len : Nat} {i x : Int} {p : Nat} (hpc : pc + 1 = p) (hM : ib_Ms mi = some M) (hq : M.2.2.2.2.2[pc]? = some (some (.bastore, a1, a2, a3, a4))) (ha : jb_arr σ 101 n len) (h0 : 0 ≤ i) (h1 : i < len) (hx : x = 0 ∨ x = 1) (s : jg_S σ0 G σ) (hn : 92 ≤ n ∧ n < 98) (h : jg_W σ0 (jg_u G n i x) d mi p ls r Q) : jb_w d mi pc ls (jb_v x :: jb_v i :: .ref n :: r) σ Q :=
  jw_bast hpc hM hq ha h0 h1 hx (h _ (s.u hn h0 (by rcases hx with rfl | rfl <;> exact ⟨by decide, by decide⟩)))
end JgI
theorem jg_Wk {σ0 : ib_H} {G : jg_G} {d mi pc : Nat} {ls : ib_Ls} {st : List Value} {Q : ib_O → Prop} {v : Option Value} (h : jg_W σ0 G d mi (pc + 3) ls (v.toList ++ st) Q) : jg_E σ0 G v (jb_k d mi pc ls st Q) := h
