/-! the class's things as functions: the counts, the shapes, ints and pointers -/
abbrev jc_K : Type := (Nat × Nat × Nat) × (Nat → Nat × Nat) × jg_G × (Nat → Int → Nat)
abbrev jc_i (K : jc_K) : jg_G := K.2.2.1
abbrev jc_p (K : jc_K) : Nat → Int → Nat := K.2.2.2
def jc_ui (K : jc_K) (n : Nat) (i v : Int) : jc_K := (K.1, K.2.1, jg_u K.2.2.1 n i v, K.2.2.2)
def jc_up (K : jc_K) (n : Nat) (i : Int) (q : Nat) : jc_K := (K.1, K.2.1, K.2.2.1, fun m j => if m = n ∧ j = i then q else K.2.2.2 m j)
def jc_cost (K : jc_K) (k n : Nat) : jc_K := ((K.1.1, K.1.2.1 + k, K.1.2.2 + n), K.2)
def jc_new (K : jc_K) (t len sl : Nat) : jc_K := ((K.1.1 + 1, K.1.2.1 + 1, K.1.2.2 + sl), (fun a => if a = K.1.1 then (t, len) else K.2.1 a), (fun n i => if n = K.1.1 then 0 else K.2.2.1 n i), fun n i => if n = K.1.1 then 0 else K.2.2.2 n i)
abbrev jc_dom (n : Nat) : Prop := (2 ≤ n ∧ n < 92) ∨ 98 ≤ n
def jc_view (σ : ib_H) : jc_K := (σ.1, σ.2.1, (fun n i => if ((2 ≤ n ∧ n < 92) ∨ 98 ≤ n) ∧ 0 ≤ i then jb_i σ n i else 0), fun n i => if 0 ≤ i then jb_p σ n i else 0)
def jc_S (σ0 : ib_H) (K : jc_K) (σ : ib_H) : Prop := jb_F σ ∧ jc_view σ = K ∧ (∀ n, (n < 2 ∨ (92 ≤ n ∧ n < 98)) → ib_I σ n = ib_I σ0 n) ∧ (∀ n, n < 98 → ib_L σ n = ib_L σ0 n) ∧ ib_sh σ 1 = ib_sh σ0 1
def jc_W (σ0 : ib_H) (K : jc_K) (d mi pc : Nat) (ls : ib_Ls) (st : List Value) (Q : ib_O → Prop) : Prop := ∀ σ, jc_S σ0 K σ → jb_w d mi pc ls st σ Q
abbrev jc_pg (K : jc_K) (p : Nat) : Prop := (2 ≤ p ∧ p + 1 < K.1.1) ∧ (K.2.1 p = (4, 0) ∧ K.2.1 (p + 1) = (100, 32)) ∧ (K.2.2.2 p 3 = p + 1 ∧ (p + 1 < 92 ∨ 98 ≤ p))
abbrev jc_rc (K : jc_K) (p : Nat) : Prop := (98 ≤ p ∧ p + 2 < K.1.1) ∧ (K.2.1 p = (3, 0) ∧ K.2.1 (p + 1) = (100, 3) ∧ K.2.1 (p + 2) = (103, 3)) ∧ K.2.2.2 p 9 = p + 1 ∧ K.2.2.2 p 10 = p + 2
abbrev jc_ta (K : jc_K) (q len : Nat) : Prop := 98 ≤ q ∧ q < K.1.1 ∧ K.2.1 q = (100, len)
section JcS
variable {σ0 σ : ib_H} {K : jc_K}
theorem jc_S.r (s : jc_S σ0 K σ) (n : Nat) (i : Int) : jb_r (jc_i K n i) := by
  rw [← s.2.1]
  show jb_r (if ((2 ≤ n ∧ n < 92) ∨ 98 ≤ n) ∧ 0 ≤ i then jb_i σ n i else 0)
  split
  · exact jb_r_i _ _ _
  · exact ⟨by decide, by decide⟩
theorem jc_S.g (s : jc_S σ0 K σ) {n : Nat} {i : Int} (hn : jc_dom n) (hi : 0 ≤ i) : jb_i σ n i = jc_i K n i := by
  rw [← s.2.1]
  exact (if_pos ⟨hn, hi⟩).symm
theorem jc_S.p (s : jc_S σ0 K σ) {n : Nat} {i : Int} (hi : 0 ≤ i) : jb_p σ n i = jc_p K n i := by
  rw [← s.2.1]
  exact (if_pos hi).symm
theorem jc_S.nx (s : jc_S σ0 K σ) : ib_nx σ = K.1.1 := by
  rw [← s.2.1]
  rfl
theorem jc_S.sh (s : jc_S σ0 K σ) (n : Nat) : ib_sh σ n = K.2.1 n := by
  rw [← s.2.1]
  rfl
theorem jc_S.pg (s : jc_S σ0 K σ) {p : Nat} (h : jc_pg K p) : jb_pg σ p := by
  obtain ⟨⟨h1, h2⟩, ⟨h3, h4⟩, h5, h6⟩ := h
  refine ⟨h1, by rw [s.nx]; exact h2, by rw [s.sh]; exact h3, by rw [s.sh]; exact h4, ?_⟩
  exact (s.p (n := p) (i := 3) (by decide)).trans h5
theorem jc_S.rc (s : jc_S σ0 K σ) {p : Nat} (h : jc_rc K p) : jb_rc σ p := by
  obtain ⟨⟨h1, h2⟩, ⟨h3, h4, h5⟩, h6, h7⟩ := h
  refine ⟨Nat.le_trans (by decide) h1, by rw [s.nx]; exact h2, by rw [s.sh]; exact h3, by rw [s.sh]; exact h4, by rw [s.sh]; exact h5, ?_, ?_⟩
  · exact (s.p (n := p) (i := 9) (by decide)).trans h6
  · exact (s.p (n := p) (i := 10) (by decide)).trans h7
theorem jc_S.ta (s : jc_S σ0 K σ) {q len : Nat} (h : jc_ta K q len) (hl : len < 2147483648) : jb_arr σ 100 q len := ⟨Nat.le_trans (by decide) h.1, by rw [s.nx]; exact h.2.1, by rw [s.sh]; exact h.2.2, hl⟩
theorem jc_pgd {p : Nat} (h : jc_pg K p) : jc_dom p := by
  obtain ⟨⟨h1, h2⟩, _, _, h6⟩ := h
  omega
theorem jc_pgd1 {p : Nat} (h : jc_pg K p) : jc_dom (p + 1) := by
  obtain ⟨⟨h1, h2⟩, _, _, h6⟩ := h
  omega
theorem jc_rcd {p : Nat} (h : jc_rc K p) : jc_dom p := Or.inr h.1.1
theorem jc_rcd1 {p : Nat} (h : jc_rc K p) : jc_dom (p + 1) := Or.inr (Nat.le_succ_of_le h.1.1)
theorem jc_tad {p len : Nat} (h : jc_ta K p len) : jc_dom p := Or.inr h.1
theorem jc_fd {i : Int} (h0 : 0 ≤ i) (h1 : i < 24) : jc_dom (9 + 2 * Int.toNat i) := by omega
theorem jc_fd1 {i : Int} (h0 : 0 ≤ i) (h1 : i < 24) : jc_dom (9 + 2 * Int.toNat i + 1) := by omega
theorem jc_ff {i : Int} (h0 : 0 ≤ i) (h1 : i < 4) : jc_dom (71 + 2 * Int.toNat i) := by omega
theorem jc_ff1 {i : Int} (h0 : 0 ≤ i) (h1 : i < 4) : jc_dom (71 + 2 * Int.toNat i + 1) := by omega
theorem jc_S.u (s : jc_S σ0 K σ) {n : Nat} {i z : Int} (hn : jc_dom n) (hi : 0 ≤ i) (hz : jb_r z) : jc_S σ0 (jc_ui K n i z) (jb_si σ n i z) := by
  refine ⟨s.1, ?_, fun m hm => ?_, s.2.2.2⟩
  · rw [← s.2.1]
    refine Prod.ext rfl (Prod.ext rfl (Prod.ext ?_ rfl))
    funext m j
    show (if _ then jb_i (jb_si σ n i z) m j else 0) = (if m = n ∧ j = i then z else (if _ then jb_i σ m j else 0))
    by_cases h : ((2 ≤ m ∧ m < 92) ∨ 98 ≤ m) ∧ 0 ≤ j
    · rw [if_pos h, if_pos h, jb_i_si hi h.2 hz]
    · rw [if_neg h, if_neg h, if_neg]
      intro e
      exact h ⟨by rw [e.1]; exact hn, by omega⟩
  · rw [← s.2.2.1 m hm]
    funext k
    show ib_u (ib_I σ) n i.toNat (Int32.ofInt z) m k = ib_I σ m k
    unfold ib_u
    rw [if_neg]
    intro e
    omega
theorem jc_S.um (s : jc_S σ0 K σ) {n : Nat} {i z : Int} (hn : jc_dom n) (hi : 0 ≤ i) : jc_S σ0 (jc_ui K n i (jb_m z)) (jb_si σ n i z) := by
  have := s.u (n := n) (i := i) (z := jb_m z) hn hi (jb_m_r z)
  have e : jb_si σ n i (jb_m z) = jb_si σ n i z := by
    unfold jb_si
    rw [show Int32.ofInt (jb_m z) = Int32.ofInt z from Int32.ofInt_toInt _]
  rw [e] at this
  exact this
theorem fx_pl_len : fx_pl.length = 98 := by decide +kernel
theorem fx_p_lt {n k q : Nat} (h : fx_p n k = some q) : n < 98 := by
  by_cases c : n < 98
  · exact c
  · unfold fx_p at h
    rw [List.getD_eq_getElem?_getD, List.getD_eq_getElem?_getD, List.getElem?_eq_none (l := fx_pl) (by rw [fx_pl_len]; omega)] at h
    cases h
theorem jc_F_sp {n q : Nat} {i : Int} (h : jb_F σ) (hn : n = 64 ∨ 98 ≤ n) : jb_F (jb_sp σ n i q) := by
  rcases hn with rfl | hn
  · exact jb_F64 h
  · refine ⟨h.1, h.2.1, fun m k q9 hq => ?_⟩
    show ib_u (ib_P σ) n i.toNat q m k = q9
    unfold ib_u
    rw [if_neg]
    · exact h.2.2 m k q9 hq
    · intro e
      have := fx_p_lt hq
      omega
theorem jc_S.up (s : jc_S σ0 K σ) {n q : Nat} {i : Int} (hn : n = 64 ∨ 98 ≤ n) (hi : 0 ≤ i) : jc_S σ0 (jc_up K n i q) (jb_sp σ n i q) := by
  refine ⟨jc_F_sp s.1 hn, ?_, s.2.2.1, s.2.2.2⟩
  rw [← s.2.1]
  refine Prod.ext rfl (Prod.ext rfl (Prod.ext rfl ?_))
  funext m j
  show (if 0 ≤ j then jb_p (jb_sp σ n i q) m j else 0) = (if m = n ∧ j = i then q else (if 0 ≤ j then jb_p σ m j else 0))
  by_cases h : 0 ≤ j
  · rw [if_pos h, if_pos h, jb_p_sp hi h]
  · rw [if_neg h, if_neg h, if_neg]
    intro e
    exact h (by omega)
theorem jc_S.cost (s : jc_S σ0 K σ) (k n : Nat) : jc_S σ0 (jc_cost K k n) (ib_cost σ k n) := by
  refine ⟨s.1, ?_, s.2.2.1, s.2.2.2⟩
  rw [← s.2.1]
  rfl
theorem jc_S.new (s : jc_S σ0 K σ) (t len sl : Nat) : jc_S σ0 (jc_new K t len sl) (ib_new σ t len sl) := by
  have h120 := s.1.1
  refine ⟨⟨Nat.le_succ_of_le h120, fun n h2 hn => ?_, fun n k q hq => ?_⟩, ?_, fun n hn => ?_, fun n hn => ?_, ?_⟩
  · show (if n = ib_nx σ then (t, len) else ib_sh σ n) = _
    rw [if_neg (by omega)]
    exact s.1.2.1 n h2 hn
  · have := fx_p_lt hq
    show ib_z (ib_P σ) (ib_nx σ) 0 n k = q
    unfold ib_z
    rw [if_neg (by omega)]
    exact s.1.2.2 n k q hq
  · rw [← s.2.1]
    unfold jc_view jc_new
    refine Prod.ext rfl (Prod.ext rfl (Prod.ext ?_ ?_))
    · funext n i
      show (if _ then jb_i (ib_new σ t len sl) n i else 0) = (if n = ib_nx σ then 0 else (if _ then jb_i σ n i else 0))
      by_cases e : n = ib_nx σ
      · rw [if_pos e]
        split
        · subst e
          show (ib_z (ib_I σ) (ib_nx σ) 0 (ib_nx σ) i.toNat).toInt = 0
          unfold ib_z
          rw [if_pos rfl]
          rfl
        · rfl
      · rw [if_neg e]
        have : jb_i (ib_new σ t len sl) n i = jb_i σ n i := by
          show (ib_z (ib_I σ) (ib_nx σ) 0 n i.toNat).toInt = _
          unfold ib_z
          rw [if_neg e]
          rfl
        rw [this]
    · funext n i
      show (if 0 ≤ i then jb_p (ib_new σ t len sl) n i else 0) = (if n = ib_nx σ then 0 else (if 0 ≤ i then jb_p σ n i else 0))
      by_cases e : n = ib_nx σ
      · rw [if_pos e]
        split
        · subst e
          show ib_z (ib_P σ) (ib_nx σ) 0 (ib_nx σ) i.toNat = 0
          unfold ib_z
          rw [if_pos rfl]
        · rfl
      · rw [if_neg e]
        have : jb_p (ib_new σ t len sl) n i = jb_p σ n i := by
          show ib_z (ib_P σ) (ib_nx σ) 0 n i.toNat = _
          unfold ib_z
          rw [if_neg e]
          rfl
        rw [this]
  · rw [← s.2.2.1 n hn]
    funext k
    show ib_z (ib_I σ) (ib_nx σ) 0 n k = _
    unfold ib_z
    rw [if_neg (by omega)]
  · rw [← s.2.2.2.1 n hn]
    funext k
    show ib_z (ib_L σ) (ib_nx σ) 0 n k = _
    unfold ib_z
    rw [if_neg (by omega)]
  · rw [← s.2.2.2.2]
    show (if 1 = ib_nx σ then (t, len) else ib_sh σ 1) = _
    rw [if_neg (by omega)]
end JcS
theorem jc_uN {K : jc_K} {n m : Nat} {i j v : Int} (h : m ≠ n) : jc_i (jc_ui K n i v) m j = jc_i K m j := if_neg (fun z => h z.1)
theorem jc_uI {K : jc_K} {n : Nat} {i j v : Int} (h : j ≠ i) : jc_i (jc_ui K n i v) n j = jc_i K n j := if_neg (fun z => h z.2)
theorem jc_uH {K : jc_K} {n : Nat} {i v : Int} : jc_i (jc_ui K n i v) n i = v := if_pos ⟨rfl, rfl⟩
theorem jc_uP {K : jc_K} {n m q : Nat} {i j : Int} : jc_i (jc_up K n i q) m j = jc_i K m j := rfl
theorem jc_pN {K : jc_K} {n m : Nat} {i j v : Int} : jc_p (jc_ui K n i v) m j = jc_p K m j := rfl
section JcI
variable {d mi pc : Nat} {ls : ib_Ls} {st r : List Value} {σ0 σ : ib_H} {K : jc_K} {Q : ib_O → Prop} {M : ib_M} {a1 a2 a3 a4 : Nat}
theorem jc_getI {idx n : Nat} {i v : Int} {p : Nat} (hpc : pc + 3 = p) (hM : ib_Ms mi = some M) (hq : M.2.2.2.2.2[pc]? = some (some (.getfield idx, a1, a2, a3, a4))) (hi : i.toNat = a2) (ho : jb_ob σ a1 n) (hk : ib_ks a1 a2 ≠ 2) (s : jc_S σ0 K σ) (hn : jc_dom n) (h0 : 0 ≤ i) (hv : jc_i K n i = v) (h : jb_w d mi p ls (jb_v v :: r) σ Q) : jb_w d mi pc ls (.ref n :: r) σ Q :=
  jw_getI hpc hM hq hi ho hk (by rw [s.g hn h0, hv]; exact h)
theorem jc_getP {idx n q : Nat} {i : Int} {p : Nat} (hpc : pc + 3 = p) (hM : ib_Ms mi = some M) (hq : M.2.2.2.2.2[pc]? = some (some (.getfield idx, a1, a2, a3, a4))) (hi : i.toNat = a2) (ho : jb_ob σ a1 n) (hk : ib_ks a1 a2 = 2) (s : jc_S σ0 K σ) (h0 : 0 ≤ i) (hv : jc_p K n i = q) (h : jb_w d mi p ls (.ref q :: r) σ Q) : jb_w d mi pc ls (.ref n :: r) σ Q :=
  jw_getP hpc hM hq hi ho hk (by rw [s.p h0, hv]) h
theorem jc_putI {idx n : Nat} {i x : Int} {p : Nat} (hpc : pc + 3 = p) (hM : ib_Ms mi = some M) (hq : M.2.2.2.2.2[pc]? = some (some (.putfield idx, a1, a2, a3, a4))) (hi : i.toNat = a2) (ho : jb_ob σ a1 n) (hk : ib_ks a1 a2 = 0 ∨ (ib_ks a1 a2 = 1 ∧ (x = 0 ∨ x = 1))) (s : jc_S σ0 K σ) (hn : jc_dom n) (h0 : 0 ≤ i) (hx : jb_r x) (h : jc_W σ0 (jc_ui K n i x) d mi p ls r Q) : jb_w d mi pc ls (jb_v x :: .ref n :: r) σ Q :=
  jw_putI hpc hM hq hi ho hk (h _ (s.u hn h0 hx))
theorem jc_putM {idx n : Nat} {i x : Int} {p : Nat} (hpc : pc + 3 = p) (hM : ib_Ms mi = some M) (hq : M.2.2.2.2.2[pc]? = some (some (.putfield idx, a1, a2, a3, a4))) (hi : i.toNat = a2) (ho : jb_ob σ a1 n) (hk : ib_ks a1 a2 = 0 ∨ (ib_ks a1 a2 = 1 ∧ (x = 0 ∨ x = 1))) (s : jc_S σ0 K σ) (hn : jc_dom n) (h0 : 0 ≤ i) (h : jc_W σ0 (jc_ui K n i (jb_m x)) d mi p ls r Q) : jb_w d mi pc ls (jb_v x :: .ref n :: r) σ Q :=
  jw_putI hpc hM hq hi ho hk (h _ (s.um hn h0))
theorem jc_putP {idx n q : Nat} {i : Int} {p : Nat} (hpc : pc + 3 = p) (hM : ib_Ms mi = some M) (hq : M.2.2.2.2.2[pc]? = some (some (.putfield idx, a1, a2, a3, a4))) (hi : i.toNat = a2) (ho : jb_ob σ a1 n) (hk : ib_ks a1 a2 = 2) (hq1 : q ≠ 1) (s : jc_S σ0 K σ) (hn : n = 64 ∨ 98 ≤ n) (h0 : 0 ≤ i) (h : jc_W σ0 (jc_up K n i q) d mi p ls r Q) : jb_w d mi pc ls (.ref q :: .ref n :: r) σ Q :=
  jw_putP hpc hM hq hi ho hk hq1 (h _ (s.up hn h0))
theorem jc_iald {n len : Nat} {i v : Int} {p : Nat} (hpc : pc + 1 = p) (hM : ib_Ms mi = some M) (hq : M.2.2.2.2.2[pc]? = some (some (.iaload, a1, a2, a3, a4))) (ha : jb_arr σ 100 n len) (h0 : 0 ≤ i) (h1 : i < len) (s : jc_S σ0 K σ) (hn : jc_dom n) (hv : jc_i K n i = v) (h : jb_w d mi p ls (jb_v v :: r) σ Q) : jb_w d mi pc ls (jb_v i :: .ref n :: r) σ Q :=
  jw_iald hpc hM hq ha h0 h1 (by rw [s.g hn h0, hv]; exact h)
theorem jc_bald {n len : Nat} {i v : Int} {p : Nat} (hpc : pc + 1 = p) (hM : ib_Ms mi = some M) (hq : M.2.2.2.2.2[pc]? = some (some (.baload, a1, a2, a3, a4))) (ha : jb_arr σ 101 n len) (h0 : 0 ≤ i) (h1 : i < len) (s : jc_S σ0 K σ) (hn : jc_dom n) (hv : jc_i K n i = v) (h : jb_w d mi p ls (jb_v v :: r) σ Q) : jb_w d mi pc ls (jb_v i :: .ref n :: r) σ Q :=
  jw_bald hpc hM hq ha h0 h1 (by rw [s.g hn h0, hv]; exact h)
theorem jc_iast {n len : Nat} {i x : Int} {p : Nat} (hpc : pc + 1 = p) (hM : ib_Ms mi = some M) (hq : M.2.2.2.2.2[pc]? = some (some (.iastore, a1, a2, a3, a4))) (ha : jb_arr σ 100 n len) (h0 : 0 ≤ i) (h1 : i < len) (s : jc_S σ0 K σ) (hn : jc_dom n) (hx : jb_r x) (h : jc_W σ0 (jc_ui K n i x) d mi p ls r Q) : jb_w d mi pc ls (jb_v x :: jb_v i :: .ref n :: r) σ Q :=
  jw_iast hpc hM hq ha h0 h1 (h _ (s.u hn h0 hx))
theorem jc_iasM {n len : Nat} {i x : Int} {p : Nat} (hpc : pc + 1 = p) (hM : ib_Ms mi = some M) (hq : M.2.2.2.2.2[pc]? = some (some (.iastore, a1, a2, a3, a4))) (ha : jb_arr σ 100 n len) (h0 : 0 ≤ i) (h1 : i < len) (s : jc_S σ0 K σ) (hn : jc_dom n) (h : jc_W σ0 (jc_ui K n i (jb_m x)) d mi p ls r Q) : jb_w d mi pc ls (jb_v x :: jb_v i :: .ref n :: r) σ Q :=
  jw_iast hpc hM hq ha h0 h1 (h _ (s.um hn h0))
theorem jc_bast {n len : Nat} {i x : Int} {p : Nat} (hpc : pc + 1 = p) (hM : ib_Ms mi = some M) (hq : M.2.2.2.2.2[pc]? = some (some (.bastore, a1, a2, a3, a4))) (ha : jb_arr σ 101 n len) (h0 : 0 ≤ i) (h1 : i < len) (hx : x = 0 ∨ x = 1) (s : jc_S σ0 K σ) (hn : jc_dom n) (h : jc_W σ0 (jc_ui K n i x) d mi p ls r Q) : jb_w d mi pc ls (jb_v x :: jb_v i :: .ref n :: r) σ Q :=
  jw_bast hpc hM hq ha h0 h1 hx (h _ (s.u hn h0 (by rcases hx with rfl | rfl <;> exact ⟨by decide, by decide⟩)))
theorem jc_aald {t n len q : Nat} {i : Int} {p : Nat} (hpc : pc + 1 = p) (hM : ib_Ms mi = some M) (hq : M.2.2.2.2.2[pc]? = some (some (.aaload, a1, a2, a3, a4))) (ha : jb_arr σ t n len) (ht : t = 103 ∨ t = 104) (h0 : 0 ≤ i) (h1 : i < len) (s : jc_S σ0 K σ) (hv : jc_p K n i = q) (h : jb_w d mi p ls (.ref q :: r) σ Q) : jb_w d mi pc ls (jb_v i :: .ref n :: r) σ Q :=
  jw_aald hpc hM hq ha ht h0 h1 (by rw [s.p h0, hv]) h
theorem jc_aast {t c n len q : Nat} {i : Int} {p : Nat} (hpc : pc + 1 = p) (hM : ib_Ms mi = some M) (hq : M.2.2.2.2.2[pc]? = some (some (.aastore, a1, a2, a3, a4))) (ha : jb_arr σ t n len) (ht : (t = 103 ∧ c = 4) ∨ (t = 104 ∧ c = 3)) (h0 : 0 ≤ i) (h1 : i < len) (ho : q = 0 ∨ jb_ob σ c q) (s : jc_S σ0 K σ) (hn : n = 64 ∨ 98 ≤ n) (h : jc_W σ0 (jc_up K n i q) d mi p ls r Q) : jb_w d mi pc ls (.ref q :: jb_v i :: .ref n :: r) σ Q :=
  jw_aast hpc hM hq ha ht h0 h1 ho (h _ (s.up hn h0))
theorem jw_new {idx : Nat} {p : Nat} (hpc : pc + 3 = p) (hM : ib_Ms mi = some M) (hq : M.2.2.2.2.2[pc]? = some (some (.new idx, a1, a2, a3, a4))) (h1 : ¬ 100 ≤ a1) (h : jb_w d mi p ls (.ref (ib_nx σ) :: st) (ib_new σ a1 0 (ib_fn a1)) Q) : jb_w d mi pc ls st σ Q := by
  subst hpc
  refine jb_step (x := (pc + 3, ls, .ref (ib_nx σ) :: st, ib_new σ a1 0 (ib_fn a1))) hM hq ?_ h
  simp only [ib_at]
  rw [if_neg h1]
theorem jw_nar {t : ClassFile.ArrayType} {n : Nat} {p : Nat} (hpc : pc + 2 = p) (hM : ib_Ms mi = some M) (hq : M.2.2.2.2.2[pc]? = some (some (.newarray t, a1, a2, a3, a4))) (hn : n ≤ 1000000) (h : jb_w d mi p ls (.ref (ib_nx σ) :: r) (ib_new σ a1 n n) Q) : jb_w d mi pc ls (jb_v (n : Int) :: r) σ Q := by
  subst hpc
  have hr : jb_r (n : Int) := ⟨by omega, by omega⟩
  refine jb_step (x := (pc + 2, ls, .ref (ib_nx σ) :: r, ib_new σ a1 n n)) hM hq ?_ h
  simp only [ib_at]
  have h3 : ¬ (Int32.ofInt (n : Int) < 0 ∨ ¬ (Int32.ofInt (n : Int)).toNatClampNeg ≤ 1000000) := by
    rw [jb_nc hr, Int32.lt_iff_toInt_lt, jb_ti hr]
    have : (0 : Int32).toInt = 0 := rfl
    omega
  rw [if_neg h3, jb_nc hr, Int.toNat_natCast]
theorem jw_anar {t n : Nat} {p : Nat} (hpc : pc + 3 = p) (hM : ib_Ms mi = some M) (hq : M.2.2.2.2.2[pc]? = some (some (.anewarray t, a1, a2, a3, a4))) (hn : n ≤ 1000000) (h : jb_w d mi p ls (.ref (ib_nx σ) :: r) (ib_new σ a1 n n) Q) : jb_w d mi pc ls (jb_v (n : Int) :: r) σ Q := by
  subst hpc
  have hr : jb_r (n : Int) := ⟨by omega, by omega⟩
  refine jb_step (x := (pc + 3, ls, .ref (ib_nx σ) :: r, ib_new σ a1 n n)) hM hq ?_ h
  simp only [ib_at]
  have h3 : ¬ (Int32.ofInt (n : Int) < 0 ∨ ¬ (Int32.ofInt (n : Int)).toNatClampNeg ≤ 1000000) := by
    rw [jb_nc hr, Int32.lt_iff_toInt_lt, jb_ti hr]
    have : (0 : Int32).toInt = 0 := rfl
    omega
  rw [if_neg h3, jb_nc hr, Int.toNat_natCast]
theorem jw_obi {idx n : Nat} {p : Nat} (hpc : pc + 3 = p) (hM : ib_Ms mi = some M) (hq : M.2.2.2.2.2[pc]? = some (some (.invokespecial idx, 1000, a2, a3, a4))) (hn : ¬ (n = 0 ∨ 4 < r.length)) (h : jb_w d mi p ls r σ Q) : jb_w d mi pc ls (.ref n :: r) σ Q := by
  subst hpc
  refine jb_step (x := (pc + 3, ls, r, σ)) hM hq ?_ h
  simp only [ib_at]
  rw [if_pos trivial, if_neg hn]
end JcI
def jc_np (K : jc_K) : jc_K := jc_up (jc_new (jc_new K 4 0 4) 100 32 32) K.1.1 3 (K.1.1 + 1)
def jc_nr (K : jc_K) : jc_K := jc_up (jc_new (jc_up (jc_new (jc_new K 3 0 13) 100 3 3) K.1.1 9 (K.1.1 + 1)) 103 3 3) K.1.1 10 (K.1.1 + 2)
def jc_na (K : jc_K) (n : Nat) : jc_K := jc_new K 100 n n
theorem jc_ob_new {σ : ib_H} {t len sl : Nat} (h : 98 ≤ ib_nx σ) (ht : t < 50) : jb_ob (ib_new σ t len sl) t (ib_nx σ) := by
  refine ⟨by omega, Nat.lt_succ_self _, ?_, ht⟩
  show (if ib_nx σ = ib_nx σ then (t, len) else _).1 = t
  rw [if_pos rfl]
theorem jc_ob_new2 {σ : ib_H} {t t2 len sl n : Nat} (h : jb_ob σ t2 n) : jb_ob (ib_new σ t len sl) t2 n := by
  obtain ⟨h1, h2, h3, h4⟩ := h
  refine ⟨h1, Nat.lt_succ_of_lt h2, ?_, h4⟩
  show (if n = ib_nx σ then (t, len) else ib_sh σ n).1 = t2
  rw [if_neg (by omega)]
  exact h3
theorem jc_ob_sp {σ : ib_H} {t n m q : Nat} {i : Int} (h : jb_ob σ t n) : jb_ob (jb_sp σ m i q) t n := h
theorem jc_i32 {d : Nat} {σ0 σ : ib_H} {K : jc_K} {Q : ib_O → Prop} {p : Nat} (s : jc_S σ0 K σ) (hp : 98 ≤ p) (ho : jb_ob σ 4 p) (k : ∀ σ, jc_S σ0 (jc_up (jc_new K 100 32 32) p 3 K.1.1) σ → Q (.inl none, σ)) : jb_w d 32 0 [some (.ref p)] [] σ Q := by
  refine jaL0 (p := 1) rfl jM32 jq32_0 ?_
  refine jw_obi (p := 4) rfl jM32 jq32_1 (fun z => by have h9 : (([] : List Value).length) = 0 := rfl; omega) ?_
  refine jaL0 (p := 5) rfl jM32 jq32_4 ?_
  refine jw_bipush (p := 7) rfl jM32 jq32_5 (by decide) ?_
  refine jw_nar (n := 32) (p := 9) rfl jM32 jq32_7 (by decide) ?_
  have s2 := s.new 100 32 32
  have e : ib_nx σ = K.1.1 := s.nx
  refine jc_putP (p := 12) (i := 3) rfl jM32 jq32_9 rfl (jc_ob_new2 ho) je_4_3 (by have := s.1.1; omega) s2 (Or.inr hp) (by decide) ?_
  intro σ3 s3
  rw [e] at s3
  exact jw_vret jM32 jq32_12 (k σ3 s3)
theorem jc_i24 {d : Nat} {σ0 σ : ib_H} {K : jc_K} {Q : ib_O → Prop} {p : Nat} (s : jc_S σ0 K σ) (hp : 98 ≤ p) (ho : jb_ob σ 3 p) (k : ∀ σ, jc_S σ0 (jc_up (jc_new (jc_up (jc_new K 100 3 3) p 9 K.1.1) 103 3 3) p 10 (K.1.1 + 1)) σ → Q (.inl none, σ)) : jb_w d 24 0 [some (.ref p)] [] σ Q := by
  refine jaL0 (p := 1) rfl jM24 jq24_0 ?_
  refine jw_obi (p := 4) rfl jM24 jq24_1 (fun z => by have h9 : (([] : List Value).length) = 0 := rfl; omega) ?_
  refine jaL0 (p := 5) rfl jM24 jq24_4 ?_
  refine jw_iconst (p := 6) rfl jM24 jq24_5 ?_
  refine jw_nar (n := 3) (p := 8) rfl jM24 jq24_6 (by decide) ?_
  have s2 := s.new 100 3 3
  have e : ib_nx σ = K.1.1 := s.nx
  have h120 := s.1.1
  refine jw_putP (p := 11) (i := 9) rfl jM24 jq24_8 rfl (jc_ob_new2 ho) je_3_9 (by omega) ?_
  have s3 := s2.up (n := p) (i := 9) (q := ib_nx σ) (Or.inr hp) (by decide)
  refine jaL0 (p := 12) rfl jM24 jq24_11 ?_
  refine jw_iconst (p := 13) rfl jM24 jq24_12 ?_
  refine jw_anar (n := 3) (p := 16) rfl jM24 jq24_13 (by decide) ?_
  have s4 := s3.new 103 3 3
  refine jc_putP (p := 19) (i := 10) rfl jM24 jq24_16 rfl (jc_ob_new2 (jc_ob_sp (jc_ob_new2 ho))) je_3_10 (by show ib_nx σ + 1 ≠ 1; omega) s4 (Or.inr hp) (by decide) ?_
  intro σ5 s5
  rw [show ib_nx (jb_sp (ib_new σ 100 3 3) p 9 (ib_nx σ)) = K.1.1 + 1 from congrArg (· + 1) e, e] at s5
  exact jw_vret jM24 jq24_19 (k σ5 s5)
theorem jc_mkP {d mi pc : Nat} {ls : ib_Ls} {st : List Value} {σ0 σ : ib_H} {K : jc_K} {Q : ib_O → Prop} {M : ib_M} {i1 i2 b2 b3 b4 c1 c2 c3 c4 e4 p : Nat} (hpc : pc + 7 = p) (hM : ib_Ms mi = some M) (hq : M.2.2.2.2.2[pc]? = some (some (.new i1, 4, b2, b3, b4))) (hq2 : M.2.2.2.2.2[pc + 3]? = some (some (.dup, c1, c2, c3, c4))) (hq3 : M.2.2.2.2.2[pc + 4]? = some (some (.invokespecial i2, 32, 0, 4, e4))) (hh : M.2.2.2.2.1 = []) (hl : st.length ≤ 3) (s : jc_S σ0 K σ) (h : jc_W σ0 (jc_np K) (d + 1) mi p ls (.ref K.1.1 :: st) Q) : jb_w (d + 1) mi pc ls st σ Q := by
  subst hpc
  have h120 := s.1.1
  have e : ib_nx σ = K.1.1 := s.nx
  have s1 := s.new 4 0 (ib_fn 4)
  refine jw_new rfl hM hq (by decide) ?_
  refine jw_dupA rfl hM hq2 ?_
  refine jw_callN [] hM hq3 (by decide) rfl rfl (jc_ob_new h120 (by decide)) hh jM32 (by rw [Bool.and_eq_true, Bool.and_eq_true]; exact ⟨⟨rfl, rfl⟩, decide_eq_true (by show st.length + 1 ≤ 4; omega)⟩) rfl ?_
  refine jc_i32 s1 (by omega) (jc_ob_new h120 (by decide)) (fun σ2 s2 => ?_)
  show jb_w (d + 1) mi (pc + 4 + 3) ls (.ref (ib_nx σ) :: st) σ2 Q
  rw [e] at s2 ⊢
  exact h σ2 s2
theorem jc_mkR {d mi pc : Nat} {ls : ib_Ls} {st : List Value} {σ0 σ : ib_H} {K : jc_K} {Q : ib_O → Prop} {M : ib_M} {i1 i2 b2 b3 b4 c1 c2 c3 c4 e4 p : Nat} (hpc : pc + 7 = p) (hM : ib_Ms mi = some M) (hq : M.2.2.2.2.2[pc]? = some (some (.new i1, 3, b2, b3, b4))) (hq2 : M.2.2.2.2.2[pc + 3]? = some (some (.dup, c1, c2, c3, c4))) (hq3 : M.2.2.2.2.2[pc + 4]? = some (some (.invokespecial i2, 24, 0, 3, e4))) (hh : M.2.2.2.2.1 = []) (hl : st.length ≤ 3) (s : jc_S σ0 K σ) (h : jc_W σ0 (jc_nr K) (d + 1) mi p ls (.ref K.1.1 :: st) Q) : jb_w (d + 1) mi pc ls st σ Q := by
  subst hpc
  have h120 := s.1.1
  have e : ib_nx σ = K.1.1 := s.nx
  have s1 := s.new 3 0 (ib_fn 3)
  refine jw_new rfl hM hq (by decide) ?_
  refine jw_dupA rfl hM hq2 ?_
  refine jw_callN [] hM hq3 (by decide) rfl rfl (jc_ob_new h120 (by decide)) hh jM24 (by rw [Bool.and_eq_true, Bool.and_eq_true]; exact ⟨⟨rfl, rfl⟩, decide_eq_true (by show st.length + 1 ≤ 4; omega)⟩) rfl ?_
  refine jc_i24 s1 (by omega) (jc_ob_new h120 (by decide)) (fun σ2 s2 => ?_)
  show jb_w (d + 1) mi (pc + 4 + 3) ls (.ref (ib_nx σ) :: st) σ2 Q
  rw [e] at s2 ⊢
  exact h σ2 s2
