/-! what is made once and stays: written by wip/tools/gen22.py out of a run of the tables; and each method -/
def fx_sl : List (Nat × Nat) := [(0, 0), (0, 0), (10, 0), (1, 0), (103, 24), (100, 24), (100, 24), (4, 0), (100, 32), (4, 0), (100, 32), (4, 0), (100, 32), (4, 0), (100, 32), (4, 0), (100, 32), (4, 0), (100, 32), (4, 0), (100, 32), (4, 0), (100, 32), (4, 0), (100, 32), (4, 0), (100, 32), (4, 0), (100, 32), (4, 0), (100, 32), (4, 0), (100, 32), (4, 0), (100, 32), (4, 0), (100, 32), (4, 0), (100, 32), (4, 0), (100, 32), (4, 0), (100, 32), (4, 0), (100, 32), (4, 0), (100, 32), (4, 0), (100, 32), (4, 0), (100, 32), (4, 0), (100, 32), (4, 0), (100, 32), (4, 0), (100, 32), (6, 0), (101, 4), (100, 4), (100, 4), (100, 4), (100, 32), (2, 0), (104, 1100), (100, 32), (0, 0), (103, 4), (100, 4), (101, 4), (100, 4), (4, 0), (100, 32), (4, 0), (100, 32), (4, 0), (100, 32), (4, 0), (100, 32), (7, 0), (100, 24), (8, 0), (100, 4), (5, 0), (100, 24), (100, 4), (9, 0), (100, 24), (100, 24), (100, 24), (100, 24), (101, 24), (100, 64), (100, 32), (100, 16), (100, 64), (100, 64), (100, 64)]
def fx_pl : List (List (Option Nat)) := [[], [], [some 3, some 57, some 63, some 66, some 79, some 81, some 83, some 86], [some 4, some 5, some 6, some 7], [some 9, some 11, some 13, some 15, some 17, some 19, some 21, some 23, some 25, some 27, some 29, some 31, some 33, some 35, some 37, some 39, some 41, some 43, some 45, some 47, some 49, some 51, some 53, some 55], [], [], [none, none, none, some 8], [], [none, none, none, some 10], [], [none, none, none, some 12], [], [none, none, none, some 14], [], [none, none, none, some 16], [], [none, none, none, some 18], [], [none, none, none, some 20], [], [none, none, none, some 22], [], [none, none, none, some 24], [], [none, none, none, some 26], [], [none, none, none, some 28], [], [none, none, none, some 30], [], [none, none, none, some 32], [], [none, none, none, some 34], [], [none, none, none, some 36], [], [none, none, none, some 38], [], [none, none, none, some 40], [], [none, none, none, some 42], [], [none, none, none, some 44], [], [none, none, none, some 46], [], [none, none, none, some 48], [], [none, none, none, some 50], [], [none, none, none, some 52], [], [none, none, none, some 54], [], [none, none, none, some 56], [], [some 58, some 59, some 60, some 61, some 62], [], [], [], [], [], [some 3, some 57, some 64, some 65], [], [], [some 3, some 67, some 68, some 69, some 70], [some 71, some 73, some 75, some 77], [], [], [], [none, none, none, some 72], [], [none, none, none, some 74], [], [none, none, none, some 76], [], [none, none, none, some 78], [], [some 66, some 63, some 80], [], [some 79, some 63, some 57, some 82], [], [some 3, some 63, some 66, some 79, some 57, some 84, some 85], [], [], [some 66, some 63, some 57, some 87, some 88, some 89, some 90, some 91], [], [], [], [], [], [], [], [], [], [], []]
def fx_sh (n : Nat) : Nat × Nat := fx_sl.getD n (0, 0)
def fx_p (n k : Nat) : Option Nat := (fx_pl.getD n []).getD k none
def jb_F (σ : ib_H) : Prop := 98 ≤ ib_nx σ ∧ (∀ n, 2 ≤ n → n < 98 → ib_sh σ n = fx_sh n) ∧ ∀ n k q, fx_p n k = some q → ib_P σ n k = q
theorem jb_Fp {σ : ib_H} (h : jb_F σ) {n q : Nat} {i : Int} (hq : fx_p n i.toNat = some q) : jb_p σ n i = q := h.2.2 n i.toNat q hq
theorem jb_Fo {σ : ib_H} (h : jb_F σ) {n t len : Nat} (hs : fx_sh n = (t, len)) (hc : (decide (2 ≤ n) && decide (n < 98) && decide (t < 50)) = true) : jb_ob σ t n := by
  simp only [Bool.and_eq_true, decide_eq_true_eq] at hc
  exact ⟨hc.1.1, Nat.lt_of_lt_of_le hc.1.2 h.1, by rw [h.2.1 n hc.1.1 hc.1.2, hs], hc.2⟩
theorem jb_Fa {σ : ib_H} (h : jb_F σ) {n t len : Nat} (hs : fx_sh n = (t, len)) (hc : (decide (2 ≤ n) && decide (n < 98) && decide (len < 2147483648)) = true) : jb_arr σ t n len := by
  simp only [Bool.and_eq_true, decide_eq_true_eq] at hc
  exact ⟨hc.1.1, Nat.lt_of_lt_of_le hc.1.2 h.1, by rw [h.2.1 n hc.1.1 hc.1.2, hs], hc.2⟩
/-- a page stands at p, its cells behind it -/
def jb_pg (σ : ib_H) (p : Nat) : Prop := 2 ≤ p ∧ p + 1 < ib_nx σ ∧ ib_sh σ p = (4, 0) ∧ ib_sh σ (p + 1) = (100, 32) ∧ ib_P σ p 3 = p + 1
theorem jb_pg.ob {σ : ib_H} {p : Nat} (h : jb_pg σ p) : jb_ob σ 4 p := ⟨h.1, Nat.lt_of_succ_lt h.2.1, by rw [h.2.2.1], by decide⟩
theorem jb_pg.ar {σ : ib_H} {p : Nat} (h : jb_pg σ p) : jb_arr σ 100 (p + 1) 32 := ⟨Nat.le_succ_of_le h.1, h.2.1, h.2.2.2.1, by decide⟩
theorem jb_pg.pc {σ : ib_H} {p : Nat} (h : jb_pg σ p) : jb_p σ p 3 = p + 1 := h.2.2.2.2
theorem jb_pg.ne {σ : ib_H} {p : Nat} (h : jb_pg σ p) : p ≠ 0 := Nat.ne_of_gt (Nat.lt_of_lt_of_le Nat.zero_lt_two h.1)
/-- a record of the log stands at p -/
def jb_rc (σ : ib_H) (p : Nat) : Prop := 2 ≤ p ∧ p + 2 < ib_nx σ ∧ ib_sh σ p = (3, 0) ∧ ib_sh σ (p + 1) = (100, 3) ∧ ib_sh σ (p + 2) = (103, 3) ∧ ib_P σ p 9 = p + 1 ∧ ib_P σ p 10 = p + 2
theorem jb_rc.ob {σ : ib_H} {p : Nat} (h : jb_rc σ p) : jb_ob σ 3 p := ⟨h.1, Nat.lt_of_succ_lt (Nat.lt_of_succ_lt h.2.1), by rw [h.2.2.1], by decide⟩
theorem jb_rc.ap {σ : ib_H} {p : Nat} (h : jb_rc σ p) : jb_arr σ 100 (p + 1) 3 := ⟨Nat.le_succ_of_le h.1, Nat.lt_of_succ_lt h.2.1, h.2.2.2.1, by decide⟩
theorem jb_rc.ai {σ : ib_H} {p : Nat} (h : jb_rc σ p) : jb_arr σ 103 (p + 2) 3 := ⟨Nat.le_trans h.1 (Nat.le_add_right _ 2), h.2.1, h.2.2.2.2.1, by decide⟩
theorem jb_rc.pp {σ : ib_H} {p : Nat} (h : jb_rc σ p) : jb_p σ p 9 = p + 1 := h.2.2.2.2.2.1
theorem jb_rc.pi {σ : ib_H} {p : Nat} (h : jb_rc σ p) : jb_p σ p 10 = p + 2 := h.2.2.2.2.2.2
theorem jb_rc.ne {σ : ib_H} {p : Nat} (h : jb_rc σ p) : p ≠ 0 := Nat.ne_of_gt (Nat.lt_of_lt_of_le Nat.zero_lt_two h.1)
theorem jb_fx_d : ∀ k, k < 24 → fx_p 4 k = some (9 + 2 * k) ∧ fx_sh (9 + 2 * k) = (4, 0) ∧ fx_sh (9 + 2 * k + 1) = (100, 32) ∧ fx_p (9 + 2 * k) 3 = some (9 + 2 * k + 1) := by decide +kernel
theorem jb_fx_f : ∀ k, k < 4 → fx_p 67 k = some (71 + 2 * k) ∧ fx_sh (71 + 2 * k) = (4, 0) ∧ fx_sh (71 + 2 * k + 1) = (100, 32) ∧ fx_p (71 + 2 * k) 3 = some (71 + 2 * k + 1) := by decide +kernel
theorem jb_Fqd {σ : ib_H} (h : jb_F σ) {i : Int} (h0 : 0 ≤ i) (h1 : i < (24 : Nat)) : jb_p σ 4 i = 9 + 2 * Int.toNat i := h.2.2 _ _ _ (jb_fx_d i.toNat (by omega)).1
theorem jb_Fqf {σ : ib_H} (h : jb_F σ) {i : Int} (h0 : 0 ≤ i) (h1 : i < (4 : Nat)) : jb_p σ 67 i = 71 + 2 * Int.toNat i := h.2.2 _ _ _ (jb_fx_f i.toNat (by omega)).1
theorem jb_Fpg_of {σ : ib_H} (h : jb_F σ) {p : Nat} (hp : 2 ≤ p) (hp2 : p + 1 < 98) (h1 : fx_sh p = (4, 0)) (h2 : fx_sh (p + 1) = (100, 32)) (h3 : fx_p p 3 = some (p + 1)) : jb_pg σ p :=
  ⟨hp, Nat.lt_of_lt_of_le hp2 h.1, by rw [h.2.1 p hp (by omega), h1], by rw [h.2.1 (p + 1) (by omega) hp2, h2], h.2.2 _ _ _ h3⟩
theorem jb_Fpgd {σ : ib_H} (h : jb_F σ) {i : Int} (h0 : 0 ≤ i) (h1 : i < (24 : Nat)) : jb_pg σ (9 + 2 * Int.toNat i) := by
  have := jb_fx_d i.toNat (by omega)
  exact jb_Fpg_of h (by omega) (by omega) this.2.1 this.2.2.1 this.2.2.2
theorem jb_Fpgf {σ : ib_H} (h : jb_F σ) {i : Int} (h0 : 0 ≤ i) (h1 : i < (4 : Nat)) : jb_pg σ (71 + 2 * Int.toNat i) := by
  have := jb_fx_f i.toNat (by omega)
  exact jb_Fpg_of h (by omega) (by omega) this.2.1 this.2.2.1 this.2.2.2
theorem jb_rn {n : Int} (h : (decide (-2147483648 ≤ n) && decide (n < 2147483648)) = true) : jb_r n := by
  simp only [Bool.and_eq_true, decide_eq_true_eq] at h
  exact h
theorem jb_nn {n : Int} (h : decide (0 ≤ n) = true) : 0 ≤ n := of_decide_eq_true h
theorem jb_rb {i : Int} {len : Nat} (h0 : 0 ≤ i) (h1 : i < len) (h2 : len < 2147483648) : jb_r i := ⟨by omega, by omega⟩
theorem jb_r_div {x y : Int} (h0 : 0 ≤ x) (h : jb_r x) (hy : 0 < y) : jb_r (x / y) := by
  have hq : 0 ≤ x / y := Int.ediv_nonneg h0 (Int.le_of_lt hy)
  have hq2 : x / y ≤ x := Int.ediv_le_self y h0
  have := h.2
  exact ⟨by omega, by omega⟩
theorem jb_r_rem {x y : Int} (h0 : 0 ≤ x) (h : jb_r x) (hy : 0 < y) : jb_r (x % y) := by
  have hq : 0 ≤ x % y := Int.emod_nonneg x (by omega)
  have hq2 : x % y ≤ x := by
    have h3 := Int.emod_add_mul_ediv x y
    have h4 : 0 ≤ y * (x / y) := Int.mul_nonneg (Int.le_of_lt hy) (Int.ediv_nonneg h0 (Int.le_of_lt hy))
    omega
  have := h.2
  exact ⟨by omega, by omega⟩
set_option maxRecDepth 100000 in
theorem jM0 : ib_Ms 0 = some (yX0_init, cX0_init, 3, none, [], ib_c0) := rfl
set_option maxRecDepth 100000 in
theorem jM1 : ib_Ms 1 = some (yX0_empty, cX0_empty, 2, none, [], ib_c1) := rfl
set_option maxRecDepth 100000 in
theorem jM2 : ib_Ms 2 = some (yX0_frameOf, cX0_frameOf, 3, (some Jvm.ClassFile.FieldType.int), [], ib_c2) := rfl
set_option maxRecDepth 100000 in
theorem jM3 : ib_Ms 3 = some (yX0_seen, cX0_seen, 3, (some (Jvm.ClassFile.FieldType.object "PageLoom$Page")), [], ib_c3) := rfl
set_option maxRecDepth 100000 in
theorem jM4 : ib_Ms 4 = some (yX0_kindSeen, cX0_kindSeen, 3, (some Jvm.ClassFile.FieldType.int), [], ib_c4) := rfl
set_option maxRecDepth 100000 in
theorem jM5 : ib_Ms 5 = some (yX0_use, cX0_use, 3, (some Jvm.ClassFile.FieldType.boolean), [], ib_c5) := rfl
set_option maxRecDepth 100000 in
theorem jM6 : ib_Ms 6 = some (yX0_takeFrame, cX0_takeFrame, 3, (some Jvm.ClassFile.FieldType.int), [], ib_c6) := rfl
set_option maxRecDepth 100000 in
theorem jM7 : ib_Ms 7 = some (yX0_toChange, cX0_toChange, 4, (some (Jvm.ClassFile.FieldType.object "PageLoom$Page")), [], ib_c7) := rfl
set_option maxRecDepth 100000 in
theorem jM8 : ib_Ms 8 = some (yX0_differs, cX0_differs, 3, (some Jvm.ClassFile.FieldType.boolean), [], ib_c8) := rfl
set_option maxRecDepth 100000 in
theorem jM9 : ib_Ms 9 = some (yX0_clean, cX0_clean, 3, (some Jvm.ClassFile.FieldType.boolean), [], ib_c9) := rfl
set_option maxRecDepth 100000 in
theorem jM10 : ib_Ms 10 = some (yX0_tellDiffering, cX0_tellDiffering, 4, none, [], ib_c10) := rfl
set_option maxRecDepth 100000 in
theorem jM11 : ib_Ms 11 = some (yX1_init, cX1_init, 2, none, [], ib_c11) := rfl
set_option maxRecDepth 100000 in
theorem jM12 : ib_Ms 12 = some (yX1_doWrites, cX1_doWrites, 3, (some Jvm.ClassFile.FieldType.int), [], ib_c12) := rfl
set_option maxRecDepth 100000 in
theorem jM13 : ib_Ms 13 = some (yX1_makeDurable, cX1_makeDurable, 4, (some Jvm.ClassFile.FieldType.boolean), [], ib_c13) := rfl
set_option maxRecDepth 100000 in
theorem jM14 : ib_Ms 14 = some (yX1_writePage, cX1_writePage, 6, (some Jvm.ClassFile.FieldType.boolean), [], ib_c14) := rfl
set_option maxRecDepth 100000 in
theorem jM15 : ib_Ms 15 = some (yX1_isTorn, cX1_isTorn, 2, (some Jvm.ClassFile.FieldType.boolean), [], ib_c15) := rfl
set_option maxRecDepth 100000 in
theorem jM16 : ib_Ms 16 = some (yX1_spareMends, cX1_spareMends, 1, (some Jvm.ClassFile.FieldType.boolean), [], ib_c16) := rfl
set_option maxRecDepth 100000 in
theorem jM17 : ib_Ms 17 = some (yX1_mendFromSpare, cX1_mendFromSpare, 2, (some Jvm.ClassFile.FieldType.int), [], ib_c17) := rfl
set_option maxRecDepth 100000 in
theorem jM18 : ib_Ms 18 = some (yX2_init, cX2_init, 3, none, [], ib_c18) := rfl
set_option maxRecDepth 100000 in
theorem jM19 : ib_Ms 19 = some (yX2_at, cX2_at, 2, (some (Jvm.ClassFile.FieldType.object "PageLoom$LogRecord")), [], ib_c19) := rfl
set_option maxRecDepth 100000 in
theorem jM20 : ib_Ms 20 = some (yX2_append, cX2_append, 4, (some (Jvm.ClassFile.FieldType.object "PageLoom$LogRecord")), [], ib_c20) := rfl
set_option maxRecDepth 100000 in
theorem jM21 : ib_Ms 21 = some (yX2_cut, cX2_cut, 1, none, [], ib_c21) := rfl
set_option maxRecDepth 100000 in
theorem jM22 : ib_Ms 22 = some (yX2_committedValues, cX2_committedValues, 3, (some (Jvm.ClassFile.FieldType.array Jvm.ClassFile.FieldType.int)), [], ib_c22) := rfl
set_option maxRecDepth 100000 in
theorem jM23 : ib_Ms 23 = some (yX2_believeChain, cX2_believeChain, 5, none, [], ib_c23) := rfl
set_option maxRecDepth 100000 in
theorem jM24 : ib_Ms 24 = some (yX3_init, cX3_init, 1, none, [], ib_c24) := rfl
set_option maxRecDepth 100000 in
theorem jM25 : ib_Ms 25 = some (yX3_begin, cX3_begin, 5, none, [], ib_c25) := rfl
set_option maxRecDepth 100000 in
theorem jM26 : ib_Ms 26 = some (yX3_tellLeaf, cX3_tellLeaf, 2, none, [], ib_c26) := rfl
set_option maxRecDepth 100000 in
theorem jM27 : ib_Ms 27 = some (yX3_tellImage, cX3_tellImage, 4, (some (Jvm.ClassFile.FieldType.object "PageLoom$Page")), [], ib_c27) := rfl
set_option maxRecDepth 100000 in
theorem jM28 : ib_Ms 28 = some (yX3_toldLatest, cX3_toldLatest, 3, (some Jvm.ClassFile.FieldType.int), [], ib_c28) := rfl
set_option maxRecDepth 100000 in
theorem jM29 : ib_Ms 29 = some (yX3_toldFirst, cX3_toldFirst, 2, (some Jvm.ClassFile.FieldType.int), [], ib_c29) := rfl
set_option maxRecDepth 100000 in
theorem jM30 : ib_Ms 30 = some (yX3_pageAt, cX3_pageAt, 2, (some Jvm.ClassFile.FieldType.int), [], ib_c30) := rfl
set_option maxRecDepth 100000 in
theorem jM31 : ib_Ms 31 = some (yX3_changePage, cX3_changePage, 4, none, [], ib_c31) := rfl
set_option maxRecDepth 100000 in
theorem jM32 : ib_Ms 32 = some (yX4_init, cX4_init, 1, none, [], ib_c32) := rfl
set_option maxRecDepth 100000 in
theorem jM33 : ib_Ms 33 = some (yX4_childCell, cX4_childCell, 2, (some Jvm.ClassFile.FieldType.int), [], ib_c33) := rfl
set_option maxRecDepth 100000 in
theorem jM34 : ib_Ms 34 = some (yX4_blank, cX4_blank, 2, none, [], ib_c34) := rfl
set_option maxRecDepth 100000 in
theorem jM35 : ib_Ms 35 = some (yX4_become, cX4_become, 3, none, [], ib_c35) := rfl
set_option maxRecDepth 100000 in
theorem jM36 : ib_Ms 36 = some (yX4_isBare, cX4_isBare, 1, (some Jvm.ClassFile.FieldType.boolean), [], ib_c36) := rfl
set_option maxRecDepth 100000 in
theorem jM37 : ib_Ms 37 = some (yX4_cellAt, cX4_cellAt, 2, (some Jvm.ClassFile.FieldType.int), [], ib_c37) := rfl
set_option maxRecDepth 100000 in
theorem jM38 : ib_Ms 38 = some (yX4_keyAt, cX4_keyAt, 3, (some Jvm.ClassFile.FieldType.int), [], ib_c38) := rfl
set_option maxRecDepth 100000 in
theorem jM39 : ib_Ms 39 = some (yX4_childAt, cX4_childAt, 3, (some Jvm.ClassFile.FieldType.int), [], ib_c39) := rfl
set_option maxRecDepth 100000 in
theorem jM40 : ib_Ms 40 = some (yX4_childFor, cX4_childFor, 4, (some Jvm.ClassFile.FieldType.int), [], ib_c40) := rfl
set_option maxRecDepth 100000 in
theorem jM41 : ib_Ms 41 = some (yX4_placeOfChild, cX4_placeOfChild, 3, (some Jvm.ClassFile.FieldType.int), [], ib_c41) := rfl
set_option maxRecDepth 100000 in
theorem jM42 : ib_Ms 42 = some (yX4_valueOf, cX4_valueOf, 4, (some Jvm.ClassFile.FieldType.int), [], ib_c42) := rfl
set_option maxRecDepth 100000 in
theorem jM43 : ib_Ms 43 = some (yX4_setValue, cX4_setValue, 5, none, [], ib_c43) := rfl
set_option maxRecDepth 100000 in
theorem jM44 : ib_Ms 44 = some (yX4_placeOfKey, cX4_placeOfKey, 3, (some Jvm.ClassFile.FieldType.int), [], ib_c44) := rfl
set_option maxRecDepth 100000 in
theorem jM45 : ib_Ms 45 = some (yX4_insert, cX4_insert, 4, none, [], ib_c45) := rfl
set_option maxRecDepth 100000 in
theorem jM46 : ib_Ms 46 = some (yX4_remove, cX4_remove, 3, none, [], ib_c46) := rfl
set_option maxRecDepth 100000 in
theorem jM47 : ib_Ms 47 = some (yX4_becomePart, cX4_becomePart, 5, none, [], ib_c47) := rfl
set_option maxRecDepth 100000 in
theorem jM48 : ib_Ms 48 = some (yX4_removeChild, cX4_removeChild, 2, none, [], ib_c48) := rfl
set_option maxRecDepth 100000 in
theorem jM49 : ib_Ms 49 = some (yX4_forgetKeyAheadOfFirst, cX4_forgetKeyAheadOfFirst, 1, none, [], ib_c49) := rfl
set_option maxRecDepth 100000 in
theorem jM50 : ib_Ms 50 = some (yX5_init, cX5_init, 6, none, [], ib_c50) := rfl
set_option maxRecDepth 100000 in
theorem jM51 : ib_Ms 51 = some (yX5_begin, cX5_begin, 2, none, [], ib_c51) := rfl
set_option maxRecDepth 100000 in
theorem jM52 : ib_Ms 52 = some (yX5_mend, cX5_mend, 1, (some Jvm.ClassFile.FieldType.boolean), [], ib_c52) := rfl
set_option maxRecDepth 100000 in
theorem jM53 : ib_Ms 53 = some (yX5_readLog, cX5_readLog, 5, none, [], ib_c53) := rfl
set_option maxRecDepth 100000 in
theorem jM54 : ib_Ms 54 = some (yX5_latestMark, cX5_latestMark, 3, (some Jvm.ClassFile.FieldType.int), [], ib_c54) := rfl
set_option maxRecDepth 100000 in
theorem jM55 : ib_Ms 55 = some (yX5_believe, cX5_believe, 3, none, [], ib_c55) := rfl
set_option maxRecDepth 100000 in
theorem jM56 : ib_Ms 56 = some (yX5_readRecord, cX5_readRecord, 5, none, [], ib_c56) := rfl
set_option maxRecDepth 100000 in
theorem jM57 : ib_Ms 57 = some (yX5_redo, cX5_redo, 4, (some Jvm.ClassFile.FieldType.boolean), [], ib_c57) := rfl
set_option maxRecDepth 100000 in
theorem jM58 : ib_Ms 58 = some (yX5_leastFirst, cX5_leastFirst, 3, (some Jvm.ClassFile.FieldType.int), [], ib_c58) := rfl
set_option maxRecDepth 100000 in
theorem jM59 : ib_Ms 59 = some (yX5_redoPage, cX5_redoPage, 6, (some Jvm.ClassFile.FieldType.boolean), [], ib_c59) := rfl
set_option maxRecDepth 100000 in
theorem jM60 : ib_Ms 60 = some (yX5_tidy, cX5_tidy, 4, (some Jvm.ClassFile.FieldType.boolean), [], ib_c60) := rfl
set_option maxRecDepth 100000 in
theorem jM61 : ib_Ms 61 = some (yX6_init, cX6_init, 2, none, [], ib_c61) := rfl
set_option maxRecDepth 100000 in
theorem jM62 : ib_Ms 62 = some (yX6_begin, cX6_begin, 2, none, [], ib_c62) := rfl
set_option maxRecDepth 100000 in
theorem jM63 : ib_Ms 63 = some (yX6_finish, cX6_finish, 3, none, [], ib_c63) := rfl
set_option maxRecDepth 100000 in
theorem jM64 : ib_Ms 64 = some (yX6_clear, cX6_clear, 2, none, [], ib_c64) := rfl
set_option maxRecDepth 100000 in
theorem jM65 : ib_Ms 65 = some (yX6_noteRecord, cX6_noteRecord, 4, (some Jvm.ClassFile.FieldType.int), [], ib_c65) := rfl
set_option maxRecDepth 100000 in
theorem jM66 : ib_Ms 66 = some (yX6_victimOnRing, cX6_victimOnRing, 5, (some Jvm.ClassFile.FieldType.int), [], ib_c66) := rfl
set_option maxRecDepth 100000 in
theorem jM67 : ib_Ms 67 = some (yX6_tellLatest, cX6_tellLatest, 3, none, [], ib_c67) := rfl
set_option maxRecDepth 100000 in
theorem jM68 : ib_Ms 68 = some (yX7_init, cX7_init, 3, none, [], ib_c68) := rfl
set_option maxRecDepth 100000 in
theorem jM69 : ib_Ms 69 = some (yX7_onWay, cX7_onWay, 2, (some Jvm.ClassFile.FieldType.int), [], ib_c69) := rfl
set_option maxRecDepth 100000 in
theorem jM70 : ib_Ms 70 = some (yX7_end, cX7_end, 1, (some Jvm.ClassFile.FieldType.int), [], ib_c70) := rfl
set_option maxRecDepth 100000 in
theorem jM71 : ib_Ms 71 = some (yX7_find, cX7_find, 5, (some Jvm.ClassFile.FieldType.boolean), [], ib_c71) := rfl
set_option maxRecDepth 100000 in
theorem jM72 : ib_Ms 72 = some (yX7_valueAtEnd, cX7_valueAtEnd, 3, (some Jvm.ClassFile.FieldType.int), [], ib_c72) := rfl
set_option maxRecDepth 100000 in
theorem jM73 : ib_Ms 73 = some (yX7_endIsFullFor, cX7_endIsFullFor, 3, (some Jvm.ClassFile.FieldType.boolean), [], ib_c73) := rfl
set_option maxRecDepth 100000 in
theorem jM74 : ib_Ms 74 = some (yX7_topmostFull, cX7_topmostFull, 4, (some Jvm.ClassFile.FieldType.int), [], ib_c74) := rfl
set_option maxRecDepth 100000 in
theorem jM75 : ib_Ms 75 = some (yX7_freePageBehind, cX7_freePageBehind, 3, (some Jvm.ClassFile.FieldType.int), [], ib_c75) := rfl
set_option maxRecDepth 100000 in
theorem jM76 : ib_Ms 76 = some (yX7_pagesSufficeToSplit, cX7_pagesSufficeToSplit, 3, (some Jvm.ClassFile.FieldType.boolean), [], ib_c76) := rfl
set_option maxRecDepth 100000 in
theorem jM77 : ib_Ms 77 = some (yX7_split, cX7_split, 4, (some Jvm.ClassFile.FieldType.boolean), [], ib_c77) := rfl
set_option maxRecDepth 100000 in
theorem jM78 : ib_Ms 78 = some (yX7_tellRootSplit, cX7_tellRootSplit, 7, none, [], ib_c78) := rfl
set_option maxRecDepth 100000 in
theorem jM79 : ib_Ms 79 = some (yX7_tellSplit, cX7_tellSplit, 9, none, [], ib_c79) := rfl
set_option maxRecDepth 100000 in
theorem jM80 : ib_Ms 80 = some (yX7_perform, cX7_perform, 6, (some Jvm.ClassFile.FieldType.boolean), [], ib_c80) := rfl
set_option maxRecDepth 100000 in
theorem jM81 : ib_Ms 81 = some (yX7_endIsBare, cX7_endIsBare, 2, (some Jvm.ClassFile.FieldType.boolean), [], ib_c81) := rfl
set_option maxRecDepth 100000 in
theorem jM82 : ib_Ms 82 = some (yX7_stepUp, cX7_stepUp, 1, (some Jvm.ClassFile.FieldType.int), [], ib_c82) := rfl
set_option maxRecDepth 100000 in
theorem jM83 : ib_Ms 83 = some (yX7_goes, cX7_goes, 6, (some Jvm.ClassFile.FieldType.boolean), [], ib_c83) := rfl
set_option maxRecDepth 100000 in
theorem jM84 : ib_Ms 84 = some (yX7_tellGo, cX7_tellGo, 6, none, [], ib_c84) := rfl
set_option maxRecDepth 100000 in
theorem jM85 : ib_Ms 85 = some (yX7_tellTakeOver, cX7_tellTakeOver, 4, none, [], ib_c85) := rfl
set_option maxRecDepth 100000 in
theorem jM86 : ib_Ms 86 = some (yX7_onlyChildOfRoot, cX7_onlyChildOfRoot, 2, (some Jvm.ClassFile.FieldType.int), [], ib_c86) := rfl
set_option maxRecDepth 100000 in
theorem jM87 : ib_Ms 87 = some (yX7_lowestUnsettled, cX7_lowestUnsettled, 3, (some Jvm.ClassFile.FieldType.int), [], ib_c87) := rfl
set_option maxRecDepth 100000 in
theorem jM88 : ib_Ms 88 = some (yX7_parentOf, cX7_parentOf, 4, (some Jvm.ClassFile.FieldType.int), [], ib_c88) := rfl
set_option maxRecDepth 100000 in
theorem jM89 : ib_Ms 89 = some (yX8_init, cX8_init, 4, none, [], ib_c89) := rfl
set_option maxRecDepth 100000 in
theorem jM90 : ib_Ms 90 = some (yX8_lookAtAlone, cX8_lookAtAlone, 3, none, [], ib_c90) := rfl
set_option maxRecDepth 100000 in
theorem jM91 : ib_Ms 91 = some (yX8_lookAtAllWithRecords, cX8_lookAtAllWithRecords, 2, none, [], ib_c91) := rfl
set_option maxRecDepth 100000 in
theorem jM92 : ib_Ms 92 = some (yX8_goBack, cX8_goBack, 9, (some Jvm.ClassFile.FieldType.boolean), [], ib_c92) := rfl
set_option maxRecDepth 100000 in
theorem jM93 : ib_Ms 93 = some (yX8_nextTransaction, cX8_nextTransaction, 4, (some Jvm.ClassFile.FieldType.int), [], ib_c93) := rfl
set_option maxRecDepth 100000 in
theorem jM94 : ib_Ms 94 = some (yX8_recordAheadOf, cX8_recordAheadOf, 3, (some Jvm.ClassFile.FieldType.int), [], ib_c94) := rfl
set_option maxRecDepth 100000 in
theorem jM95 : ib_Ms 95 = some (yX8_tellUndo, cX8_tellUndo, 3, (some Jvm.ClassFile.FieldType.boolean), [], ib_c95) := rfl
set_option maxRecDepth 100000 in
theorem jM96 : ib_Ms 96 = some (yX8_end, cX8_end, 2, (some Jvm.ClassFile.FieldType.boolean), [], ib_c96) := rfl
set_option maxRecDepth 100000 in
theorem jM97 : ib_Ms 97 = some (yX9_init, cX9_init, 4, none, [], ib_c97) := rfl
set_option maxRecDepth 100000 in
theorem jM98 : ib_Ms 98 = some (yX9_agreesWithLog, cX9_agreesWithLog, 4, (some Jvm.ClassFile.FieldType.boolean), [], ib_c98) := rfl
set_option maxRecDepth 100000 in
theorem jM99 : ib_Ms 99 = some (yX9_leafOf, cX9_leafOf, 5, (some (Jvm.ClassFile.FieldType.object "PageLoom$Page")), [], ib_c99) := rfl
set_option maxRecDepth 100000 in
theorem jM100 : ib_Ms 100 = some (yX9_leastFault, cX9_leastFault, 3, (some Jvm.ClassFile.FieldType.int), [], ib_c100) := rfl
set_option maxRecDepth 100000 in
theorem jM101 : ib_Ms 101 = some (yX9_fault, cX9_fault, 2, none, [], ib_c101) := rfl
set_option maxRecDepth 100000 in
theorem jM102 : ib_Ms 102 = some (yX9_meet, cX9_meet, 5, none, [], ib_c102) := rfl
set_option maxRecDepth 100000 in
theorem jM103 : ib_Ms 103 = some (yX9_lookInto, cX9_lookInto, 3, none, [], ib_c103) := rfl
set_option maxRecDepth 100000 in
theorem jM104 : ib_Ms 104 = some (yX9_lookIntoLeaf, cX9_lookIntoLeaf, 5, none, [], ib_c104) := rfl
set_option maxRecDepth 100000 in
theorem jM105 : ib_Ms 105 = some (yX9_lookIntoInner, cX9_lookIntoInner, 7, none, [], ib_c105) := rfl
set_option maxRecDepth 100000 in
theorem jM106 : ib_Ms 106 = some (yX10_init, cX10_init, 1, none, [], ib_c106) := rfl
set_option maxRecDepth 100000 in
theorem jM107 : ib_Ms 107 = some (yX10_open, cX10_open, 2, none, [], ib_c107) := rfl
set_option maxRecDepth 100000 in
theorem jM108 : ib_Ms 108 = some (yX10_put, cX10_put, 5, (some Jvm.ClassFile.FieldType.int), [], ib_c108) := rfl
set_option maxRecDepth 100000 in
theorem jM109 : ib_Ms 109 = some (yX10_take, cX10_take, 8, (some Jvm.ClassFile.FieldType.int), [], ib_c109) := rfl
set_option maxRecDepth 100000 in
theorem jM110 : ib_Ms 110 = some (yX10_read, cX10_read, 4, (some Jvm.ClassFile.FieldType.int), [], ib_c110) := rfl
set_option maxRecDepth 100000 in
theorem jM111 : ib_Ms 111 = some (yX10_place, cX10_place, 2, (some Jvm.ClassFile.FieldType.int), [], ib_c111) := rfl
set_option maxRecDepth 100000 in
theorem jM112 : ib_Ms 112 = some (yX10_back, cX10_back, 3, (some Jvm.ClassFile.FieldType.int), [], ib_c112) := rfl
set_option maxRecDepth 100000 in
theorem jM113 : ib_Ms 113 = some (yX10_commit, cX10_commit, 2, (some Jvm.ClassFile.FieldType.int), [], ib_c113) := rfl
set_option maxRecDepth 100000 in
theorem jM114 : ib_Ms 114 = some (yX10_undo, cX10_undo, 2, (some Jvm.ClassFile.FieldType.int), [], ib_c114) := rfl
set_option maxRecDepth 100000 in
theorem jM115 : ib_Ms 115 = some (yX10_mark, cX10_mark, 2, (some Jvm.ClassFile.FieldType.int), [], ib_c115) := rfl
set_option maxRecDepth 100000 in
theorem jM116 : ib_Ms 116 = some (yX10_write, cX10_write, 2, (some Jvm.ClassFile.FieldType.int), [], ib_c116) := rfl
set_option maxRecDepth 100000 in
theorem jM117 : ib_Ms 117 = some (yX10_crashAt, cX10_crashAt, 2, none, [], ib_c117) := rfl
set_option maxRecDepth 100000 in
theorem jM118 : ib_Ms 118 = some (yX10_crash, cX10_crash, 1, none, [], ib_c118) := rfl
set_option maxRecDepth 100000 in
theorem jM119 : ib_Ms 119 = some (yX10_recover, cX10_recover, 2, (some Jvm.ClassFile.FieldType.int), [], ib_c119) := rfl
set_option maxRecDepth 100000 in
theorem jM120 : ib_Ms 120 = some (yX10_records, cX10_records, 1, (some Jvm.ClassFile.FieldType.int), [], ib_c120) := rfl
set_option maxRecDepth 100000 in
theorem jM121 : ib_Ms 121 = some (yX10_page, cX10_page, 4, (some Jvm.ClassFile.FieldType.int), [], ib_c121) := rfl
set_option maxRecDepth 100000 in
theorem jM122 : ib_Ms 122 = some (yX10_entry, cX10_entry, 4, (some Jvm.ClassFile.FieldType.int), [], ib_c122) := rfl
set_option maxRecDepth 100000 in
theorem jM123 : ib_Ms 123 = some (yX10_records, cX10_records, 1, (some Jvm.ClassFile.FieldType.int), [], ib_c123) := rfl
set_option maxRecDepth 100000 in
theorem jM124 : ib_Ms 124 = some (yX10_records, cX10_records, 1, (some Jvm.ClassFile.FieldType.int), [], ib_c124) := rfl
set_option maxRecDepth 100000 in
theorem jM125 : ib_Ms 125 = some (yX10_records, cX10_records, 1, (some Jvm.ClassFile.FieldType.int), [], ib_c125) := rfl
set_option maxRecDepth 100000 in
theorem jM126 : ib_Ms 126 = some (yX10_records, cX10_records, 1, (some Jvm.ClassFile.FieldType.int), [], ib_c126) := rfl
set_option maxRecDepth 100000 in
theorem jM127 : ib_Ms 127 = some (yX10_durable, cX10_durable, 1, (some Jvm.ClassFile.FieldType.int), [], ib_c127) := rfl
set_option maxRecDepth 100000 in
theorem jM128 : ib_Ms 128 = some (yX10_records, cX10_records, 1, (some Jvm.ClassFile.FieldType.int), [], ib_c128) := rfl
set_option maxRecDepth 100000 in
theorem jM129 : ib_Ms 129 = some (yX10_holder, cX10_holder, 2, (some Jvm.ClassFile.FieldType.int), [], ib_c129) := rfl
set_option maxRecDepth 100000 in
theorem jM130 : ib_Ms 130 = some (yX10_waitsFor, cX10_waitsFor, 2, (some Jvm.ClassFile.FieldType.int), [], ib_c130) := rfl
set_option maxRecDepth 100000 in
theorem jM131 : ib_Ms 131 = some (yX10_plain, cX10_plain, 2, (some Jvm.ClassFile.FieldType.int), [], ib_c131) := rfl
set_option maxRecDepth 100000 in
theorem jM132 : ib_Ms 132 = some (yX10_agrees, cX10_agrees, 1, (some Jvm.ClassFile.FieldType.boolean), [], ib_c132) := rfl
set_option maxRecDepth 100000 in
theorem jM133 : ib_Ms 133 = some (yX10_check, cX10_check, 1, (some Jvm.ClassFile.FieldType.int), [], ib_c133) := rfl
set_option maxRecDepth 100000 in
theorem jM134 : ib_Ms 134 = some (yX10_needTransaction, cX10_needTransaction, 1, none, [], ib_c134) := rfl
set_option maxRecDepth 100000 in
theorem jM135 : ib_Ms 135 = some (yX10_needKey, cX10_needKey, 1, none, [], ib_c135) := rfl
set_option maxRecDepth 100000 in
theorem jM136 : ib_Ms 136 = some (yX10_needPage, cX10_needPage, 1, none, [], ib_c136) := rfl
set_option maxRecDepth 100000 in
theorem jM137 : ib_Ms 137 = some (yX10_needNoCrash, cX10_needNoCrash, 1, none, [], ib_c137) := rfl
set_option maxRecDepth 100000 in
theorem jM138 : ib_Ms 138 = some (yX10_needOpen, cX10_needOpen, 2, none, [], ib_c138) := rfl
set_option maxRecDepth 100000 in
theorem jM139 : ib_Ms 139 = some (yX10_needRoomInLog, cX10_needRoomInLog, 1, none, [], ib_c139) := rfl
set_option maxRecDepth 100000 in
theorem jM140 : ib_Ms 140 = some (yX10_told, cX10_told, 2, (some Jvm.ClassFile.FieldType.int), [], ib_c140) := rfl
set_option maxRecDepth 100000 in
theorem jM141 : ib_Ms 141 = some (yX10_fall, cX10_fall, 1, none, [], ib_c141) := rfl
set_option maxRecDepth 100000 in
theorem jM142 : ib_Ms 142 = some (yX10_lock, cX10_lock, 6, (some Jvm.ClassFile.FieldType.int), [], ib_c142) := rfl
set_option maxRecDepth 100000 in
theorem jM143 : ib_Ms 143 = some (yX10_splitFor, cX10_splitFor, 4, (some Jvm.ClassFile.FieldType.int), [], ib_c143) := rfl
set_option maxRecDepth 100000 in
theorem jM144 : ib_Ms 144 = some (yX10_changeLeaf, cX10_changeLeaf, 5, (some Jvm.ClassFile.FieldType.boolean), [], ib_c144) := rfl
set_option maxRecDepth 100000 in
theorem jM145 : ib_Ms 145 = some (yL_cell, cL_cell, 2, (some Jvm.ClassFile.FieldType.int), [], ib_c145) := rfl
set_option maxRecDepth 100000 in
theorem jM146 : ib_Ms 146 = some (yL_low, cL_low, 2, (some Jvm.ClassFile.FieldType.int), [], ib_c146) := rfl
set_option maxRecDepth 100000 in
theorem jM147 : ib_Ms 147 = some (yL_ends, cL_ends, 4, none, [], ib_c147) := rfl
set_option maxRecDepth 100000 in
theorem jM148 : ib_Ms 148 = some (yL_undoes, cL_undoes, 8, (some Jvm.ClassFile.FieldType.int), [], ib_c148) := rfl
set_option maxRecDepth 100000 in
theorem jM149 : ib_Ms 149 = some (yL_falls, cL_falls, 6, (some Jvm.ClassFile.FieldType.boolean), [], ib_c149) := rfl
set_option maxRecDepth 100000 in
theorem jM150 : ib_Ms 150 = some (yL_locks, cL_locks, 11, (some Jvm.ClassFile.FieldType.int), [], ib_c150) := rfl
set_option maxRecDepth 100000 in
theorem jM151 : ib_Ms 151 = some (yL_same, cL_same, 11, (some Jvm.ClassFile.FieldType.boolean), [], ib_c151) := rfl
set_option maxRecDepth 100000 in
theorem jM152 : ib_Ms 152 = some (yL_changes, cL_changes, 16, (some Jvm.ClassFile.FieldType.boolean), [], ib_c152) := rfl
set_option maxRecDepth 100000 in
theorem jM153 : ib_Ms 153 = some (yL_ending, cL_ending, 12, (some Jvm.ClassFile.FieldType.boolean), [], ib_c153) := rfl
set_option maxRecDepth 100000 in
theorem jM154 : ib_Ms 154 = some (yL_law, cL_law, maxLocals, ret, [], ib_c154) := rfl
theorem je_0_0 : ib_ks 0 0 = 2 := rfl
theorem je_0_1 : ib_ks 0 1 = 2 := rfl
theorem je_0_2 : ib_ks 0 2 = 2 := rfl
theorem je_0_3 : ib_ks 0 3 = 2 := rfl
theorem je_0_4 : ib_ks 0 4 = 2 := rfl
theorem jn_0_5 : ib_ks 0 5 ≠ 2 := by decide
theorem jz_0_5 : ib_ks 0 5 = 0 := rfl
theorem je_1_0 : ib_ks 1 0 = 2 := rfl
theorem je_1_1 : ib_ks 1 1 = 2 := rfl
theorem je_1_2 : ib_ks 1 2 = 2 := rfl
theorem je_1_3 : ib_ks 1 3 = 2 := rfl
theorem jn_1_4 : ib_ks 1 4 ≠ 2 := by decide
theorem jz_1_4 : ib_ks 1 4 = 0 := rfl
theorem jn_1_5 : ib_ks 1 5 ≠ 2 := by decide
theorem jz_1_5 : ib_ks 1 5 = 0 := rfl
theorem jn_1_6 : ib_ks 1 6 ≠ 2 := by decide
theorem jz_1_6 : ib_ks 1 6 = 0 := rfl
theorem jn_1_7 : ib_ks 1 7 ≠ 2 := by decide
theorem jz_1_7 : ib_ks 1 7 = 0 := rfl
theorem jn_1_8 : ib_ks 1 8 ≠ 2 := by decide
theorem jz_1_8 : ib_ks 1 8 = 0 := rfl
theorem jn_1_9 : ib_ks 1 9 ≠ 2 := by decide
theorem jz_1_9 : ib_ks 1 9 = 0 := rfl
theorem jn_1_10 : ib_ks 1 10 ≠ 2 := by decide
theorem jz_1_10 : ib_ks 1 10 = 0 := rfl
theorem je_2_0 : ib_ks 2 0 = 2 := rfl
theorem je_2_1 : ib_ks 2 1 = 2 := rfl
theorem je_2_2 : ib_ks 2 2 = 2 := rfl
theorem je_2_3 : ib_ks 2 3 = 2 := rfl
theorem jn_2_4 : ib_ks 2 4 ≠ 2 := by decide
theorem jz_2_4 : ib_ks 2 4 = 0 := rfl
theorem jn_3_0 : ib_ks 3 0 ≠ 2 := by decide
theorem jz_3_0 : ib_ks 3 0 = 0 := rfl
theorem jn_3_1 : ib_ks 3 1 ≠ 2 := by decide
theorem jz_3_1 : ib_ks 3 1 = 0 := rfl
theorem jn_3_2 : ib_ks 3 2 ≠ 2 := by decide
theorem jz_3_2 : ib_ks 3 2 = 0 := rfl
theorem jn_3_3 : ib_ks 3 3 ≠ 2 := by decide
theorem jz_3_3 : ib_ks 3 3 = 0 := rfl
theorem jn_3_4 : ib_ks 3 4 ≠ 2 := by decide
theorem jz_3_4 : ib_ks 3 4 = 0 := rfl
theorem jn_3_5 : ib_ks 3 5 ≠ 2 := by decide
theorem jz_3_5 : ib_ks 3 5 = 0 := rfl
theorem jn_3_6 : ib_ks 3 6 ≠ 2 := by decide
theorem jz_3_6 : ib_ks 3 6 = 0 := rfl
theorem jn_3_7 : ib_ks 3 7 ≠ 2 := by decide
theorem jz_3_7 : ib_ks 3 7 = 0 := rfl
theorem jn_3_8 : ib_ks 3 8 ≠ 2 := by decide
theorem jz_3_8 : ib_ks 3 8 = 0 := rfl
theorem je_3_9 : ib_ks 3 9 = 2 := rfl
theorem je_3_10 : ib_ks 3 10 = 2 := rfl
theorem je_3_11 : ib_ks 3 11 = 2 := rfl
theorem je_3_12 : ib_ks 3 12 = 2 := rfl
theorem jn_4_0 : ib_ks 4 0 ≠ 2 := by decide
theorem jz_4_0 : ib_ks 4 0 = 0 := rfl
theorem jn_4_1 : ib_ks 4 1 ≠ 2 := by decide
theorem jz_4_1 : ib_ks 4 1 = 0 := rfl
theorem jn_4_2 : ib_ks 4 2 ≠ 2 := by decide
theorem jz_4_2 : ib_ks 4 2 = 0 := rfl
theorem je_4_3 : ib_ks 4 3 = 2 := rfl
theorem je_5_0 : ib_ks 5 0 = 2 := rfl
theorem je_5_1 : ib_ks 5 1 = 2 := rfl
theorem je_5_2 : ib_ks 5 2 = 2 := rfl
theorem je_5_3 : ib_ks 5 3 = 2 := rfl
theorem je_5_4 : ib_ks 5 4 = 2 := rfl
theorem je_5_5 : ib_ks 5 5 = 2 := rfl
theorem je_5_6 : ib_ks 5 6 = 2 := rfl
theorem je_6_0 : ib_ks 6 0 = 2 := rfl
theorem je_6_1 : ib_ks 6 1 = 2 := rfl
theorem je_6_2 : ib_ks 6 2 = 2 := rfl
theorem je_6_3 : ib_ks 6 3 = 2 := rfl
theorem je_6_4 : ib_ks 6 4 = 2 := rfl
theorem je_7_0 : ib_ks 7 0 = 2 := rfl
theorem je_7_1 : ib_ks 7 1 = 2 := rfl
theorem je_7_2 : ib_ks 7 2 = 2 := rfl
theorem jn_7_3 : ib_ks 7 3 ≠ 2 := by decide
theorem jz_7_3 : ib_ks 7 3 = 0 := rfl
theorem je_8_0 : ib_ks 8 0 = 2 := rfl
theorem je_8_1 : ib_ks 8 1 = 2 := rfl
theorem je_8_2 : ib_ks 8 2 = 2 := rfl
theorem je_8_3 : ib_ks 8 3 = 2 := rfl
theorem jn_8_4 : ib_ks 8 4 ≠ 2 := by decide
theorem jz_8_4 : ib_ks 8 4 = 0 := rfl
theorem je_9_0 : ib_ks 9 0 = 2 := rfl
theorem je_9_1 : ib_ks 9 1 = 2 := rfl
theorem je_9_2 : ib_ks 9 2 = 2 := rfl
theorem je_9_3 : ib_ks 9 3 = 2 := rfl
theorem je_9_4 : ib_ks 9 4 = 2 := rfl
theorem je_9_5 : ib_ks 9 5 = 2 := rfl
theorem je_9_6 : ib_ks 9 6 = 2 := rfl
theorem je_9_7 : ib_ks 9 7 = 2 := rfl
theorem jn_9_8 : ib_ks 9 8 ≠ 2 := by decide
theorem jz_9_8 : ib_ks 9 8 = 0 := rfl
theorem jn_9_9 : ib_ks 9 9 ≠ 2 := by decide
theorem jz_9_9 : ib_ks 9 9 = 0 := rfl
theorem jn_9_10 : ib_ks 9 10 ≠ 2 := by decide
theorem jz_9_10 : ib_ks 9 10 = 0 := rfl
theorem je_10_0 : ib_ks 10 0 = 2 := rfl
theorem je_10_1 : ib_ks 10 1 = 2 := rfl
theorem je_10_2 : ib_ks 10 2 = 2 := rfl
theorem je_10_3 : ib_ks 10 3 = 2 := rfl
theorem je_10_4 : ib_ks 10 4 = 2 := rfl
theorem je_10_5 : ib_ks 10 5 = 2 := rfl
theorem je_10_6 : ib_ks 10 6 = 2 := rfl
theorem je_10_7 : ib_ks 10 7 = 2 := rfl
theorem jn_10_8 : ib_ks 10 8 ≠ 2 := by decide
theorem jy_10_8 : ib_ks 10 8 = 1 := rfl
theorem je_11_0 : ib_ks 11 0 = 2 := rfl
theorem jo_2 {σ : ib_H} (h : jb_F σ) : jb_ob σ 10 2 := jb_Fo h rfl rfl
theorem jo_3 {σ : ib_H} (h : jb_F σ) : jb_ob σ 1 3 := jb_Fo h rfl rfl
theorem ja_4 {σ : ib_H} (h : jb_F σ) : jb_arr σ 103 4 24 := jb_Fa h rfl rfl
theorem ja_5 {σ : ib_H} (h : jb_F σ) : jb_arr σ 100 5 24 := jb_Fa h rfl rfl
theorem ja_6 {σ : ib_H} (h : jb_F σ) : jb_arr σ 100 6 24 := jb_Fa h rfl rfl
theorem jo_7 {σ : ib_H} (h : jb_F σ) : jb_ob σ 4 7 := jb_Fo h rfl rfl
theorem ja_8 {σ : ib_H} (h : jb_F σ) : jb_arr σ 100 8 32 := jb_Fa h rfl rfl
theorem jo_9 {σ : ib_H} (h : jb_F σ) : jb_ob σ 4 9 := jb_Fo h rfl rfl
theorem ja_10 {σ : ib_H} (h : jb_F σ) : jb_arr σ 100 10 32 := jb_Fa h rfl rfl
theorem jo_11 {σ : ib_H} (h : jb_F σ) : jb_ob σ 4 11 := jb_Fo h rfl rfl
theorem ja_12 {σ : ib_H} (h : jb_F σ) : jb_arr σ 100 12 32 := jb_Fa h rfl rfl
theorem jo_13 {σ : ib_H} (h : jb_F σ) : jb_ob σ 4 13 := jb_Fo h rfl rfl
theorem ja_14 {σ : ib_H} (h : jb_F σ) : jb_arr σ 100 14 32 := jb_Fa h rfl rfl
theorem jo_15 {σ : ib_H} (h : jb_F σ) : jb_ob σ 4 15 := jb_Fo h rfl rfl
theorem ja_16 {σ : ib_H} (h : jb_F σ) : jb_arr σ 100 16 32 := jb_Fa h rfl rfl
theorem jo_17 {σ : ib_H} (h : jb_F σ) : jb_ob σ 4 17 := jb_Fo h rfl rfl
theorem ja_18 {σ : ib_H} (h : jb_F σ) : jb_arr σ 100 18 32 := jb_Fa h rfl rfl
theorem jo_19 {σ : ib_H} (h : jb_F σ) : jb_ob σ 4 19 := jb_Fo h rfl rfl
theorem ja_20 {σ : ib_H} (h : jb_F σ) : jb_arr σ 100 20 32 := jb_Fa h rfl rfl
theorem jo_21 {σ : ib_H} (h : jb_F σ) : jb_ob σ 4 21 := jb_Fo h rfl rfl
theorem ja_22 {σ : ib_H} (h : jb_F σ) : jb_arr σ 100 22 32 := jb_Fa h rfl rfl
theorem jo_23 {σ : ib_H} (h : jb_F σ) : jb_ob σ 4 23 := jb_Fo h rfl rfl
theorem ja_24 {σ : ib_H} (h : jb_F σ) : jb_arr σ 100 24 32 := jb_Fa h rfl rfl
theorem jo_25 {σ : ib_H} (h : jb_F σ) : jb_ob σ 4 25 := jb_Fo h rfl rfl
theorem ja_26 {σ : ib_H} (h : jb_F σ) : jb_arr σ 100 26 32 := jb_Fa h rfl rfl
theorem jo_27 {σ : ib_H} (h : jb_F σ) : jb_ob σ 4 27 := jb_Fo h rfl rfl
theorem ja_28 {σ : ib_H} (h : jb_F σ) : jb_arr σ 100 28 32 := jb_Fa h rfl rfl
theorem jo_29 {σ : ib_H} (h : jb_F σ) : jb_ob σ 4 29 := jb_Fo h rfl rfl
theorem ja_30 {σ : ib_H} (h : jb_F σ) : jb_arr σ 100 30 32 := jb_Fa h rfl rfl
theorem jo_31 {σ : ib_H} (h : jb_F σ) : jb_ob σ 4 31 := jb_Fo h rfl rfl
theorem ja_32 {σ : ib_H} (h : jb_F σ) : jb_arr σ 100 32 32 := jb_Fa h rfl rfl
theorem jo_33 {σ : ib_H} (h : jb_F σ) : jb_ob σ 4 33 := jb_Fo h rfl rfl
theorem ja_34 {σ : ib_H} (h : jb_F σ) : jb_arr σ 100 34 32 := jb_Fa h rfl rfl
theorem jo_35 {σ : ib_H} (h : jb_F σ) : jb_ob σ 4 35 := jb_Fo h rfl rfl
theorem ja_36 {σ : ib_H} (h : jb_F σ) : jb_arr σ 100 36 32 := jb_Fa h rfl rfl
theorem jo_37 {σ : ib_H} (h : jb_F σ) : jb_ob σ 4 37 := jb_Fo h rfl rfl
theorem ja_38 {σ : ib_H} (h : jb_F σ) : jb_arr σ 100 38 32 := jb_Fa h rfl rfl
theorem jo_39 {σ : ib_H} (h : jb_F σ) : jb_ob σ 4 39 := jb_Fo h rfl rfl
theorem ja_40 {σ : ib_H} (h : jb_F σ) : jb_arr σ 100 40 32 := jb_Fa h rfl rfl
theorem jo_41 {σ : ib_H} (h : jb_F σ) : jb_ob σ 4 41 := jb_Fo h rfl rfl
theorem ja_42 {σ : ib_H} (h : jb_F σ) : jb_arr σ 100 42 32 := jb_Fa h rfl rfl
theorem jo_43 {σ : ib_H} (h : jb_F σ) : jb_ob σ 4 43 := jb_Fo h rfl rfl
theorem ja_44 {σ : ib_H} (h : jb_F σ) : jb_arr σ 100 44 32 := jb_Fa h rfl rfl
theorem jo_45 {σ : ib_H} (h : jb_F σ) : jb_ob σ 4 45 := jb_Fo h rfl rfl
theorem ja_46 {σ : ib_H} (h : jb_F σ) : jb_arr σ 100 46 32 := jb_Fa h rfl rfl
theorem jo_47 {σ : ib_H} (h : jb_F σ) : jb_ob σ 4 47 := jb_Fo h rfl rfl
theorem ja_48 {σ : ib_H} (h : jb_F σ) : jb_arr σ 100 48 32 := jb_Fa h rfl rfl
theorem jo_49 {σ : ib_H} (h : jb_F σ) : jb_ob σ 4 49 := jb_Fo h rfl rfl
theorem ja_50 {σ : ib_H} (h : jb_F σ) : jb_arr σ 100 50 32 := jb_Fa h rfl rfl
theorem jo_51 {σ : ib_H} (h : jb_F σ) : jb_ob σ 4 51 := jb_Fo h rfl rfl
theorem ja_52 {σ : ib_H} (h : jb_F σ) : jb_arr σ 100 52 32 := jb_Fa h rfl rfl
theorem jo_53 {σ : ib_H} (h : jb_F σ) : jb_ob σ 4 53 := jb_Fo h rfl rfl
theorem ja_54 {σ : ib_H} (h : jb_F σ) : jb_arr σ 100 54 32 := jb_Fa h rfl rfl
theorem jo_55 {σ : ib_H} (h : jb_F σ) : jb_ob σ 4 55 := jb_Fo h rfl rfl
theorem ja_56 {σ : ib_H} (h : jb_F σ) : jb_arr σ 100 56 32 := jb_Fa h rfl rfl
theorem jo_57 {σ : ib_H} (h : jb_F σ) : jb_ob σ 6 57 := jb_Fo h rfl rfl
theorem ja_58 {σ : ib_H} (h : jb_F σ) : jb_arr σ 101 58 4 := jb_Fa h rfl rfl
theorem ja_59 {σ : ib_H} (h : jb_F σ) : jb_arr σ 100 59 4 := jb_Fa h rfl rfl
theorem ja_60 {σ : ib_H} (h : jb_F σ) : jb_arr σ 100 60 4 := jb_Fa h rfl rfl
theorem ja_61 {σ : ib_H} (h : jb_F σ) : jb_arr σ 100 61 4 := jb_Fa h rfl rfl
theorem ja_62 {σ : ib_H} (h : jb_F σ) : jb_arr σ 100 62 32 := jb_Fa h rfl rfl
theorem jo_63 {σ : ib_H} (h : jb_F σ) : jb_ob σ 2 63 := jb_Fo h rfl rfl
theorem ja_64 {σ : ib_H} (h : jb_F σ) : jb_arr σ 104 64 1100 := jb_Fa h rfl rfl
theorem ja_65 {σ : ib_H} (h : jb_F σ) : jb_arr σ 100 65 32 := jb_Fa h rfl rfl
theorem jo_66 {σ : ib_H} (h : jb_F σ) : jb_ob σ 0 66 := jb_Fo h rfl rfl
theorem ja_67 {σ : ib_H} (h : jb_F σ) : jb_arr σ 103 67 4 := jb_Fa h rfl rfl
theorem ja_68 {σ : ib_H} (h : jb_F σ) : jb_arr σ 100 68 4 := jb_Fa h rfl rfl
theorem ja_69 {σ : ib_H} (h : jb_F σ) : jb_arr σ 101 69 4 := jb_Fa h rfl rfl
theorem ja_70 {σ : ib_H} (h : jb_F σ) : jb_arr σ 100 70 4 := jb_Fa h rfl rfl
theorem jo_71 {σ : ib_H} (h : jb_F σ) : jb_ob σ 4 71 := jb_Fo h rfl rfl
theorem ja_72 {σ : ib_H} (h : jb_F σ) : jb_arr σ 100 72 32 := jb_Fa h rfl rfl
theorem jo_73 {σ : ib_H} (h : jb_F σ) : jb_ob σ 4 73 := jb_Fo h rfl rfl
theorem ja_74 {σ : ib_H} (h : jb_F σ) : jb_arr σ 100 74 32 := jb_Fa h rfl rfl
theorem jo_75 {σ : ib_H} (h : jb_F σ) : jb_ob σ 4 75 := jb_Fo h rfl rfl
theorem ja_76 {σ : ib_H} (h : jb_F σ) : jb_arr σ 100 76 32 := jb_Fa h rfl rfl
theorem jo_77 {σ : ib_H} (h : jb_F σ) : jb_ob σ 4 77 := jb_Fo h rfl rfl
theorem ja_78 {σ : ib_H} (h : jb_F σ) : jb_arr σ 100 78 32 := jb_Fa h rfl rfl
theorem jo_79 {σ : ib_H} (h : jb_F σ) : jb_ob σ 7 79 := jb_Fo h rfl rfl
theorem ja_80 {σ : ib_H} (h : jb_F σ) : jb_arr σ 100 80 24 := jb_Fa h rfl rfl
theorem jo_81 {σ : ib_H} (h : jb_F σ) : jb_ob σ 8 81 := jb_Fo h rfl rfl
theorem ja_82 {σ : ib_H} (h : jb_F σ) : jb_arr σ 100 82 4 := jb_Fa h rfl rfl
theorem jo_83 {σ : ib_H} (h : jb_F σ) : jb_ob σ 5 83 := jb_Fo h rfl rfl
theorem ja_84 {σ : ib_H} (h : jb_F σ) : jb_arr σ 100 84 24 := jb_Fa h rfl rfl
theorem ja_85 {σ : ib_H} (h : jb_F σ) : jb_arr σ 100 85 4 := jb_Fa h rfl rfl
theorem jo_86 {σ : ib_H} (h : jb_F σ) : jb_ob σ 9 86 := jb_Fo h rfl rfl
theorem ja_87 {σ : ib_H} (h : jb_F σ) : jb_arr σ 100 87 24 := jb_Fa h rfl rfl
theorem ja_88 {σ : ib_H} (h : jb_F σ) : jb_arr σ 100 88 24 := jb_Fa h rfl rfl
theorem ja_89 {σ : ib_H} (h : jb_F σ) : jb_arr σ 100 89 24 := jb_Fa h rfl rfl
theorem ja_90 {σ : ib_H} (h : jb_F σ) : jb_arr σ 100 90 24 := jb_Fa h rfl rfl
theorem ja_91 {σ : ib_H} (h : jb_F σ) : jb_arr σ 101 91 24 := jb_Fa h rfl rfl
theorem ja_92 {σ : ib_H} (h : jb_F σ) : jb_arr σ 100 92 64 := jb_Fa h rfl rfl
theorem ja_93 {σ : ib_H} (h : jb_F σ) : jb_arr σ 100 93 32 := jb_Fa h rfl rfl
theorem ja_94 {σ : ib_H} (h : jb_F σ) : jb_arr σ 100 94 16 := jb_Fa h rfl rfl
theorem ja_95 {σ : ib_H} (h : jb_F σ) : jb_arr σ 100 95 64 := jb_Fa h rfl rfl
theorem ja_96 {σ : ib_H} (h : jb_F σ) : jb_arr σ 100 96 64 := jb_Fa h rfl rfl
theorem ja_97 {σ : ib_H} (h : jb_F σ) : jb_arr σ 100 97 64 := jb_Fa h rfl rfl
theorem jp_2_0 {σ : ib_H} (h : jb_F σ) : jb_p σ 2 0 = 3 := jb_Fp h rfl
theorem jp_2_1 {σ : ib_H} (h : jb_F σ) : jb_p σ 2 1 = 57 := jb_Fp h rfl
theorem jp_2_2 {σ : ib_H} (h : jb_F σ) : jb_p σ 2 2 = 63 := jb_Fp h rfl
theorem jp_2_3 {σ : ib_H} (h : jb_F σ) : jb_p σ 2 3 = 66 := jb_Fp h rfl
theorem jp_2_4 {σ : ib_H} (h : jb_F σ) : jb_p σ 2 4 = 79 := jb_Fp h rfl
theorem jp_2_5 {σ : ib_H} (h : jb_F σ) : jb_p σ 2 5 = 81 := jb_Fp h rfl
theorem jp_2_6 {σ : ib_H} (h : jb_F σ) : jb_p σ 2 6 = 83 := jb_Fp h rfl
theorem jp_2_7 {σ : ib_H} (h : jb_F σ) : jb_p σ 2 7 = 86 := jb_Fp h rfl
theorem jp_3_0 {σ : ib_H} (h : jb_F σ) : jb_p σ 3 0 = 4 := jb_Fp h rfl
theorem jp_3_1 {σ : ib_H} (h : jb_F σ) : jb_p σ 3 1 = 5 := jb_Fp h rfl
theorem jp_3_2 {σ : ib_H} (h : jb_F σ) : jb_p σ 3 2 = 6 := jb_Fp h rfl
theorem jp_3_3 {σ : ib_H} (h : jb_F σ) : jb_p σ 3 3 = 7 := jb_Fp h rfl
theorem jp_7_3 {σ : ib_H} (h : jb_F σ) : jb_p σ 7 3 = 8 := jb_Fp h rfl
theorem jp_9_3 {σ : ib_H} (h : jb_F σ) : jb_p σ 9 3 = 10 := jb_Fp h rfl
theorem jp_11_3 {σ : ib_H} (h : jb_F σ) : jb_p σ 11 3 = 12 := jb_Fp h rfl
theorem jp_13_3 {σ : ib_H} (h : jb_F σ) : jb_p σ 13 3 = 14 := jb_Fp h rfl
theorem jp_15_3 {σ : ib_H} (h : jb_F σ) : jb_p σ 15 3 = 16 := jb_Fp h rfl
theorem jp_17_3 {σ : ib_H} (h : jb_F σ) : jb_p σ 17 3 = 18 := jb_Fp h rfl
theorem jp_19_3 {σ : ib_H} (h : jb_F σ) : jb_p σ 19 3 = 20 := jb_Fp h rfl
theorem jp_21_3 {σ : ib_H} (h : jb_F σ) : jb_p σ 21 3 = 22 := jb_Fp h rfl
theorem jp_23_3 {σ : ib_H} (h : jb_F σ) : jb_p σ 23 3 = 24 := jb_Fp h rfl
theorem jp_25_3 {σ : ib_H} (h : jb_F σ) : jb_p σ 25 3 = 26 := jb_Fp h rfl
theorem jp_27_3 {σ : ib_H} (h : jb_F σ) : jb_p σ 27 3 = 28 := jb_Fp h rfl
theorem jp_29_3 {σ : ib_H} (h : jb_F σ) : jb_p σ 29 3 = 30 := jb_Fp h rfl
theorem jp_31_3 {σ : ib_H} (h : jb_F σ) : jb_p σ 31 3 = 32 := jb_Fp h rfl
theorem jp_33_3 {σ : ib_H} (h : jb_F σ) : jb_p σ 33 3 = 34 := jb_Fp h rfl
theorem jp_35_3 {σ : ib_H} (h : jb_F σ) : jb_p σ 35 3 = 36 := jb_Fp h rfl
theorem jp_37_3 {σ : ib_H} (h : jb_F σ) : jb_p σ 37 3 = 38 := jb_Fp h rfl
theorem jp_39_3 {σ : ib_H} (h : jb_F σ) : jb_p σ 39 3 = 40 := jb_Fp h rfl
theorem jp_41_3 {σ : ib_H} (h : jb_F σ) : jb_p σ 41 3 = 42 := jb_Fp h rfl
theorem jp_43_3 {σ : ib_H} (h : jb_F σ) : jb_p σ 43 3 = 44 := jb_Fp h rfl
theorem jp_45_3 {σ : ib_H} (h : jb_F σ) : jb_p σ 45 3 = 46 := jb_Fp h rfl
theorem jp_47_3 {σ : ib_H} (h : jb_F σ) : jb_p σ 47 3 = 48 := jb_Fp h rfl
theorem jp_49_3 {σ : ib_H} (h : jb_F σ) : jb_p σ 49 3 = 50 := jb_Fp h rfl
theorem jp_51_3 {σ : ib_H} (h : jb_F σ) : jb_p σ 51 3 = 52 := jb_Fp h rfl
theorem jp_53_3 {σ : ib_H} (h : jb_F σ) : jb_p σ 53 3 = 54 := jb_Fp h rfl
theorem jp_55_3 {σ : ib_H} (h : jb_F σ) : jb_p σ 55 3 = 56 := jb_Fp h rfl
theorem jp_57_0 {σ : ib_H} (h : jb_F σ) : jb_p σ 57 0 = 58 := jb_Fp h rfl
theorem jp_57_1 {σ : ib_H} (h : jb_F σ) : jb_p σ 57 1 = 59 := jb_Fp h rfl
theorem jp_57_2 {σ : ib_H} (h : jb_F σ) : jb_p σ 57 2 = 60 := jb_Fp h rfl
theorem jp_57_3 {σ : ib_H} (h : jb_F σ) : jb_p σ 57 3 = 61 := jb_Fp h rfl
theorem jp_57_4 {σ : ib_H} (h : jb_F σ) : jb_p σ 57 4 = 62 := jb_Fp h rfl
theorem jp_63_0 {σ : ib_H} (h : jb_F σ) : jb_p σ 63 0 = 3 := jb_Fp h rfl
theorem jp_63_1 {σ : ib_H} (h : jb_F σ) : jb_p σ 63 1 = 57 := jb_Fp h rfl
theorem jp_63_2 {σ : ib_H} (h : jb_F σ) : jb_p σ 63 2 = 64 := jb_Fp h rfl
theorem jp_63_3 {σ : ib_H} (h : jb_F σ) : jb_p σ 63 3 = 65 := jb_Fp h rfl
theorem jp_66_0 {σ : ib_H} (h : jb_F σ) : jb_p σ 66 0 = 3 := jb_Fp h rfl
theorem jp_66_1 {σ : ib_H} (h : jb_F σ) : jb_p σ 66 1 = 67 := jb_Fp h rfl
theorem jp_66_2 {σ : ib_H} (h : jb_F σ) : jb_p σ 66 2 = 68 := jb_Fp h rfl
theorem jp_66_3 {σ : ib_H} (h : jb_F σ) : jb_p σ 66 3 = 69 := jb_Fp h rfl
theorem jp_66_4 {σ : ib_H} (h : jb_F σ) : jb_p σ 66 4 = 70 := jb_Fp h rfl
theorem jp_71_3 {σ : ib_H} (h : jb_F σ) : jb_p σ 71 3 = 72 := jb_Fp h rfl
theorem jp_73_3 {σ : ib_H} (h : jb_F σ) : jb_p σ 73 3 = 74 := jb_Fp h rfl
theorem jp_75_3 {σ : ib_H} (h : jb_F σ) : jb_p σ 75 3 = 76 := jb_Fp h rfl
theorem jp_77_3 {σ : ib_H} (h : jb_F σ) : jb_p σ 77 3 = 78 := jb_Fp h rfl
theorem jp_79_0 {σ : ib_H} (h : jb_F σ) : jb_p σ 79 0 = 66 := jb_Fp h rfl
theorem jp_79_1 {σ : ib_H} (h : jb_F σ) : jb_p σ 79 1 = 63 := jb_Fp h rfl
theorem jp_79_2 {σ : ib_H} (h : jb_F σ) : jb_p σ 79 2 = 80 := jb_Fp h rfl
theorem jp_81_0 {σ : ib_H} (h : jb_F σ) : jb_p σ 81 0 = 79 := jb_Fp h rfl
theorem jp_81_1 {σ : ib_H} (h : jb_F σ) : jb_p σ 81 1 = 63 := jb_Fp h rfl
theorem jp_81_2 {σ : ib_H} (h : jb_F σ) : jb_p σ 81 2 = 57 := jb_Fp h rfl
theorem jp_81_3 {σ : ib_H} (h : jb_F σ) : jb_p σ 81 3 = 82 := jb_Fp h rfl
theorem jp_83_0 {σ : ib_H} (h : jb_F σ) : jb_p σ 83 0 = 3 := jb_Fp h rfl
theorem jp_83_1 {σ : ib_H} (h : jb_F σ) : jb_p σ 83 1 = 63 := jb_Fp h rfl
theorem jp_83_2 {σ : ib_H} (h : jb_F σ) : jb_p σ 83 2 = 66 := jb_Fp h rfl
theorem jp_83_3 {σ : ib_H} (h : jb_F σ) : jb_p σ 83 3 = 79 := jb_Fp h rfl
theorem jp_83_4 {σ : ib_H} (h : jb_F σ) : jb_p σ 83 4 = 57 := jb_Fp h rfl
theorem jp_83_5 {σ : ib_H} (h : jb_F σ) : jb_p σ 83 5 = 84 := jb_Fp h rfl
theorem jp_83_6 {σ : ib_H} (h : jb_F σ) : jb_p σ 83 6 = 85 := jb_Fp h rfl
theorem jp_86_0 {σ : ib_H} (h : jb_F σ) : jb_p σ 86 0 = 66 := jb_Fp h rfl
theorem jp_86_1 {σ : ib_H} (h : jb_F σ) : jb_p σ 86 1 = 63 := jb_Fp h rfl
theorem jp_86_2 {σ : ib_H} (h : jb_F σ) : jb_p σ 86 2 = 57 := jb_Fp h rfl
theorem jp_86_3 {σ : ib_H} (h : jb_F σ) : jb_p σ 86 3 = 87 := jb_Fp h rfl
theorem jp_86_4 {σ : ib_H} (h : jb_F σ) : jb_p σ 86 4 = 88 := jb_Fp h rfl
theorem jp_86_5 {σ : ib_H} (h : jb_F σ) : jb_p σ 86 5 = 89 := jb_Fp h rfl
theorem jp_86_6 {σ : ib_H} (h : jb_F σ) : jb_p σ 86 6 = 90 := jb_Fp h rfl
theorem jp_86_7 {σ : ib_H} (h : jb_F σ) : jb_p σ 86 7 = 91 := jb_Fp h rfl
