/-! each instruction, read forward -/
def jb_arr (σ : ib_H) (t n len : Nat) : Prop := 2 ≤ n ∧ n < ib_nx σ ∧ ib_sh σ n = (t, len) ∧ len < 2147483648
def jb_ob (σ : ib_H) (t n : Nat) : Prop := 2 ≤ n ∧ n < ib_nx σ ∧ (ib_sh σ n).1 = t ∧ t < 50
theorem jb_ob_t {σ : ib_H} {t n : Nat} (h : jb_ob σ t n) : ib_obj σ t n = true := by
  unfold ib_obj
  simp only [Bool.and_eq_true, decide_eq_true_eq]
  exact ⟨⟨⟨h.1, h.2.1⟩, h.2.2.1⟩, h.2.2.2⟩
theorem jb_in_t {σ : ib_H} {t n len : Nat} {i : Int} (h : jb_arr σ t n len) (h0 : 0 ≤ i) (h1 : i < len) : ib_in σ t n (Int32.ofInt i) = true ∧ (Int32.ofInt i).toNatClampNeg = i.toNat ∧ n ≠ 1 := by
  obtain ⟨a, b, c, e⟩ := h
  have hr : jb_r i := ⟨by omega, by omega⟩
  refine ⟨?_, jb_nc hr, by omega⟩
  unfold ib_in
  rw [c, jb_nc hr]
  have hlt : ¬ (Int32.ofInt i < 0) := by
    rw [Int32.lt_iff_toInt_lt, jb_ti hr]
    have : (0 : Int32).toInt = 0 := rfl
    omega
  simp only [Bool.and_eq_true, decide_eq_true_eq, Bool.not_eq_true', Bool.or_eq_false_iff, decide_eq_false_iff_not]
  exact ⟨⟨⟨a, b⟩, trivial⟩, hlt, by omega⟩
theorem jb_z0 : (0 : Int32) = Int32.ofInt 0 := rfl
theorem jb_r0 : jb_r 0 := ⟨by decide, by decide⟩
section JbI
variable {d mi pc : Nat} {ls ls' : ib_Ls} {st r : List Value} {σ : ib_H} {Q : ib_O → Prop} {M : ib_M} {a1 a2 a3 a4 : Nat}
theorem jw_iln {k : Fin 4} {v : Int} {p : Nat} (hpc : pc + 1 = p) (hM : ib_Ms mi = some M) (hq : M.2.2.2.2.2[pc]? = some (some (.iload_n k, a1, a2, a3, a4))) (hl : ls[k.val]? = some (some (jb_v v))) (h : jb_w d mi p ls (jb_v v :: st) σ Q) : jb_w d mi pc ls st σ Q := by
  subst hpc
  exact jb_step (x := (pc + 1, ls, jb_v v :: st, σ)) hM hq (by simp only [ib_at, ib_ldI, hl]) h
theorem jw_aln {k : Fin 4} {n : Nat} {p : Nat} (hpc : pc + 1 = p) (hM : ib_Ms mi = some M) (hq : M.2.2.2.2.2[pc]? = some (some (.aload_n k, a1, a2, a3, a4))) (hl : ls[k.val]? = some (some (.ref n))) (h : jb_w d mi p ls (.ref n :: st) σ Q) : jb_w d mi pc ls st σ Q := by
  subst hpc
  exact jb_step (x := (pc + 1, ls, .ref n :: st, σ)) hM hq (by simp only [ib_at, ib_ldA, hl]) h
theorem jw_il {k : Nat} {v : Int} {p : Nat} (hpc : pc + 2 = p) (hM : ib_Ms mi = some M) (hq : M.2.2.2.2.2[pc]? = some (some (.iload k, a1, a2, a3, a4))) (hl : ls[k]? = some (some (jb_v v))) (h : jb_w d mi p ls (jb_v v :: st) σ Q) : jb_w d mi pc ls st σ Q := by
  subst hpc
  exact jb_step (x := (pc + 2, ls, jb_v v :: st, σ)) hM hq (by simp only [ib_at, ib_ldI, hl]) h
theorem jw_al {k n : Nat} {p : Nat} (hpc : pc + 2 = p) (hM : ib_Ms mi = some M) (hq : M.2.2.2.2.2[pc]? = some (some (.aload k, a1, a2, a3, a4))) (hl : ls[k]? = some (some (.ref n))) (h : jb_w d mi p ls (.ref n :: st) σ Q) : jb_w d mi pc ls st σ Q := by
  subst hpc
  exact jb_step (x := (pc + 2, ls, .ref n :: st, σ)) hM hq (by simp only [ib_at, ib_ldA, hl]) h
theorem jw_isn {k : Fin 4} {v : Int} {p : Nat} (hpc : pc + 1 = p) (hM : ib_Ms mi = some M) (hq : M.2.2.2.2.2[pc]? = some (some (.istore_n k, a1, a2, a3, a4))) (hk : k.val < ls.length) (hl : ls.set k.val (some (jb_v v)) = ls') (h : jb_w d mi p ls' r σ Q) : jb_w d mi pc ls (jb_v v :: r) σ Q := by
  subst hpc
  exact jb_step (x := (pc + 1, ls', r, σ)) hM hq (by simp only [ib_at, ib_sto, if_pos hk, hl]) h
theorem jw_asn {k : Fin 4} {n : Nat} {p : Nat} (hpc : pc + 1 = p) (hM : ib_Ms mi = some M) (hq : M.2.2.2.2.2[pc]? = some (some (.astore_n k, a1, a2, a3, a4))) (hk : k.val < ls.length) (hl : ls.set k.val (some (.ref n)) = ls') (h : jb_w d mi p ls' r σ Q) : jb_w d mi pc ls (.ref n :: r) σ Q := by
  subst hpc
  exact jb_step (x := (pc + 1, ls', r, σ)) hM hq (by simp only [ib_at, ib_stoA, if_pos hk, hl]) h
theorem jw_is {k : Nat} {v : Int} {p : Nat} (hpc : pc + 2 = p) (hM : ib_Ms mi = some M) (hq : M.2.2.2.2.2[pc]? = some (some (.istore k, a1, a2, a3, a4))) (hk : k < ls.length) (hl : ls.set k (some (jb_v v)) = ls') (h : jb_w d mi p ls' r σ Q) : jb_w d mi pc ls (jb_v v :: r) σ Q := by
  subst hpc
  exact jb_step (x := (pc + 2, ls', r, σ)) hM hq (by simp only [ib_at, ib_sto, if_pos hk, hl]) h
theorem jw_as {k n : Nat} {p : Nat} (hpc : pc + 2 = p) (hM : ib_Ms mi = some M) (hq : M.2.2.2.2.2[pc]? = some (some (.astore k, a1, a2, a3, a4))) (hk : k < ls.length) (hl : ls.set k (some (.ref n)) = ls') (h : jb_w d mi p ls' r σ Q) : jb_w d mi pc ls (.ref n :: r) σ Q := by
  subst hpc
  exact jb_step (x := (pc + 2, ls', r, σ)) hM hq (by simp only [ib_at, ib_stoA, if_pos hk, hl]) h
theorem jw_iconst {n : Int} {p : Nat} (hpc : pc + 1 = p) (hM : ib_Ms mi = some M) (hq : M.2.2.2.2.2[pc]? = some (some (.iconst n, a1, a2, a3, a4))) (h : jb_w d mi p ls (jb_v n :: st) σ Q) : jb_w d mi pc ls st σ Q := by
  subst hpc
  exact jb_step (x := (pc + 1, ls, jb_v n :: st, σ)) hM hq (by simp only [ib_at]) h
theorem jw_bipush {n : Int} {p : Nat} (hpc : pc + 2 = p) (hM : ib_Ms mi = some M) (hq : M.2.2.2.2.2[pc]? = some (some (.bipush n, a1, a2, a3, a4))) (hn : -128 ≤ n ∧ n < 128) (h : jb_w d mi p ls (jb_v n :: st) σ Q) : jb_w d mi pc ls st σ Q := by
  subst hpc
  refine jb_step (x := (pc + 2, ls, jb_v n :: st, σ)) hM hq ?_ h
  simp only [ib_at]
  rw [← Int32.ofInt_int8ToInt, Int8.toInt_ofInt_of_le (by omega) (by omega)]
theorem jw_sipush {n : Int} {p : Nat} (hpc : pc + 3 = p) (hM : ib_Ms mi = some M) (hq : M.2.2.2.2.2[pc]? = some (some (.sipush n, a1, a2, a3, a4))) (hn : -32768 ≤ n ∧ n < 32768) (h : jb_w d mi p ls (jb_v n :: st) σ Q) : jb_w d mi pc ls st σ Q := by
  subst hpc
  refine jb_step (x := (pc + 3, ls, jb_v n :: st, σ)) hM hq ?_ h
  simp only [ib_at]
  rw [← Int32.ofInt_int16ToInt, Int16.toInt_ofInt_of_le (by omega) (by omega)]
theorem jw_ldc {n : Nat} {z : Int} {p : Nat} (hpc : pc + 2 = p) (hM : ib_Ms mi = some M) (hq : M.2.2.2.2.2[pc]? = some (some (.ldc n, a1, a2, a3, a4))) (hz : Int32.ofNat a1 = Int32.ofInt z) (h : jb_w d mi p ls (jb_v z :: st) σ Q) : jb_w d mi pc ls st σ Q := by
  subst hpc
  exact jb_step (x := (pc + 2, ls, jb_v z :: st, σ)) hM hq (by simp only [ib_at]; rw [hz]) h
theorem jw_null {p : Nat} (hpc : pc + 1 = p) (hM : ib_Ms mi = some M) (hq : M.2.2.2.2.2[pc]? = some (some (.aconst_null, a1, a2, a3, a4))) (h : jb_w d mi p ls (.ref 0 :: st) σ Q) : jb_w d mi pc ls st σ Q := by
  subst hpc
  exact jb_step (x := (pc + 1, ls, .ref 0 :: st, σ)) hM hq (by simp only [ib_at]) h
theorem jw_getI {idx n : Nat} {i : Int} {p : Nat} (hpc : pc + 3 = p) (hM : ib_Ms mi = some M) (hq : M.2.2.2.2.2[pc]? = some (some (.getfield idx, a1, a2, a3, a4))) (hi : i.toNat = a2) (ho : jb_ob σ a1 n) (hk : ib_ks a1 a2 ≠ 2) (h : jb_w d mi p ls (jb_v (jb_i σ n i) :: r) σ Q) : jb_w d mi pc ls (.ref n :: r) σ Q := by
  subst hpc
  refine jb_step (x := (pc + 3, ls, .int (Int32.ofInt (jb_i σ n i)) :: r, σ)) hM hq ?_ h
  simp only [ib_at]
  rw [if_pos (jb_ob_t ho), if_neg hk, jb_v_i, hi]
theorem jw_getP {idx n q : Nat} {i : Int} {p : Nat} (hpc : pc + 3 = p) (hM : ib_Ms mi = some M) (hq : M.2.2.2.2.2[pc]? = some (some (.getfield idx, a1, a2, a3, a4))) (hi : i.toNat = a2) (ho : jb_ob σ a1 n) (hk : ib_ks a1 a2 = 2) (hp : jb_p σ n i = q) (h : jb_w d mi p ls (.ref q :: r) σ Q) : jb_w d mi pc ls (.ref n :: r) σ Q := by
  subst hpc
  refine jb_step (x := (pc + 3, ls, .ref q :: r, σ)) hM hq ?_ h
  simp only [ib_at]
  rw [if_pos (jb_ob_t ho), if_pos hk, ← hp]
  unfold jb_p
  rw [hi]
theorem jw_putI {idx n : Nat} {i x : Int} {p : Nat} (hpc : pc + 3 = p) (hM : ib_Ms mi = some M) (hq : M.2.2.2.2.2[pc]? = some (some (.putfield idx, a1, a2, a3, a4))) (hi : i.toNat = a2) (ho : jb_ob σ a1 n) (hk : ib_ks a1 a2 = 0 ∨ (ib_ks a1 a2 = 1 ∧ (x = 0 ∨ x = 1))) (h : jb_w d mi p ls r (jb_si σ n i x) Q) : jb_w d mi pc ls (jb_v x :: .ref n :: r) σ Q := by
  subst hpc
  refine jb_step (x := (pc + 3, ls, r, jb_si σ n i x)) hM hq ?_ h
  simp only [ib_at]
  rw [if_pos]
  · unfold jb_si
    rw [hi]
  · rw [Bool.and_eq_true]
    refine ⟨jb_ob_t ho, ?_⟩
    simp only [Bool.or_eq_true, Bool.and_eq_true, decide_eq_true_eq]
    rcases hk with hk | ⟨hk, hx⟩
    · exact Or.inl hk
    · refine Or.inr ⟨hk, ?_⟩
      rcases hx with rfl | rfl
      · exact Or.inl rfl
      · exact Or.inr rfl
theorem jw_putP {idx n q : Nat} {i : Int} {p : Nat} (hpc : pc + 3 = p) (hM : ib_Ms mi = some M) (hq : M.2.2.2.2.2[pc]? = some (some (.putfield idx, a1, a2, a3, a4))) (hi : i.toNat = a2) (ho : jb_ob σ a1 n) (hk : ib_ks a1 a2 = 2) (hq1 : q ≠ 1) (h : jb_w d mi p ls r (jb_sp σ n i q) Q) : jb_w d mi pc ls (.ref q :: .ref n :: r) σ Q := by
  subst hpc
  refine jb_step (x := (pc + 3, ls, r, jb_sp σ n i q)) hM hq ?_ h
  simp only [ib_at]
  rw [if_pos]
  · unfold jb_sp
    rw [hi]
  · simp only [Bool.and_eq_true, Bool.not_eq_true', decide_eq_true_eq, decide_eq_false_iff_not]
    exact ⟨⟨jb_ob_t ho, hk⟩, hq1⟩
theorem jw_goto {o : Int} (hM : ib_Ms mi = some M) (hq : M.2.2.2.2.2[pc]? = some (some (.goto o, a1, a2, a3, a4))) (h : jb_w d mi a1 ls st σ Q) : jb_w d mi pc ls st σ Q :=
  jb_step (x := (a1, ls, st, σ)) hM hq (by simp only [ib_at]) h
theorem jw_if {cd : ClassFile.Cond} {o x : Int} {P : Prop} {p : Nat} (hpc : pc + 3 = p) (hM : ib_Ms mi = some M) (hq : M.2.2.2.2.2[pc]? = some (some (.ifCond cd o, a1, a2, a3, a4))) (hc : ib_cnd cd (Int32.ofInt x) (Int32.ofInt 0) = true ↔ P) (h1 : P → jb_w d mi a1 ls r σ Q) (h2 : ¬ P → jb_w d mi p ls r σ Q) : jb_w d mi pc ls (jb_v x :: r) σ Q := by
  subst hpc
  rw [← jb_z0] at hc
  by_cases hP : P
  · exact jb_step (x := (a1, ls, r, σ)) hM hq (by simp only [ib_at]; rw [if_pos (hc.mpr hP)]) (h1 hP)
  · exact jb_step (x := (pc + 3, ls, r, σ)) hM hq (by simp only [ib_at]; rw [if_neg (fun z => hP (hc.mp z))]) (h2 hP)
theorem jw_ic {cd : ClassFile.Cond} {o x y : Int} {P : Prop} {p : Nat} (hpc : pc + 3 = p) (hM : ib_Ms mi = some M) (hq : M.2.2.2.2.2[pc]? = some (some (.if_icmp cd o, a1, a2, a3, a4))) (hc : ib_cnd cd (Int32.ofInt x) (Int32.ofInt y) = true ↔ P) (h1 : P → jb_w d mi a1 ls r σ Q) (h2 : ¬ P → jb_w d mi p ls r σ Q) : jb_w d mi pc ls (jb_v y :: jb_v x :: r) σ Q := by
  subst hpc
  by_cases hP : P
  · exact jb_step (x := (a1, ls, r, σ)) hM hq (by simp only [ib_at]; rw [if_pos (hc.mpr hP)]) (h1 hP)
  · exact jb_step (x := (pc + 3, ls, r, σ)) hM hq (by simp only [ib_at]; rw [if_neg (fun z => hP (hc.mp z))]) (h2 hP)
theorem jc_eq {x y : Int} (hx : jb_r x) (hy : jb_r y) : ib_cnd .eq (Int32.ofInt x) (Int32.ofInt y) = true ↔ x = y := by
  simp only [ib_cnd, decide_eq_true_eq]; exact jb_eqI hx hy
theorem jc_ne {x y : Int} (hx : jb_r x) (hy : jb_r y) : ib_cnd .ne (Int32.ofInt x) (Int32.ofInt y) = true ↔ ¬ x = y := by
  simp only [ib_cnd, decide_eq_true_eq]; rw [jb_eqI hx hy]
theorem jc_lt {x y : Int} (hx : jb_r x) (hy : jb_r y) : ib_cnd .lt (Int32.ofInt x) (Int32.ofInt y) = true ↔ x < y := by
  simp only [ib_cnd, decide_eq_true_eq]; exact jb_ltI hx hy
theorem jc_ge {x y : Int} (hx : jb_r x) (hy : jb_r y) : ib_cnd .ge (Int32.ofInt x) (Int32.ofInt y) = true ↔ y ≤ x := by
  simp only [ib_cnd, decide_eq_true_eq]; exact jb_leI hy hx
theorem jc_gt {x y : Int} (hx : jb_r x) (hy : jb_r y) : ib_cnd .gt (Int32.ofInt x) (Int32.ofInt y) = true ↔ y < x := by
  simp only [ib_cnd, decide_eq_true_eq]; exact jb_ltI hy hx
theorem jc_le {x y : Int} (hx : jb_r x) (hy : jb_r y) : ib_cnd .le (Int32.ofInt x) (Int32.ofInt y) = true ↔ x ≤ y := by
  simp only [ib_cnd, decide_eq_true_eq]; exact jb_leI hx hy
theorem jw_ifnull {o : Int} {n : Nat} {p : Nat} (hpc : pc + 3 = p) (hM : ib_Ms mi = some M) (hq : M.2.2.2.2.2[pc]? = some (some (.ifnull o, a1, a2, a3, a4))) (h1 : n = 0 → jb_w d mi a1 ls r σ Q) (h2 : ¬ n = 0 → jb_w d mi p ls r σ Q) : jb_w d mi pc ls (.ref n :: r) σ Q := by
  subst hpc
  by_cases hP : n = 0
  · exact jb_step (x := (a1, ls, r, σ)) hM hq (by simp only [ib_at]; rw [if_pos hP]) (h1 hP)
  · exact jb_step (x := (pc + 3, ls, r, σ)) hM hq (by simp only [ib_at]; rw [if_neg hP]) (h2 hP)
theorem jw_ifnonnull {o : Int} {n : Nat} {p : Nat} (hpc : pc + 3 = p) (hM : ib_Ms mi = some M) (hq : M.2.2.2.2.2[pc]? = some (some (.ifnonnull o, a1, a2, a3, a4))) (h1 : ¬ n = 0 → jb_w d mi a1 ls r σ Q) (h2 : n = 0 → jb_w d mi p ls r σ Q) : jb_w d mi pc ls (.ref n :: r) σ Q := by
  subst hpc
  by_cases hP : n = 0
  · exact jb_step (x := (pc + 3, ls, r, σ)) hM hq (by simp only [ib_at]; rw [if_pos hP]) (h2 hP)
  · exact jb_step (x := (a1, ls, r, σ)) hM hq (by simp only [ib_at]; rw [if_neg hP]) (h1 hP)
theorem jw_iinc {k : Nat} {n x : Int} {p : Nat} (hpc : pc + 3 = p) (hM : ib_Ms mi = some M) (hq : M.2.2.2.2.2[pc]? = some (some (.iinc k n, a1, a2, a3, a4))) (hl : ls[k]? = some (some (jb_v x))) (hl' : ls.set k (some (jb_v (x + n))) = ls') (h : jb_w d mi p ls' st σ Q) : jb_w d mi pc ls st σ Q := by
  subst hpc
  refine jb_step (x := (pc + 3, ls', st, σ)) hM hq ?_ h
  simp only [ib_at, hl]
  rw [← Int32.ofInt_add, hl']
theorem jw_iadd {x y : Int} {p : Nat} (hpc : pc + 1 = p) (hM : ib_Ms mi = some M) (hq : M.2.2.2.2.2[pc]? = some (some (.iadd, a1, a2, a3, a4))) (h : jb_w d mi p ls (jb_v (x + y) :: r) σ Q) : jb_w d mi pc ls (jb_v y :: jb_v x :: r) σ Q := by
  subst hpc
  exact jb_step (x := (pc + 1, ls, .int (Int32.ofInt (x + y)) :: r, σ)) hM hq (by simp only [ib_at]; rw [Int32.ofInt_add]) h
theorem jw_isub {x y : Int} {p : Nat} (hpc : pc + 1 = p) (hM : ib_Ms mi = some M) (hq : M.2.2.2.2.2[pc]? = some (some (.isub, a1, a2, a3, a4))) (h : jb_w d mi p ls (jb_v (x - y) :: r) σ Q) : jb_w d mi pc ls (jb_v y :: jb_v x :: r) σ Q := by
  subst hpc
  exact jb_step (x := (pc + 1, ls, .int (Int32.ofInt (x - y)) :: r, σ)) hM hq (by simp only [ib_at]; rw [Int32.ofInt_sub]) h
theorem jw_imul {x y : Int} {p : Nat} (hpc : pc + 1 = p) (hM : ib_Ms mi = some M) (hq : M.2.2.2.2.2[pc]? = some (some (.imul, a1, a2, a3, a4))) (h : jb_w d mi p ls (jb_v (x * y) :: r) σ Q) : jb_w d mi pc ls (jb_v y :: jb_v x :: r) σ Q := by
  subst hpc
  exact jb_step (x := (pc + 1, ls, .int (Int32.ofInt (x * y)) :: r, σ)) hM hq (by simp only [ib_at]; rw [Int32.ofInt_mul]) h
theorem jb_ne0 {y : Int} (hy : 0 < y) (hy2 : jb_r y) : ¬ Int32.ofInt y = 0 := by
  rw [jb_z0, jb_eqI hy2 jb_r0]; omega
theorem jw_idiv {x y : Int} {p : Nat} (hpc : pc + 1 = p) (hM : ib_Ms mi = some M) (hq : M.2.2.2.2.2[pc]? = some (some (.idiv, a1, a2, a3, a4))) (hx : 0 ≤ x) (hx2 : jb_r x) (hy : 0 < y) (hy2 : jb_r y) (h : jb_w d mi p ls (jb_v (x / y) :: r) σ Q) : jb_w d mi pc ls (jb_v y :: jb_v x :: r) σ Q := by
  subst hpc
  exact jb_step (x := (pc + 1, ls, jb_v (x / y) :: r, σ)) hM hq (by simp only [ib_at]; rw [if_neg (jb_ne0 hy hy2), jb_divI hx hx2 hy hy2]) h
theorem jw_irem {x y : Int} {p : Nat} (hpc : pc + 1 = p) (hM : ib_Ms mi = some M) (hq : M.2.2.2.2.2[pc]? = some (some (.irem, a1, a2, a3, a4))) (hx : 0 ≤ x) (hx2 : jb_r x) (hy : 0 < y) (hy2 : jb_r y) (h : jb_w d mi p ls (jb_v (x % y) :: r) σ Q) : jb_w d mi pc ls (jb_v y :: jb_v x :: r) σ Q := by
  subst hpc
  exact jb_step (x := (pc + 1, ls, jb_v (x % y) :: r, σ)) hM hq (by simp only [ib_at]; rw [if_neg (jb_ne0 hy hy2), jb_remI hx hx2 hy hy2]) h
theorem jw_dupI {x : Int} {p : Nat} (hpc : pc + 1 = p) (hM : ib_Ms mi = some M) (hq : M.2.2.2.2.2[pc]? = some (some (.dup, a1, a2, a3, a4))) (h : jb_w d mi p ls (jb_v x :: jb_v x :: r) σ Q) : jb_w d mi pc ls (jb_v x :: r) σ Q := by
  subst hpc
  exact jb_step (x := (pc + 1, ls, jb_v x :: jb_v x :: r, σ)) hM hq (by simp only [ib_at]) h
theorem jw_dupA {n : Nat} {p : Nat} (hpc : pc + 1 = p) (hM : ib_Ms mi = some M) (hq : M.2.2.2.2.2[pc]? = some (some (.dup, a1, a2, a3, a4))) (h : jb_w d mi p ls (.ref n :: .ref n :: r) σ Q) : jb_w d mi pc ls (.ref n :: r) σ Q := by
  subst hpc
  exact jb_step (x := (pc + 1, ls, .ref n :: .ref n :: r, σ)) hM hq (by simp only [ib_at]) h
theorem jw_dup2 {n : Nat} {x : Int} {p : Nat} (hpc : pc + 1 = p) (hM : ib_Ms mi = some M) (hq : M.2.2.2.2.2[pc]? = some (some (.dup2, a1, a2, a3, a4))) (h : jb_w d mi p ls (jb_v x :: .ref n :: jb_v x :: .ref n :: r) σ Q) : jb_w d mi pc ls (jb_v x :: .ref n :: r) σ Q := by
  subst hpc
  exact jb_step (x := (pc + 1, ls, jb_v x :: .ref n :: jb_v x :: .ref n :: r, σ)) hM hq (by simp only [ib_at]) h
theorem jw_popI {x : Int} {p : Nat} (hpc : pc + 1 = p) (hM : ib_Ms mi = some M) (hq : M.2.2.2.2.2[pc]? = some (some (.pop, a1, a2, a3, a4))) (h : jb_w d mi p ls r σ Q) : jb_w d mi pc ls (jb_v x :: r) σ Q := by
  subst hpc
  exact jb_step (x := (pc + 1, ls, r, σ)) hM hq (by simp only [ib_at]) h
theorem jw_popA {n : Nat} {p : Nat} (hpc : pc + 1 = p) (hM : ib_Ms mi = some M) (hq : M.2.2.2.2.2[pc]? = some (some (.pop, a1, a2, a3, a4))) (h : jb_w d mi p ls r σ Q) : jb_w d mi pc ls (.ref n :: r) σ Q := by
  subst hpc
  exact jb_step (x := (pc + 1, ls, r, σ)) hM hq (by simp only [ib_at]) h
theorem jw_alen {t n len : Nat} {p : Nat} (hpc : pc + 1 = p) (hM : ib_Ms mi = some M) (hq : M.2.2.2.2.2[pc]? = some (some (.arraylength, a1, a2, a3, a4))) (ha : jb_arr σ t n len) (ht : 100 ≤ t ∧ t < 105) (h : jb_w d mi p ls (jb_v (len : Int) :: r) σ Q) : jb_w d mi pc ls (.ref n :: r) σ Q := by
  subst hpc
  refine jb_step (x := (pc + 1, ls, jb_v (len : Int) :: r, σ)) hM hq ?_ h
  obtain ⟨b1, b2, b3, b4⟩ := ha
  simp only [ib_at]
  rw [if_neg (show ¬ n = 1 from Nat.ne_of_gt b1), if_pos (by simp only [Bool.and_eq_true, decide_eq_true_eq, b3]; exact ⟨⟨⟨b1, b2⟩, ht.1⟩, ht.2⟩), b3]
  rfl
theorem jw_iald {n len : Nat} {i : Int} {p : Nat} (hpc : pc + 1 = p) (hM : ib_Ms mi = some M) (hq : M.2.2.2.2.2[pc]? = some (some (.iaload, a1, a2, a3, a4))) (ha : jb_arr σ 100 n len) (h0 : 0 ≤ i) (h1 : i < len) (h : jb_w d mi p ls (jb_v (jb_i σ n i) :: r) σ Q) : jb_w d mi pc ls (jb_v i :: .ref n :: r) σ Q := by
  subst hpc
  obtain ⟨b1, b2, b3⟩ := jb_in_t ha h0 h1
  refine jb_step (x := (pc + 1, ls, .int (Int32.ofInt (jb_i σ n i)) :: r, σ)) hM hq ?_ h
  simp only [ib_at]
  rw [if_neg b3, if_pos b1, jb_v_i, b2]
theorem jw_iast {n len : Nat} {i x : Int} {p : Nat} (hpc : pc + 1 = p) (hM : ib_Ms mi = some M) (hq : M.2.2.2.2.2[pc]? = some (some (.iastore, a1, a2, a3, a4))) (ha : jb_arr σ 100 n len) (h0 : 0 ≤ i) (h1 : i < len) (h : jb_w d mi p ls r (jb_si σ n i x) Q) : jb_w d mi pc ls (jb_v x :: jb_v i :: .ref n :: r) σ Q := by
  subst hpc
  obtain ⟨b1, b2, b3⟩ := jb_in_t ha h0 h1
  refine jb_step (x := (pc + 1, ls, r, jb_si σ n i x)) hM hq ?_ h
  simp only [ib_at]
  rw [if_pos b1, b2]
  rfl
theorem jw_bald {n len : Nat} {i : Int} {p : Nat} (hpc : pc + 1 = p) (hM : ib_Ms mi = some M) (hq : M.2.2.2.2.2[pc]? = some (some (.baload, a1, a2, a3, a4))) (ha : jb_arr σ 101 n len) (h0 : 0 ≤ i) (h1 : i < len) (h : jb_w d mi p ls (jb_v (jb_i σ n i) :: r) σ Q) : jb_w d mi pc ls (jb_v i :: .ref n :: r) σ Q := by
  subst hpc
  obtain ⟨b1, b2, b3⟩ := jb_in_t ha h0 h1
  refine jb_step (x := (pc + 1, ls, .int (Int32.ofInt (jb_i σ n i)) :: r, σ)) hM hq ?_ h
  simp only [ib_at]
  rw [if_pos b1, jb_v_i, b2]
theorem jw_bast {n len : Nat} {i x : Int} {p : Nat} (hpc : pc + 1 = p) (hM : ib_Ms mi = some M) (hq : M.2.2.2.2.2[pc]? = some (some (.bastore, a1, a2, a3, a4))) (ha : jb_arr σ 101 n len) (h0 : 0 ≤ i) (h1 : i < len) (hx : x = 0 ∨ x = 1) (h : jb_w d mi p ls r (jb_si σ n i x) Q) : jb_w d mi pc ls (jb_v x :: jb_v i :: .ref n :: r) σ Q := by
  subst hpc
  obtain ⟨b1, b2, b3⟩ := jb_in_t ha h0 h1
  refine jb_step (x := (pc + 1, ls, r, jb_si σ n i x)) hM hq ?_ h
  simp only [ib_at]
  have hx2 : (decide (Int32.ofInt x = 0) || decide (Int32.ofInt x = 1)) = true := by
    rcases hx with rfl | rfl <;> rfl
  rw [if_pos (by rw [Bool.and_eq_true]; exact ⟨b1, hx2⟩), b2]
  rfl
theorem jw_aald {t n len q : Nat} {i : Int} {p : Nat} (hpc : pc + 1 = p) (hM : ib_Ms mi = some M) (hq : M.2.2.2.2.2[pc]? = some (some (.aaload, a1, a2, a3, a4))) (ha : jb_arr σ t n len) (ht : t = 103 ∨ t = 104) (h0 : 0 ≤ i) (h1 : i < len) (hp : jb_p σ n i = q) (h : jb_w d mi p ls (.ref q :: r) σ Q) : jb_w d mi pc ls (jb_v i :: .ref n :: r) σ Q := by
  subst hpc
  obtain ⟨b1, b2, b3⟩ := jb_in_t ha h0 h1
  refine jb_step (x := (pc + 1, ls, .ref q :: r, σ)) hM hq ?_ h
  simp only [ib_at]
  rw [if_pos, b2, ← hp]
  · rfl
  · rw [Bool.or_eq_true]
    rcases ht with rfl | rfl
    · exact Or.inl b1
    · exact Or.inr b1
theorem jw_aast {t c n len q : Nat} {i : Int} {p : Nat} (hpc : pc + 1 = p) (hM : ib_Ms mi = some M) (hq : M.2.2.2.2.2[pc]? = some (some (.aastore, a1, a2, a3, a4))) (ha : jb_arr σ t n len) (ht : (t = 103 ∧ c = 4) ∨ (t = 104 ∧ c = 3)) (h0 : 0 ≤ i) (h1 : i < len) (ho : q = 0 ∨ jb_ob σ c q) (h : jb_w d mi p ls r (jb_sp σ n i q) Q) : jb_w d mi pc ls (.ref q :: jb_v i :: .ref n :: r) σ Q := by
  subst hpc
  obtain ⟨b1, b2, b3⟩ := jb_in_t ha h0 h1
  refine jb_step (x := (pc + 1, ls, r, jb_sp σ n i q)) hM hq ?_ h
  simp only [ib_at]
  have hx2 : ∀ c, q = 0 ∨ jb_ob σ c q → (decide (q = 0) || ib_obj σ c q) = true := fun c hc => by
    rw [Bool.or_eq_true, decide_eq_true_eq]
    exact hc.imp id jb_ob_t
  rw [if_pos, b2]
  · rfl
  · rw [Bool.or_eq_true, Bool.and_eq_true, Bool.and_eq_true]
    rcases ht with ⟨rfl, rfl⟩ | ⟨rfl, rfl⟩
    · exact Or.inl ⟨b1, hx2 _ ho⟩
    · exact Or.inr ⟨b1, hx2 _ ho⟩
theorem jw_iret {x : Int} (hM : ib_Ms mi = some M) (hq : M.2.2.2.2.2[pc]? = some (some (.ireturn, a1, a2, a3, a4))) (hx : a1 = 1 → x = 0 ∨ x = 1) (h : Q (.inl (some (jb_v x)), σ)) : jb_w d mi pc ls [jb_v x] σ Q := by
  refine jb_end hM hq (v := some (jb_v x)) ?_ h
  simp only [ib_at]
  rw [if_neg]
  intro z
  rcases hx z.1 with rfl | rfl
  · exact z.2 (Or.inl rfl)
  · exact z.2 (Or.inr rfl)
theorem jw_aret {n : Nat} (hM : ib_Ms mi = some M) (hq : M.2.2.2.2.2[pc]? = some (some (.areturn, a1, a2, a3, a4))) (h : Q (.inl (some (.ref n)), σ)) : jb_w d mi pc ls [.ref n] σ Q :=
  jb_end hM hq (v := some (.ref n)) (by simp only [ib_at]) h
theorem jw_vret (hM : ib_Ms mi = some M) (hq : M.2.2.2.2.2[pc]? = some (some (.return_, a1, a2, a3, a4))) (h : Q (.inl none, σ)) : jb_w d mi pc ls [] σ Q :=
  jb_end hM hq (v := none) (by simp only [ib_at]) h
theorem jw_callV {idx n : Nat} {C : ib_M} (as : List Value) (hM : ib_Ms mi = some M) (hq : M.2.2.2.2.2[pc]? = some (some (.invokevirtual idx, a1, a2, a3, a4))) (hst : st = as.reverse ++ .ref n :: r) (hl : as.length = a2) (ho : jb_ob σ a3 n) (hh : M.2.2.2.2.1 = []) (hC : ib_Ms a1 = some C) (hck : ((Value.ref n :: as).all ib_cat1 && decide (as.length + 1 ≤ C.2.2.1) && decide (r.length ≤ 4)) = true) {es : ib_Ls} (hes : ib_ent C.2.2.1 (.ref n :: as) = es) (h : jb_w d a1 0 es [] σ (jb_k (d + 1) mi pc ls r Q)) : jb_w (d + 1) mi pc ls st σ Q := by
  have e1 : st.drop a2 = .ref n :: r := by
    rw [hst, ← hl, ← List.length_reverse, List.drop_left]
  have e2 : st.take a2 = as.reverse := by
    rw [hst, ← hl, ← List.length_reverse, List.take_left]
  have e3 : a2 ≤ st.length := by
    rw [hst, List.length_append, List.length_reverse, hl]; omega
  refine jb_call (c := (a1, .ref n :: as, r)) hM hq ?_ hh hC hck (by rw [hes]; exact h)
  simp only [ib_at, e1]
  rw [if_pos (by rw [Bool.and_eq_true, decide_eq_true_eq]; exact ⟨jb_ob_t ho, e3⟩), e2, List.reverse_reverse]
theorem jw_callN {idx n : Nat} {C : ib_M} (as : List Value) (hM : ib_Ms mi = some M) (hq : M.2.2.2.2.2[pc]? = some (some (.invokespecial idx, a1, a2, a3, a4))) (h1000 : a1 ≠ 1000) (hst : st = as.reverse ++ .ref n :: r) (hl : as.length = a2) (ho : jb_ob σ a3 n) (hh : M.2.2.2.2.1 = []) (hC : ib_Ms a1 = some C) (hck : ((Value.ref n :: as).all ib_cat1 && decide (as.length + 1 ≤ C.2.2.1) && decide (r.length ≤ 4)) = true) {es : ib_Ls} (hes : ib_ent C.2.2.1 (.ref n :: as) = es) (h : jb_w d a1 0 es [] σ (jb_k (d + 1) mi pc ls r Q)) : jb_w (d + 1) mi pc ls st σ Q := by
  have e1 : st.drop a2 = .ref n :: r := by
    rw [hst, ← hl, ← List.length_reverse, List.drop_left]
  have e2 : st.take a2 = as.reverse := by
    rw [hst, ← hl, ← List.length_reverse, List.take_left]
  have e3 : a2 ≤ st.length := by
    rw [hst, List.length_append, List.length_reverse, hl]; omega
  refine jb_call (c := (a1, .ref n :: as, r)) hM hq ?_ hh hC hck (by rw [hes]; exact h)
  simp only [ib_at, e1]
  rw [if_neg h1000, if_pos (by rw [Bool.and_eq_true, decide_eq_true_eq]; exact ⟨jb_ob_t ho, e3⟩), e2, List.reverse_reverse]
theorem jw_callS {idx : Nat} {C : ib_M} (as : List Value) (hM : ib_Ms mi = some M) (hq : M.2.2.2.2.2[pc]? = some (some (.invokestatic idx, a1, a2, a3, a4))) (hst : st = as.reverse ++ r) (hl : as.length = a2) (hh : M.2.2.2.2.1 = []) (hC : ib_Ms a1 = some C) (hck : (as.all ib_cat1 && decide (as.length ≤ C.2.2.1) && decide (r.length ≤ 4)) = true) {es : ib_Ls} (hes : ib_ent C.2.2.1 as = es) (h : jb_w d a1 0 es [] σ (jb_k (d + 1) mi pc ls r Q)) : jb_w (d + 1) mi pc ls st σ Q := by
  have e1 : st.drop a2 = r := by
    rw [hst, ← hl, ← List.length_reverse, List.drop_left]
  have e2 : st.take a2 = as.reverse := by
    rw [hst, ← hl, ← List.length_reverse, List.take_left]
  have e3 : a2 ≤ st.length := by
    rw [hst, List.length_append, List.length_reverse, hl]; omega
  refine jb_call (c := (a1, as, r)) hM hq ?_ hh hC hck (by rw [hes]; exact h)
  simp only [ib_at]
  rw [if_pos e3, e1, e2, List.reverse_reverse]
end JbI
