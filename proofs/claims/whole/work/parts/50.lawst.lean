/-! the law's state: the class's part, the reference's, the script, the long -/
def jl_S (L : Nat) (xs : Nat → Int32) (K : jc_K) (G : jg_G) (o : Int) (σ : ib_H) : Prop := jb_F σ ∧ jc_view σ = K ∧ jg_ref σ = G ∧ ib_sh σ 1 = (99, L) ∧ ib_I σ 1 = xs ∧ ib_L σ 119 0 = (Int32.ofInt o).toInt64 ∧ jb_r o
section JlS
variable {L : Nat} {xs : Nat → Int32} {K K' : jc_K} {G G' : jg_G} {o : Int} {σ σ' : ib_H}
theorem jl_S.c (s : jl_S L xs K G o σ) : jc_S σ K σ := ⟨s.1, s.2.1, fun _ _ => rfl, fun _ _ => rfl, rfl⟩
theorem jl_S.g (s : jl_S L xs K G o σ) : jg_S σ G σ := ⟨s.1, s.2.2.1, rfl, rfl, rfl, fun _ _ => rfl⟩
theorem jl_S.c' (s : jl_S L xs K G o σ) (h : jc_S σ K' σ') : jl_S L xs K' G o σ' := by
  obtain ⟨h1, h2, h3, h4, h5⟩ := h
  refine ⟨h1, h2, ?_, by rw [h5]; exact s.2.2.2.1, by rw [h3 1 (by decide)]; exact s.2.2.2.2.1, by rw [h4 119 (by decide)]; exact s.2.2.2.2.2.1, s.2.2.2.2.2.2⟩
  rw [← s.2.2.1]
  funext n i
  unfold jg_ref
  by_cases h : 92 ≤ n ∧ n < 119 ∧ 0 ≤ i
  · rw [if_pos h, if_pos h]
    unfold jb_i
    rw [h3 n (by omega)]
  · rw [if_neg h, if_neg h]
theorem jl_S.g' (s : jl_S L xs K G o σ) (h : jg_S σ G' σ') : jl_S L xs K G' o σ' := by
  obtain ⟨h1, h2, h3, h4, h5, h6⟩ := h
  have eL : ib_L σ' = ib_L σ := congrArg Prod.snd h5
  have eP : ib_P σ' = ib_P σ := congrArg Prod.fst h5
  refine ⟨h1, ?_, h2, by show σ'.2.1 1 = _; rw [h4]; exact s.2.2.2.1, by show σ'.2.2.1 1 = _; rw [h6 1 (by omega)]; exact s.2.2.2.2.1, by rw [eL]; exact s.2.2.2.2.2.1, s.2.2.2.2.2.2⟩
  rw [← s.2.1]
  unfold jc_view
  refine Prod.ext h3 (Prod.ext h4 (Prod.ext ?_ ?_))
  · funext n i
    dsimp only
    by_cases h : ((2 ≤ n ∧ n < 92) ∨ 120 ≤ n) ∧ 0 ≤ i
    · rw [if_pos h, if_pos h]
      unfold jb_i
      show (σ'.2.2.1 n i.toNat).toInt = _
      rw [h6 n (by omega)]
    · rw [if_neg h, if_neg h]
  · funext n i
    dsimp only
    unfold jb_p
    rw [eP]
theorem jl_S.l (s : jl_S L xs K G o σ) {v : Int} (hv : jb_r v) : jl_S L xs K G v (ib_setL σ 119 0 (Int32.ofInt v).toInt64) := by
  refine ⟨s.1, s.2.1, s.2.2.1, s.2.2.2.1, s.2.2.2.2.1, ?_, hv⟩
  show (if 119 = 119 ∧ 0 = 0 then (Int32.ofInt v).toInt64 else ib_L σ 119 0) = (Int32.ofInt v).toInt64
  exact if_pos ⟨rfl, rfl⟩
theorem jl_S.arr (s : jl_S L xs K G o σ) : jb_arr σ 102 119 1 := jb_Fa s.1 (t := 102) (len := 1) (by decide +kernel) (by decide +kernel)
end JlS
/-- behind a caught throw -/
def jb_hx (d mi pc : Nat) (ls : ib_Ls) (M : ib_M) (Q : ib_O → Prop) (k : Nat) (σ : ib_H) : Prop := ∃ h, ib_hnd ib_ct pc k M.2.2.2.2.1 = some h ∧ ((∃ (i : Fin 4) (b1 b2 b3 b4 : Nat), M.2.2.2.2.2[h]? = some (some (.astore_n i, b1, b2, b3, b4)) ∧ jb_w d mi (h + 1) (ls.set i.val none) [] σ Q) ∨ (∃ (i b1 b2 b3 b4 : Nat), M.2.2.2.2.2[h]? = some (some (.astore i, b1, b2, b3, b4)) ∧ jb_w d mi (h + 2) (ls.set i none) [] σ Q))
def jb_kh (d mi pc : Nat) (ls : ib_Ls) (st : List Value) (M : ib_M) (Q : ib_O → Prop) (o : ib_O) : Prop := match o.1 with
  | .inl v => jb_w d mi (pc + 3) ls (v.toList ++ st) o.2 Q
  | .inr k => jb_hx d mi pc ls M Q k o.2
theorem jb_callH {d mi pc : Nat} {ls : ib_Ls} {st : List Value} {σ : ib_H} {Q : ib_O → Prop} {M : ib_M} {q : ib_A} {c : Nat × List Value × List Value} {C : ib_M} (hM : ib_Ms mi = some M) (hq : M.2.2.2.2.2[pc]? = some (some q)) (hx : ib_at ib_ks ib_fn q pc ls st σ = some (.inr (.inl c))) (hC : ib_Ms c.1 = some C) (hck : (c.2.1.all ib_cat1 && decide (c.2.1.length ≤ C.2.2.1) && decide (c.2.2.length ≤ 4)) = true) (h : jb_w d c.1 0 (ib_ent C.2.2.1 c.2.1) [] σ (jb_kh (d + 1) mi pc ls c.2.2 M Q)) : jb_w (d + 1) mi pc ls st σ Q := by
  obtain ⟨n1, o1, h1, h2⟩ := h
  have key : ∀ n o, (ib_one ib_Ms ib_ks ib_fn ib_ct (ib_run ib_Ms ib_ks ib_fn ib_ct n) (d + 1) mi pc ls st σ = some o) → ib_run ib_Ms ib_ks ib_fn ib_ct (n + 1) (d + 1) mi pc ls st σ = some o := fun n o h => h
  obtain ⟨o1, σ1⟩ := o1
  cases o1 with
  | inl v =>
    obtain ⟨n2, o2, h3, h4⟩ := h2
    refine ⟨n1 + n2 + 1, o2, key _ _ ?_, h4⟩
    unfold ib_one
    rw [hM]
    dsimp only
    rw [hq]
    dsimp only
    rw [hx]
    dsimp only
    rw [if_neg (Nat.succ_ne_zero d), hC]
    dsimp only
    rw [if_pos hck, Nat.add_sub_cancel, jb_mono n1 n2 h1]
    dsimp only
    have := jb_mono n2 n1 h3
    rw [Nat.add_comm n2 n1] at this
    exact this
  | inr k =>
    obtain ⟨hh, e1, ⟨i, b1, b2, b3, b4, e2, n2, o2, h3, h4⟩ | ⟨i, b1, b2, b3, b4, e2, n2, o2, h3, h4⟩⟩ := h2
    all_goals
      refine ⟨n1 + n2 + 1, o2, key _ _ ?_, h4⟩
      unfold ib_one
      rw [hM]
      dsimp only
      rw [hq]
      dsimp only
      rw [hx]
      dsimp only
      rw [if_neg (Nat.succ_ne_zero d), hC]
      dsimp only
      rw [if_pos hck, Nat.add_sub_cancel, jb_mono n1 n2 h1]
      dsimp only
      rw [e1]
      dsimp only
      rw [e2]
      dsimp only
      have := jb_mono n2 n1 h3
      rw [Nat.add_comm n2 n1] at this
      exact this
section JlI
variable {d mi pc : Nat} {ls : ib_Ls} {st r : List Value} {σ : ib_H} {Q : ib_O → Prop} {M : ib_M} {a1 a2 a3 a4 : Nat} {L : Nat} {xs : Nat → Int32} {K : jc_K} {G : jg_G} {o : Int}
theorem jw_callVH {idx n : Nat} {C : ib_M} (as : List Value) (hM : ib_Ms mi = some M) (hq : M.2.2.2.2.2[pc]? = some (some (.invokevirtual idx, a1, a2, a3, a4))) (hst : st = as.reverse ++ .ref n :: r) (hl : as.length = a2) (ho : jb_ob σ a3 n) (hC : ib_Ms a1 = some C) (hck : ((Value.ref n :: as).all ib_cat1 && decide (as.length + 1 ≤ C.2.2.1) && decide (r.length ≤ 4)) = true) {es : ib_Ls} (hes : ib_ent C.2.2.1 (.ref n :: as) = es) (h : jb_w d a1 0 es [] σ (jb_kh (d + 1) mi pc ls r M Q)) : jb_w (d + 1) mi pc ls st σ Q := by
  have e1 : st.drop a2 = .ref n :: r := by
    rw [hst, ← hl, ← List.length_reverse, List.drop_left]
  have e2 : st.take a2 = as.reverse := by
    rw [hst, ← hl, ← List.length_reverse, List.take_left]
  have e3 : a2 ≤ st.length := by
    rw [hst, List.length_append, List.length_reverse, hl]
    omega
  subst hes
  refine jb_callH (c := (a1, .ref n :: as, r)) hM hq ?_ hC hck h
  simp only [ib_at]
  rw [e1]
  dsimp only
  rw [if_pos (by rw [Bool.and_eq_true]; exact ⟨jb_ob_t ho, decide_eq_true e3⟩), e2, List.reverse_reverse]
theorem jw_i2l {x : Int} {p : Nat} (hpc : pc + 1 = p) (hM : ib_Ms mi = some M) (hq : M.2.2.2.2.2[pc]? = some (some (.i2l, a1, a2, a3, a4))) (h : jb_w d mi p ls (.long (Int32.ofInt x).toInt64 :: r) σ Q) : jb_w d mi pc ls (jb_v x :: r) σ Q := by
  subst hpc
  exact jb_step (x := (pc + 1, ls, .long (Int32.ofInt x).toInt64 :: r, σ)) hM hq (by simp only [ib_at]) h
theorem jw_last {x : Int} {p : Nat} (hpc : pc + 1 = p) (hM : ib_Ms mi = some M) (hq : M.2.2.2.2.2[pc]? = some (some (.lastore, a1, a2, a3, a4))) (s : jl_S L xs K G o σ) (hx : jb_r x) (h : ∀ σ', jl_S L xs K G x σ' → jb_w d mi p ls r σ' Q) : jb_w d mi pc ls (.long (Int32.ofInt x).toInt64 :: jb_v 0 :: .ref 119 :: r) σ Q := by
  subst hpc
  obtain ⟨b1, b2, b3⟩ := jb_in_t s.arr (i := 0) (by decide) (by decide)
  refine jb_step (x := (pc + 1, ls, r, ib_setL σ 119 0 (Int32.ofInt x).toInt64)) hM hq ?_ (h _ (s.l hx))
  simp only [ib_at]
  rw [if_pos b1, b2]
  rfl
theorem jw_lald {p : Nat} (hpc : pc + 1 = p) (hM : ib_Ms mi = some M) (hq : M.2.2.2.2.2[pc]? = some (some (.laload, a1, a2, a3, a4))) (s : jl_S L xs K G o σ) (h : jb_w d mi p ls (.long (Int32.ofInt o).toInt64 :: r) σ Q) : jb_w d mi pc ls (jb_v 0 :: .ref 119 :: r) σ Q := by
  subst hpc
  obtain ⟨b1, b2, b3⟩ := jb_in_t s.arr (i := 0) (by decide) (by decide)
  refine jb_step (x := (pc + 1, ls, .long (Int32.ofInt o).toInt64 :: r, σ)) hM hq ?_ h
  simp only [ib_at]
  rw [if_pos b1, b2]
  show some _ = some _
  rw [show ib_L σ 119 (Int.toNat 0) = _ from s.2.2.2.2.2.1]
theorem jw_lcmp0 {x : Int64} {p : Nat} (hpc : pc + 1 = p) (hM : ib_Ms mi = some M) (hq : M.2.2.2.2.2[pc]? = some (some (.lcmp, a1, a2, a3, a4))) (h : jb_w d mi p ls (jb_v 0 :: r) σ Q) : jb_w d mi pc ls (.long x :: .long x :: r) σ Q := by
  subst hpc
  refine jb_step (x := (pc + 1, ls, jb_v 0 :: r, σ)) hM hq ?_ h
  simp only [ib_at]
  have : lg_cmp x x = Int32.ofInt 0 := by
    unfold lg_cmp
    simp
  rw [this]
theorem jw_slen {p : Nat} (hpc : pc + 1 = p) (hM : ib_Ms mi = some M) (hq : M.2.2.2.2.2[pc]? = some (some (.arraylength, a1, a2, a3, a4))) (s : jl_S L xs K G o σ) (h : jb_w d mi p ls (jb_v (L : Int) :: r) σ Q) : jb_w d mi pc ls (.ref 1 :: r) σ Q := by
  subst hpc
  refine jb_step (x := (pc + 1, ls, jb_v (L : Int) :: r, σ)) hM hq ?_ h
  simp only [ib_at]
  rw [if_pos trivial, s.2.2.2.1]
  rfl
/-- the int at a place of the script -/
def jl_x (xs : Nat → Int32) (i : Int) : Int := (xs i.toNat).toInt
theorem jl_x_r (xs : Nat → Int32) (i : Int) : jb_r (jl_x xs i) := ⟨Int32.le_toInt _, Int32.toInt_lt _⟩
theorem jw_sald {i : Int} {p : Nat} (hpc : pc + 1 = p) (hM : ib_Ms mi = some M) (hq : M.2.2.2.2.2[pc]? = some (some (.iaload, a1, a2, a3, a4))) (s : jl_S L xs K G o σ) (h0 : 0 ≤ i) (h1 : i < L) (hL : L ≤ 2048) (h : jb_w d mi p ls (jb_v (jl_x xs i) :: r) σ Q) : jb_w d mi pc ls (jb_v i :: .ref 1 :: r) σ Q := by
  subst hpc
  have hr : jb_r i := ⟨by omega, by omega⟩
  refine jb_step (x := (pc + 1, ls, jb_v (jl_x xs i) :: r, σ)) hM hq ?_ h
  simp only [ib_at]
  have hn : ¬ (Int32.ofInt i < 0 ∨ (ib_sh σ 1).2 ≤ (Int32.ofInt i).toNatClampNeg) := by
    rw [s.2.2.2.1, jb_nc hr, Int32.lt_iff_toInt_lt, jb_ti hr]
    have : (0 : Int32).toInt = 0 := rfl
    show ¬ (i < (0 : Int32).toInt ∨ L ≤ i.toNat)
    omega
  rw [if_pos trivial, if_neg hn, jb_nc hr, show ib_I σ 1 = xs from s.2.2.2.2.1]
  show _ = some (Sum.inl (pc + 1, ls, Value.int (Int32.ofInt (jl_x xs i)) :: r, σ))
  unfold jl_x
  rw [Int32.ofInt_toInt]
theorem jw_iand31 {x : Int} {p : Nat} (hpc : pc + 1 = p) (hM : ib_Ms mi = some M) (hq : M.2.2.2.2.2[pc]? = some (some (.iand, a1, a2, a3, a4))) (h : ∀ c, jb_r c → jb_v c = .int (Int32.ofInt x &&& Int32.ofInt 31) → jb_w d mi p ls (jb_v c :: r) σ Q) : jb_w d mi pc ls (jb_v 31 :: jb_v x :: r) σ Q := by
  subst hpc
  have e : jb_v (Int32.ofInt x &&& Int32.ofInt 31).toInt = .int (Int32.ofInt x &&& Int32.ofInt 31) := congrArg Value.int (Int32.ofInt_toInt _)
  refine jb_step (x := (pc + 1, ls, jb_v (Int32.ofInt x &&& Int32.ofInt 31).toInt :: r, σ)) hM hq ?_ (h _ ⟨Int32.le_toInt _, Int32.toInt_lt _⟩ e)
  simp only [ib_at]
  rw [e]
end JlI
