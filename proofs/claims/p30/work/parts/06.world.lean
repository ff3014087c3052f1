/-! what the machine's heap is, to an abstract heap; words; classes -/
abbrev ib_tG : List Cond := lw_tbl.filter goodWord
theorem ib_tG_of {w : Cond} (h : w ∈ tables_1) (g : goodWord w = true) : w ∈ ib_tG := List.mem_filter.mpr ⟨by unfold lw_tbl; exact List.mem_append_right _ h, g⟩
theorem ib_tG_wd {i : Nat} {w : Cond} (h : ib_wd i w = true) : w ∈ ib_tG := by
  simp only [ib_wd, Bool.and_eq_true, decide_eq_true_eq] at h
  exact ib_tG_of (List.mem_of_getElem? h.1) h.2
theorem ib_tG_good {ws : List Cond} (h : ∀ w ∈ ws, w ∈ ib_tG) : GoodIn ib_tG ws := fun w hw => ⟨h w hw, good_of_word (List.mem_filter.mp (h w hw)).2⟩
def ib_clsK (d : String) (k : Nat) : Bool := match parseFieldDescriptor d with
  | some .int => decide (k = 0)
  | some .boolean => decide (k = 1)
  | some (.object _) => decide (k = 2)
  | some (.array _) => decide (k = 2)
  | _ => false
def ib_clsOk (ci : Nat) (q : vw_C) : Bool := decide (q.2.2 = ib_fn ci) && (List.range q.2.2).all (fun k => ib_clsK (q.2.1 k).2.2.1 (ib_ks ci k)) && (u_ws q.1 q.2.1 q.2.2).all (fun w => decide (w ∈ tables_1) && goodWord w) && (List.range q.2.2).all (fun a => (List.range q.2.2).all (fun b => decide (a = b) || decide ((q.2.1 a).2.1 ≠ (q.2.1 b).2.1))) && decide (ci < 50) && decide (Cond.instantiable q.1 q.2.2 ∈ tables_1) && decide (Cond.initialized q.1 ∈ tables_1)
set_option maxRecDepth 100000 in
theorem ib_cls_all : (vwCl.zipIdx).all (fun q => ib_clsOk q.2 q.1) = true := by decide +kernel
theorem ib_cls {ci : Nat} {q : vw_C} (h : vwCl[ci]? = some q) : ib_clsOk ci q = true := by
  have h1 : (q, ci) ∈ vwCl.zipIdx := List.mk_mem_zipIdx_iff_getElem?.mpr h
  exact List.all_eq_true.mp ib_cls_all _ h1
theorem ib_clsF {ci : Nat} {C : String} {T : u_T} {N : Nat} (h : vwCl[ci]? = some (C, T, N)) : N = ib_fn ci ∧ (∀ k, k < N → ib_clsK (T k).2.2.1 (ib_ks ci k) = true) ∧ (∀ w ∈ u_ws C T N, w ∈ ib_tG) ∧ (∀ a, a < N → ∀ b, b < N → a ≠ b → (T a).2.1 ≠ (T b).2.1) ∧ ci < 50 ∧ Cond.instantiable C N ∈ ib_tG ∧ Cond.initialized C ∈ ib_tG := by
  have h1 := ib_cls h
  simp only [ib_clsOk, Bool.and_eq_true, decide_eq_true_eq, List.all_eq_true, List.mem_range, Bool.or_eq_true] at h1
  obtain ⟨⟨⟨⟨⟨⟨h1, h2⟩, h3⟩, h4⟩, h5⟩, h6⟩, h7⟩ := h1
  refine ⟨h1, h2, fun w hw => ib_tG_of (h3 w hw).1 (h3 w hw).2, fun a ha b hb hab => ?_, h5, ib_tG_of h6 rfl, ib_tG_of h7 rfl⟩
  rcases h4 a ha b hb with h | h
  · exact absurd h hab
  · exact h
theorem ib_clsT {d : String} {k : Nat} (h : ib_clsK d k = true) : ∃ ty, parseFieldDescriptor d = some ty ∧ (k = 0 → ty = .int) ∧ (k = 1 → ty = .boolean) ∧ (k = 2 → (∃ n, ty = .object n) ∨ ∃ t, ty = .array t) ∧ k < 3 ∧ defaultValue ty = (if k = 2 then .null else .int 0) := by
  unfold ib_clsK at h
  split at h <;> simp_all [defaultValue]
def ib_op (ad : Nat → Nat) (n : Nat) : Option Nat := if n = 0 then none else some (ad n)
def ib_mv (ad : Nat → Nat) (v : Value) : Value := match v with
  | .ref n => va_rf (ib_op ad n)
  | w => w
def ib_e (dA : Nat → ClassId) (ad : Nat → Nat) (σ : ib_H) (n : Nat) : va_E :=
  if (ib_sh σ n).1 < 50 then .inr ((ib_sh σ n).1, (List.range (ib_fn (ib_sh σ n).1)).map fun k => if ib_ks (ib_sh σ n).1 k = 2 then va_rf (ib_op ad (ib_P σ n k)) else .int (ib_I σ n k))
  else if (ib_sh σ n).1 = 102 then .inl (dA 102, (ib_sh σ n).2, .inr (.inl (ib_L σ n)))
  else if (ib_sh σ n).1 < 102 then .inl (dA (ib_sh σ n).1, (ib_sh σ n).2, .inl (ib_I σ n))
  else .inl (dA (ib_sh σ n).1, (ib_sh σ n).2, .inr (.inr (.inr (.inr fun k => ib_op ad (ib_P σ n k)))))
def ib_w (dA : Nat → ClassId) (ad : Nat → Nat) (σ : ib_H) : va_W := (List.range (ib_nx σ - 2)).map fun i => (ad (i + 2), ib_e dA ad σ (i + 2))
theorem ib_w_at {dA : Nat → ClassId} {ad : Nat → Nat} {σ : ib_H} {n : Nat} (h2 : 2 ≤ n) (hn : n < ib_nx σ) : (ib_w dA ad σ)[n - 2]? = some (ad n, ib_e dA ad σ n) := by
  unfold ib_w
  rw [List.getElem?_map, List.getElem?_range (by omega)]
  simp only [Option.map_some, Nat.sub_add_cancel h2]
theorem ib_w_len {dA : Nat → ClassId} {ad : Nat → Nat} {σ : ib_H} : (ib_w dA ad σ).length = ib_nx σ - 2 := by simp [ib_w]
theorem ib_w_set {dA : Nat → ClassId} {ad : Nat → Nat} {σ σ' : ib_H} {n : Nat} (h2 : 2 ≤ n) (hn : n < ib_nx σ) (hx : ib_nx σ' = ib_nx σ) (he : ∀ m, m ≠ n → ib_e dA ad σ' m = ib_e dA ad σ m) : ib_w dA ad σ' = (ib_w dA ad σ).set (n - 2) (ad n, ib_e dA ad σ' n) := by
  apply List.ext_getElem?
  intro i
  by_cases hi : i < ib_nx σ - 2
  · have h1 : (ib_w dA ad σ')[i]? = some (ad (i + 2), ib_e dA ad σ' (i + 2)) := by
      have := ib_w_at (dA := dA) (ad := ad) (σ := σ') (n := i + 2) (by omega) (by omega)
      simpa using this
    rw [h1, List.getElem?_set]
    by_cases e : n - 2 = i
    · have e2 : i + 2 = n := by omega
      rw [if_pos e, if_pos (by rw [ib_w_len]; omega), e2]
    · rw [if_neg e]
      have := ib_w_at (dA := dA) (ad := ad) (σ := σ) (n := i + 2) (by omega) (by omega)
      rw [Nat.add_sub_cancel] at this
      rw [this, he (i + 2) (by omega)]
  · rw [List.getElem?_eq_none (by rw [ib_w_len, hx]; omega), List.getElem?_eq_none (by rw [List.length_set, ib_w_len]; omega)]
theorem ib_w_new {dA : Nat → ClassId} {ad ad' : Nat → Nat} {σ σ' : ib_H} (h2 : 2 ≤ ib_nx σ) (hx : ib_nx σ' = ib_nx σ + 1) (he : ∀ m, m < ib_nx σ → ad' m = ad m ∧ ib_e dA ad' σ' m = ib_e dA ad σ m) : ib_w dA ad' σ' = ib_w dA ad σ ++ [(ad' (ib_nx σ), ib_e dA ad' σ' (ib_nx σ))] := by
  unfold ib_w
  rw [hx, show ib_nx σ + 1 - 2 = (ib_nx σ - 2) + 1 by omega, List.range_succ, List.map_append]
  congr 1
  · apply List.map_congr_left
    intro i hi
    rw [List.mem_range] at hi
    rw [(he (i + 2) (by omega)).1, (he (i + 2) (by omega)).2]
  · simp only [List.map_cons, List.map_nil, Nat.sub_add_cancel h2]
def ib_vk (N : Nat) (v : Value) : Prop := match v with
  | .ref n => n < N
  | _ => True
def ib_ok (L : Nat) (xs : Nat → Int32) (σ : ib_H) : Prop := 2 ≤ ib_nx σ ∧ (∀ n k, ib_P σ n k < ib_nx σ) ∧ ib_sh σ 1 = (99, L) ∧ ∀ k, k < L → ib_I σ 1 k = xs k
def ib_lr (ad : Nat → Nat) (N nL : Nat) (ls : ib_Ls) (la : Array Slot) : Prop := ls.length = nL ∧ la.size = nL ∧ lv_wf la ∧ ∀ (i : Nat) (v : Value), ls[i]? = some (some v) → v.category = 1 ∧ ib_vk N v ∧ la[i]? = some (.val (ib_mv ad v))
def ib_lvl (ad : Nat → Nat) (ls : ib_Ls) : List (Nat × Value) := (List.range ls.length).filterMap fun i => match ls[i]? with
  | some (some v) => some (i, ib_mv ad v)
  | _ => none
theorem ib_mv_cat (ad : Nat → Nat) (v : Value) : (ib_mv ad v).category = v.category := by
  cases v <;> try rfl
  simp only [ib_mv, ib_op]
  split <;> rfl
theorem ib_lvl_in {ad : Nat → Nat} {ls : ib_Ls} {i : Nat} {v : Value} (h : ls[i]? = some (some v)) : (i, ib_mv ad v) ∈ ib_lvl ad ls := by
  unfold ib_lvl
  rw [List.mem_filterMap]
  refine ⟨i, List.mem_range.mpr (List.getElem?_eq_some_iff.mp h).1, ?_⟩
  rw [h]
theorem ib_lvl_of {ad : Nat → Nat} {ls : ib_Ls} {q : Nat × Value} (h : q ∈ ib_lvl ad ls) : ∃ v, ls[q.1]? = some (some v) ∧ q.2 = ib_mv ad v := by
  unfold ib_lvl at h
  rw [List.mem_filterMap] at h
  obtain ⟨i, -, h⟩ := h
  split at h
  · rename_i v hv
    cases h
    exact ⟨v, hv, rfl⟩
  · cases h
theorem ib_lr_has {ad : Nat → Nat} {N nL : Nat} {ls : ib_Ls} {la : Array Slot} (h : ib_lr ad N nL ls la) : lv_has la nL (ib_lvl ad ls) := by
  refine ⟨h.2.1, h.2.2.1, fun q hq => ?_⟩
  obtain ⟨v, h1, h2⟩ := ib_lvl_of hq
  rw [h2]
  exact (h.2.2.2 _ _ h1).2.2
theorem ib_lr_keep {ad : Nat → Nat} {N nL i : Nat} {ls : ib_Ls} {la la' : Array Slot} {x : Value} (h : ib_lr ad N nL ls la) (hl : lv_has la' nL ((i, x) :: (ib_lvl ad ls).filter (fun q => !(q.1 == i) && !(q.1 + 1 == i && q.2.category == 2)))) {j : Nat} {v : Value} (hj : ls[j]? = some (some v)) (hne : j ≠ i) : la'[j]? = some (.val (ib_mv ad v)) := by
  refine hl.2.2 (j, ib_mv ad v) (List.mem_cons_of_mem _ (List.mem_filter.mpr ⟨ib_lvl_in hj, ?_⟩))
  have hc := (h.2.2.2 _ _ hj).1
  have h1 : (ib_mv ad v).category = 1 := by rw [ib_mv_cat]; exact hc
  simp [hne, h1]
theorem ib_lr_set {ad : Nat → Nat} {N nL i : Nat} {ls : ib_Ls} {la la' : Array Slot} {v : Value} (h : ib_lr ad N nL ls la) (hc : v.category = 1) (hv : ib_vk N v) (hl : lv_has la' nL ((i, ib_mv ad v) :: (ib_lvl ad ls).filter (fun q => !(q.1 == i) && !(q.1 + 1 == i && q.2.category == 2)))) : ib_lr ad N nL (ls.set i (some v)) la' := by
  refine ⟨by rw [List.length_set]; exact h.1, hl.1, hl.2.1, fun j w hj => ?_⟩
  rw [List.getElem?_set] at hj
  split at hj
  · rename_i e
    subst e
    split at hj
    · cases hj
      exact ⟨hc, hv, hl.2.2 _ List.mem_cons_self⟩
    · cases hj
  · rename_i e
    exact ⟨(h.2.2.2 _ _ hj).1, (h.2.2.2 _ _ hj).2.1, ib_lr_keep h hl hj (fun z => e z.symm)⟩
theorem ib_lr_none {ad : Nat → Nat} {N nL i : Nat} {ls : ib_Ls} {la la' : Array Slot} {x : Value} (h : ib_lr ad N nL ls la) (hl : lv_has la' nL ((i, x) :: (ib_lvl ad ls).filter (fun q => !(q.1 == i) && !(q.1 + 1 == i && q.2.category == 2)))) : ib_lr ad N nL (ls.set i none) la' := by
  refine ⟨by rw [List.length_set]; exact h.1, hl.1, hl.2.1, fun j w hj => ?_⟩
  rw [List.getElem?_set] at hj
  split at hj
  · split at hj
    · cases hj
    · cases hj
  · rename_i e
    exact ⟨(h.2.2.2 _ _ hj).1, (h.2.2.2 _ _ hj).2.1, ib_lr_keep h hl hj (fun z => e z.symm)⟩
theorem ib_vk_mono {N N' : Nat} {v : Value} (h : ib_vk N v) (hn : N ≤ N') : ib_vk N' v := by
  cases v <;> first | exact trivial | exact Nat.lt_of_lt_of_le h hn
theorem ib_op_eq {ad ad' : Nat → Nat} {N n : Nat} (h : ∀ k, k < N → ad' k = ad k) (hn : n < N) : ib_op ad' n = ib_op ad n := by
  unfold ib_op
  rw [h n hn]
theorem ib_mv_eq {ad ad' : Nat → Nat} {N : Nat} {v : Value} (h : ∀ k, k < N → ad' k = ad k) (hv : ib_vk N v) : ib_mv ad' v = ib_mv ad v := by
  cases v <;> first | rfl | (simp only [ib_mv]; rw [ib_op_eq h hv])
theorem ib_mv_map {ad ad' : Nat → Nat} {N : Nat} {st : List Value} (h : ∀ k, k < N → ad' k = ad k) (hv : ∀ v ∈ st, ib_vk N v) : st.map (ib_mv ad') = st.map (ib_mv ad) := List.map_congr_left fun v hm => ib_mv_eq h (hv v hm)
theorem ib_lr_ad {ad ad' : Nat → Nat} {N N' nL : Nat} {ls : ib_Ls} {la : Array Slot} (h : ib_lr ad N nL ls la) (he : ∀ k, k < N → ad' k = ad k) (hn : N ≤ N') : ib_lr ad' N' nL ls la := by
  refine ⟨h.1, h.2.1, h.2.2.1, fun i v hi => ?_⟩
  obtain ⟨a, b, c⟩ := h.2.2.2 i v hi
  exact ⟨a, ib_vk_mono b hn, by rw [ib_mv_eq he b]; exact c⟩
theorem ib_e_ad {dA : Nat → ClassId} {ad ad' : Nat → Nat} {N : Nat} {σ : ib_H} {n : Nat} (he : ∀ k, k < N → ad' k = ad k) (hP : ∀ k, ib_P σ n k < N) : ib_e dA ad' σ n = ib_e dA ad σ n := by
  unfold ib_e
  simp only [ib_op_eq he (hP _)]
/-- where an object stands: its fields -/
theorem ib_e_obj {dA : Nat → ClassId} {ad : Nat → Nat} {σ : ib_H} {n t : Nat} (h : (ib_sh σ n).1 = t) (ht : t < 50) : ib_e dA ad σ n = .inr (t, (List.range (ib_fn t)).map fun k => if ib_ks t k = 2 then va_rf (ib_op ad (ib_P σ n k)) else .int (ib_I σ n k)) := by
  unfold ib_e
  rw [if_pos (by rw [h]; exact ht), h]
theorem ib_e_int {dA : Nat → ClassId} {ad : Nat → Nat} {σ : ib_H} {n t : Nat} (h : (ib_sh σ n).1 = t) (ht : t = 100 ∨ t = 101) : ib_e dA ad σ n = .inl (dA t, (ib_sh σ n).2, .inl (ib_I σ n)) := by
  unfold ib_e
  rw [if_neg (by omega), if_neg (by omega), if_pos (by omega), h]
theorem ib_e_long {dA : Nat → ClassId} {ad : Nat → Nat} {σ : ib_H} {n : Nat} (h : (ib_sh σ n).1 = 102) : ib_e dA ad σ n = .inl (dA 102, (ib_sh σ n).2, .inr (.inl (ib_L σ n))) := by
  unfold ib_e
  rw [if_neg (by omega), if_pos h]
theorem ib_e_ref {dA : Nat → ClassId} {ad : Nat → Nat} {σ : ib_H} {n t : Nat} (h : (ib_sh σ n).1 = t) (ht : 103 ≤ t) : ib_e dA ad σ n = .inl (dA t, (ib_sh σ n).2, .inr (.inr (.inr (.inr fun k => ib_op ad (ib_P σ n k))))) := by
  unfold ib_e
  rw [if_neg (by omega), if_neg (by omega), if_neg (by omega), h]
