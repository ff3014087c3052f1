/-! the master theorem -/
theorem ib_chk_at {mi pc : Nat} {M : ib_M} {q : ib_A} (hM : ib_Ms mi = some M) (hq : M.2.2.2.2.2[pc]? = some (some q)) : ib_chk M pc q = true := by
  have := ib_chkAll_at M _ 0 pc q (ib_chk_all M (List.mem_of_getElem? hM)) hq
  rw [Nat.zero_add] at this
  exact this
def ib_asc (n : Nat) : List (Option ib_A) → Bool
  | [] => true
  | none :: r => ib_asc n r
  | some q :: r => (match q.1 with | .astore_n i => decide (i.val < n) | .astore i => decide (i < n) | _ => true) && ib_asc n r
theorem ib_asc_all : (ib_ms.all fun M => ib_asc M.2.2.1 M.2.2.2.2.2 && decide (M.2.2.1 ≤ 20)) = true := by decide +kernel
theorem ib_hok_all : (ib_ms.all ib_hok) = true := by decide +kernel
theorem ib_asc_at {n : Nat} : ∀ (l : List (Option ib_A)) (k : Nat) (q : ib_A), ib_asc n l = true → l[k]? = some (some q) → (match q.1 with | .astore_n i => decide (i.val < n) | .astore i => decide (i < n) | _ => true) = true := by
  intro l
  induction l with
  | nil => intro k q _ h; simp at h
  | cons a r ih =>
    intro k q hc h
    cases k with
    | zero =>
      rw [List.getElem?_cons_zero] at h
      cases h
      rw [ib_asc, Bool.and_eq_true] at hc
      exact hc.1
    | succ k =>
      rw [List.getElem?_cons_succ] at h
      refine ih k q ?_ h
      cases a with
      | none => exact hc
      | some z => rw [ib_asc, Bool.and_eq_true] at hc; exact hc.2
theorem ib_hnd_of {pc k h : Nat} : ∀ (hs : List (Nat × Nat × Nat × Nat)), ib_hnd ib_ct pc k hs = some h → ∃ pre x suf, hs = pre ++ x :: suf ∧ x.1 ≤ pc ∧ pc < x.2.1 ∧ x.2.2.1 = h ∧ ib_ct x.2.2.2 = k ∧ ∀ z ∈ pre, ¬ (z.1 ≤ pc ∧ pc < z.2.1) ∨ ib_ct z.2.2.2 ≠ k := by
  intro hs
  induction hs with
  | nil => intro h; cases h
  | cons a r ih =>
    intro h
    obtain ⟨a1, a2, a3, a4⟩ := a
    rw [ib_hnd] at h
    split at h
    · rename_i hc
      cases h
      exact ⟨[], _, r, rfl, hc.1, hc.2.1, rfl, hc.2.2, fun z hz => by cases hz⟩
    · rename_i hc
      obtain ⟨pre, x, suf, e1, e2, e3, e4, e5, e6⟩ := ih h
      refine ⟨(a1, a2, a3, a4) :: pre, x, suf, by rw [e1]; rfl, e2, e3, e4, e5, fun z hz => ?_⟩
      rcases List.mem_cons.mp hz with rfl | hz
      · by_cases h1 : a1 ≤ pc ∧ pc < a2
        · exact Or.inr fun h2 => hc ⟨h1.1, h1.2, h2⟩
        · exact Or.inl h1
      · exact e6 z hz
theorem ib_sl_len : ∀ (ws : List Value), (∀ v ∈ ws, v.category = 1) → (lg_sl ws).length = ws.length := by
  intro ws
  induction ws with
  | nil => intro _; rfl
  | cons v t ih =>
    intro h
    have h1 := h v List.mem_cons_self
    unfold lg_sl
    rw [List.flatMap_cons, if_neg (by omega)]
    rw [List.length_append, List.length_cons, List.length_nil, List.length_cons]
    have := ih (fun v hv => h v (List.mem_cons_of_mem _ hv))
    unfold lg_sl at this
    omega
theorem ib_args_at : ∀ (ws : List Value) (i k : Nat) (v : Value), (∀ v ∈ ws, v.category = 1) → ws[k]? = some v → (i + k, v) ∈ lv_args i ws := by
  intro ws
  induction ws with
  | nil => intro i k v _ h; simp at h
  | cons w t ih =>
    intro i k v h hk
    have h1 := h w List.mem_cons_self
    unfold lv_args
    rw [if_neg (by omega)]
    cases k with
    | zero => rw [List.getElem?_cons_zero] at hk; cases hk; exact List.mem_cons_self
    | succ k =>
      rw [List.getElem?_cons_succ] at hk
      have := ih (i + 1) k v (fun v hv => h v (List.mem_cons_of_mem _ hv)) hk
      rw [show i + (k + 1) = i + 1 + k by omega]
      exact List.mem_cons_of_mem _ this
theorem ib_lr_ent {ad : Nat → Nat} {N n : Nat} {vs : List Value} {la : Array Slot} (hc : vs.all ib_cat1 = true) (hl : vs.length ≤ n) (hv : ∀ v ∈ vs, ib_vk N v) (h : lv_has la n (lv_args 0 (vs.map (ib_mv ad)))) : ib_lr ad N n (ib_ent n vs) la := by
  have hc1 : ∀ v ∈ vs, v.category = 1 := fun v hv => by
    have := List.all_eq_true.mp hc v hv
    exact of_decide_eq_true this
  refine ⟨?_, h.1, h.2.1, fun i v hi => ?_⟩
  · unfold ib_ent
    rw [List.length_append, List.length_map, List.length_replicate]
    omega
  · unfold ib_ent at hi
    by_cases hlt : i < vs.length
    · rw [List.getElem?_append_left (by rw [List.length_map]; exact hlt), List.getElem?_map] at hi
      cases hv9 : vs[i]? with
      | none => rw [hv9] at hi; cases hi
      | some w =>
        rw [hv9] at hi
        have e : w = v := Option.some.inj (Option.some.inj hi)
        subst e
        have hm := List.mem_of_getElem? hv9
        refine ⟨hc1 w hm, hv w hm, ?_⟩
        have h9 := ib_args_at (vs.map (ib_mv ad)) 0 i (ib_mv ad w) (fun z hz => by
          obtain ⟨y, hy, rfl⟩ := List.mem_map.mp hz
          rw [ib_mv_cat]; exact hc1 y hy) (by rw [List.getElem?_map, hv9]; rfl)
        rw [Nat.zero_add] at h9
        exact h.2.2 _ h9
    · rw [List.getElem?_append_right (by rw [List.length_map]; omega)] at hi
      have := List.mem_of_getElem? hi
      rw [List.mem_replicate] at this
      exact absurd this.2 (by simp)
def ib_Body (l : Launch) (n : Nat) : Prop := ∀ (d mi : Nat) (M : ib_M) (pc : Nat) (ls : ib_Ls) (st : List Value) (σ : ib_H) (o : ib_O), ib_Ms mi = some M → ib_run ib_Ms ib_ks ib_fn ib_ct n d mi pc ls st σ = some o → ∀ {p : Program} {e : Env} {R : Room} {s : State} {m : MethodId} {args : Array Value} {below : List Frame} {meth : Method} {c : Code} {D : va_G} {dA : Nat → ClassId} {base L b : Nat} {xs : Nat → Int32} {σ0 : ib_H} {ad0 ad : Nat → Nat} {H : Heap} {locs : List Loc} {cells slots : Nat} {la : Array Slot}, ib_F p s m args meth c M D dA base b L xs → R.frames = d + 1 → 39 * (d + 1) ≤ R.locals → ib_cc o.2 ≤ R.cells + ib_cc σ0 → ib_sc o.2 ≤ R.slots + ib_sc σ0 → ib_V D dA base L b xs σ0 ad0 s.heap M.2.2.1 σ ad ls st H locs cells slots la → W p l e R s m args below meth c H locs cells slots (vx_MQ below (ib_Qc D dA base b L xs σ0 ad0 o) (ib_XC D dA base b L xs σ0 ad0 o) args s R.cells R.slots (fun q => base ≤ q)) (F0 m pc la (st.map (ib_mv ad)))
theorem ib_mt_of {l : Launch} {n d k kk : Nat} {C : ib_M} {vs : List Value} {σ : ib_H} {o : ib_O} (hB : ib_Body l n) (hC : ib_Ms k = some C) (hcal : ib_cal C kk) (hc : vs.all ib_cat1 = true) (hl : vs.length ≤ C.2.2.1) (hr : ib_run ib_Ms ib_ks ib_fn ib_ct n d k 0 (ib_ent C.2.2.1 vs) [] σ = some o) : ib_Mt l C d vs σ o := by
  intro D dA base b L xs ad
  obtain ⟨c1, c2, c3, c4, c5, c6, c7, c8, c9⟩ := hcal
  have hle := ib_run_le n hr
  have body : ∀ (p : Program) (e : Env) (s : State) (m : MethodId) (args : Array Value) (below : List Frame) (meth : Method) (c : Code) (s₁ : State), BodyLoose p l C.1 (headSpec (ib_cw C :: ib_tG) (ib_rm d σ o.2)) C.2.1 C.2.2.1 C.2.2.2.1 e s m args below meth c s₁ → c.maxLocals = C.2.2.1 → c.exceptionTable.toList = tableOf C.2.2.2.2.1 → ib_Pc D dA base b L xs σ ad vs args s → W p l e (headSpec (ib_cw C :: ib_tG) (ib_rm d σ o.2)).room s m args below meth c s.heap [] 0 0 (vx_MQ below (ib_Qc D dA base b L xs σ ad o) (ib_XC D dA base b L xs σ ad o) args s (ib_cc o.2 - ib_cc σ) (ib_sc o.2 - ib_sc σ) (fun q => base ≤ q)) (entryFrame m args C.2.2.1) := by
    intro p e s m args below meth c s₁ B hml htab hP
    obtain ⟨rfl, hX, hP, hD, hok, hb, hvs⟩ := hP
    have hts := atoms_spec (ws := ib_cw C :: ib_tG) B.pre
    have F : ib_F p s m (vs.map (ib_mv ad)).toArray meth c C D dA base b L xs := ⟨B.exec, B.bytes, hml, fun w hw => hts w (List.mem_cons_of_mem _ hw), findClass_of_methodNamed B.named, B.returns, B.notSynchronized, htab, (name_of_methodNamed B.named B.method).1, hX⟩
    have hcat : ∀ v ∈ vs.map (ib_mv ad), v.category = 1 := fun v hv => by
      obtain ⟨y, hy, rfl⟩ := List.mem_map.mp hv
      rw [ib_mv_cat]
      exact of_decide_eq_true (List.all_eq_true.mp hc y hy)
    have hla := lv_entry (vs.map (ib_mv ad)) (n := C.2.2.1) (by rw [ib_sl_len _ hcat, List.length_map]; exact hl)
    rw [lg_entry_eq]
    generalize (lg_sl (vs.map (ib_mv ad)) ++ List.replicate (C.2.2.1 - (lg_sl (vs.map (ib_mv ad))).length) Slot.unset).toArray = la at hla ⊢
    have V : ib_V D dA base L b xs σ ad s.heap C.2.2.1 σ ad (ib_ent C.2.2.1 vs) [] s.heap [] 0 0 la := ⟨hP, hD, va_S.rf, ⟨Nat.zero_add _, Nat.zero_add _⟩, hok, ⟨fun _ _ => rfl, Nat.le_refl _, hb⟩, ib_lr_ent hc hl hvs hla, fun v hv => by cases hv⟩
    have h1 := hle.2.1
    have h2 := hle.2.2
    exact hB d k C 0 _ [] σ o hC hr F rfl (Nat.le_refl _) (by show _ ≤ (ib_cc o.2 - ib_cc σ) + ib_cc σ; omega) (by show _ ≤ (ib_sc o.2 - ib_sc σ) + ib_sc σ; omega) V
  by_cases he : C.2.2.2.2.1.isEmpty = true
  · have hcw : ib_cw C :: ib_tG = Cond.code C.1 C.2.1 C.2.2.1 C.2.2.2.1 :: ib_tG := by
      unfold ib_cw
      rw [if_pos he]
    refine vx_ofW c1 hcw fun p e s m args below meth c s₁ B hml htab hP => body p e s m args below meth c s₁ B hml ?_ hP
    rw [List.isEmpty_iff.mp he]
    cases ht : c.exceptionTable.toList with
    | nil => rfl
    | cons a t => exact absurd (htab a (by rw [ht]; exact List.mem_cons_self)) id
  · have hcw : ib_cw C :: ib_tG = Cond.codeWith C.1 C.2.1 C.2.2.1 C.2.2.2.1 C.2.2.2.2.1 :: ib_tG := by
      unfold ib_cw
      rw [if_neg he]
    refine vx_ofWH c1 hcw fun p e s m args below meth c s₁ B hml hP => body p e s m args below meth c s₁ B hml ?_ hP
    obtain ⟨m9, meth9, c9, h1, h2, h3, h4, h5, h6, -⟩ := Cond.codeWith_spec (atoms_spec (ws := ib_cw C :: ib_tG) B.pre _ (by rw [hcw]; exact List.mem_cons_self))
    cases Option.some.inj (h1.symm.trans B.named)
    cases Option.some.inj (h2.symm.trans B.method)
    cases Option.some.inj (h3.symm.trans (Stand.of_body B).code)
    rw [← h6]
    unfold tableOf
    rw [List.map_map]
    exact (List.map_id _).symm
theorem ib_call_cal {mi pc : Nat} {M C : ib_M} {i : Instr} {a1 a2 a3 a4 : Nat} {ls : ib_Ls} {st : List Value} {σ : ib_H} {c9 : Nat × List Value × List Value} (hM : ib_Ms mi = some M) (hq : M.2.2.2.2.2[pc]? = some (some (i, a1, a2, a3, a4))) (h : ib_at ib_ks ib_fn (i, a1, a2, a3, a4) pc ls st σ = some (.inr (.inl c9))) (hC : ib_Ms c9.1 = some C) : ∃ kk, ib_cal C kk := by
  have hkc := ib_kc_at _ _ _ (List.all_eq_true.mp ib_kc_all M (List.mem_of_getElem? hM)) hq
  rcases ib_at_call h with ⟨hi, n, r, e1, e2, e3, rfl⟩ | ⟨⟨idx, rfl⟩, e3, rfl⟩
  · rcases hi with ⟨⟨idx, rfl⟩, e1000⟩ | ⟨idx, rfl⟩
    · simp only [Bool.or_eq_true, decide_eq_true_eq] at hkc
      rcases hkc with z | z
      · exact absurd z e1000
      · exact ⟨3, ib_cal_of hC z (by omega)⟩
    · simp only [Bool.or_eq_true, decide_eq_true_eq] at hkc
      rcases hkc with z | z
      · exact ⟨1, ib_cal_of hC z (by omega)⟩
      · exact ⟨2, ib_cal_of hC z (by omega)⟩
  · exact ⟨0, ib_cal_of hC (of_decide_eq_true hkc) (by omega)⟩
