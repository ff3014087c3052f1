/-! what holds at a point of a method, and what each instruction does to it -/
def ib_tys (dA : Nat → ClassId) : List (ClassId × FieldType) := [(dA 100, .int), (dA 101, .boolean), (dA 102, .int), (dA 103, .object "PageLoom$Page"), (dA 104, .object "PageLoom$LogRecord")]
def ib_isX : Cond → Bool
  | .methodLinkNest .. => true
  | .declares _ => true
  | .castable .. => true
  | _ => false
abbrev ib_tX : List Cond := tables_1.filter ib_isX
def ib_xn (k : Nat) : String := if k = 0 then "java/lang/IllegalArgumentException" else if k = 1 then "java/lang/IllegalStateException" else "java/lang/IndexOutOfBoundsException"
def ib_En (U : State) : Prop := (∀ w ∈ ib_tX, va_Nw w U) ∧ (∀ (own : String) (k : Nat) (tx : String), Cond.stringRef own k tx ∈ tables_1 → ∃ a, vk_R own k tx a U) ∧ va_AO "PageLoom$Page" U ∧ va_AO "PageLoom$LogRecord" U
def ib_X (D : va_G) (dA : Nat → ClassId) (base b L : Nat) (xs : Nat → Int32) (U : State) : Prop := va_K D vwCl (ib_tys dA) U ∧ va_X b L xs U U.heap ∧ b < base ∧ base ≤ U.heap.size ∧ vx_Zq Bundle.tN "UNASSIGNED_STACK" Bundle.steD (fun q => base ≤ q) U U.heap ∧ vx_Zq Bundle.tN "SUPPRESSED_SENTINEL" Bundle.listD (fun q => base ≤ q) U U.heap ∧ ib_En U
theorem ib_Nc_moved {C T : String} {u U : State} (hvm : u.vm.Alike U.vm) (h : va_Nc C T u) : va_Nc C T U := by
  obtain ⟨c, t, h1, h2, h3⟩ := h
  exact ⟨c, t, by rw [hvm.findClass]; exact h1, by rw [hvm.findClass]; exact h2, by rw [hvm.assignable]; exact h3⟩
theorem ib_En_to {u U : State} (hW : u.WarmedH U.vm) (h : ib_En u) : ib_En U := by
  obtain ⟨h1, h2, h3, h4⟩ := h
  refine ⟨fun w hw => ?_, fun own k tx hm => ?_, h3.moved hW.alike, h4.moved hW.alike⟩
  · have h0 := h1 w hw
    have hx := (List.mem_filter.mp hw).2
    cases w <;> first | exact va_Nw.warmM hW h0 | exact va_Nw.warmD hW h0 | exact va_Nw.warmC hW h0 | (simp [ib_isX] at hx)
  · obtain ⟨a, ha⟩ := h2 own k tx hm
    exact ⟨a, vk_R.warm hW ha⟩
theorem ib_X_to {D : va_G} {dA : Nat → ClassId} {base b L : Nat} {xs : Nat → Int32} {u U : State} (hW : u.WarmedH U.vm) (hz : u.heap.size ≤ U.heap.size) (hk : ∀ q : Nat, q < u.heap.size → ¬ base ≤ q → U.heap[q]? = u.heap[q]?) (h : ib_X D dA base b L xs u) : ib_X D dA base b L xs U := by
  obtain ⟨h1, h2, h3, h4, h5, h6, h7⟩ := h
  exact ⟨va_K.moved hW.alike h1, (h2.moved hW.alike).kept (hk b (by omega) (by omega)), h3, by omega, (h5.moved hW.alike).kept hk, (h6.moved hW.alike).kept hk, ib_En_to hW h7⟩
def ib_V (D : va_G) (dA : Nat → ClassId) (base L b : Nat) (xs : Nat → Int32) (σ0 : ib_H) (ad0 : Nat → Nat) (H0 : Heap) (nL : Nat) (σ : ib_H) (ad : Nat → Nat) (ls : ib_Ls) (st : List Value) (H : Heap) (locs : List Loc) (cells slots : Nat) (la : Array Slot) : Prop :=
  va_P D vwCl (ib_w dA ad σ) H ∧ va_D (fun q => base ≤ q) (ib_w dA ad σ) ∧ va_S (fun q => base ≤ q) H0 H locs ∧ (cells + ib_cc σ0 = ib_cc σ ∧ slots + ib_sc σ0 = ib_sc σ) ∧ ib_ok L xs σ ∧ ((∀ k, k < ib_nx σ0 → ad k = ad0 k) ∧ ib_nx σ0 ≤ ib_nx σ ∧ ad 1 = b) ∧ ib_lr ad (ib_nx σ) nL ls la ∧ ∀ v ∈ st, ib_vk (ib_nx σ) v
def ib_F (p : Program) (s : State) (m : MethodId) (args : Array Value) (meth : Method) (c : Code) (M : ib_M) (D : va_G) (dA : Nat → ClassId) (base b L : Nat) (xs : Nat → Int32) : Prop :=
  p.tables.exec = Jvm.exec ∧ c.code = M.2.1 ∧ c.maxLocals = M.2.2.1 ∧ (∀ w ∈ ib_tG, w.before args s = true) ∧ s.vm.findClass M.1.cls = some m.cls ∧ meth.sig.returnType = M.2.2.2.1 ∧ meth.locks = false ∧ c.exceptionTable.toList = tableOf M.2.2.2.2.1 ∧ meth.name = M.1.name ∧ ib_X D dA base b L xs s
section IbS
variable {p : Program} {l : Launch} {e : Env} {R : Room} {s : State} {m : MethodId} {args : Array Value} {below : List Frame} {meth : Method} {c : Code} {Q : State → Prop} {M : ib_M} {D : va_G} {dA : Nat → ClassId} {base L b nL : Nat} {xs : Nat → Int32} {σ0 σ σ' : ib_H} {ad0 ad : Nat → Nat} {ls ls' : ib_Ls} {st st' r : List Value} {H H1 : Heap} {locs locs1 : List Loc} {cells slots pc : Nat} {la la' : Array Slot} {H0 : Heap}
theorem ib_V.tst (h : ib_V D dA base L b xs σ0 ad0 H0 nL σ ad ls st H locs cells slots la) (hs : ∀ v ∈ st', ib_vk (ib_nx σ) v) : ib_V D dA base L b xs σ0 ad0 H0 nL σ ad ls st' H locs cells slots la := by
  obtain ⟨h1, h2, h3, h4, h5, h6, h7, h8⟩ := h
  exact ⟨h1, h2, h3, h4, h5, h6, h7, hs⟩
theorem ib_V.tls (h : ib_V D dA base L b xs σ0 ad0 H0 nL σ ad ls st H locs cells slots la) (hl : ib_lr ad (ib_nx σ) nL ls' la') (hs : ∀ v ∈ st', ib_vk (ib_nx σ) v) : ib_V D dA base L b xs σ0 ad0 H0 nL σ ad ls' st' H locs cells slots la' := by
  obtain ⟨h1, h2, h3, h4, h5, h6, h7, h8⟩ := h
  exact ⟨h1, h2, h3, h4, h5, h6, hl, hs⟩
theorem ib_V.tvk (h : ib_V D dA base L b xs σ0 ad0 H0 nL σ ad ls st H locs cells slots la) : ∀ v ∈ st, ib_vk (ib_nx σ) v := h.2.2.2.2.2.2.2
theorem ib_V.tlr (h : ib_V D dA base L b xs σ0 ad0 H0 nL σ ad ls st H locs cells slots la) : ib_lr ad (ib_nx σ) nL ls la := h.2.2.2.2.2.2.1
theorem ib_V.twr (h : ib_V D dA base L b xs σ0 ad0 H0 nL σ ad ls st H locs cells slots la) (hP : va_P D vwCl (ib_w dA ad σ') H1) (hD : va_D (fun q => base ≤ q) (ib_w dA ad σ')) (hS : va_S (fun q => base ≤ q) H0 H1 locs1) (hx : σ'.1 = σ.1) (ho : ib_ok L xs σ') (hs : ∀ v ∈ st', ib_vk (ib_nx σ) v) : ib_V D dA base L b xs σ0 ad0 H0 nL σ' ad ls st' H1 locs1 cells slots la := by
  obtain ⟨h1, h2, h3, h4, h5, h6, h7, h8⟩ := h
  refine ⟨hP, hD, hS, ?_, ho, ?_, ?_, ?_⟩
  · simp only [ib_cc, ib_sc, hx]; exact h4
  · simp only [ib_nx, hx]; exact h6
  · simp only [ib_nx, hx]; exact h7
  · simp only [ib_nx, hx]; exact hs
/-- going on at a point -/
def ib_KK (p : Program) (l : Launch) (e : Env) (R : Room) (s : State) (m : MethodId) (args : Array Value) (below : List Frame) (meth : Method) (c : Code) (Q : State → Prop) (D : va_G) (dA : Nat → ClassId) (base L b : Nat) (xs : Nat → Int32) (σ0 : ib_H) (ad0 : Nat → Nat) (nL : Nat) (x : Nat × ib_Ls × List Value × ib_H) : Prop :=
  ∀ (ad : Nat → Nat) (H : Heap) (locs : List Loc) (cells slots : Nat) (la : Array Slot), ib_V D dA base L b xs σ0 ad0 s.heap nL x.2.2.2 ad x.2.1 x.2.2.1 H locs cells slots la → W p l e R s m args below meth c H locs cells slots Q (F0 m x.1 la (x.2.2.1.map (ib_mv ad)))
theorem ib_vk2 {N : Nat} {v w : Value} {r : List Value} (h : ∀ z ∈ v :: r, ib_vk N z) (hw : ib_vk N w) : ∀ z ∈ w :: r, ib_vk N z := fun z hz => (List.mem_cons.mp hz).elim (fun e => by rw [e]; exact hw) (fun hz => h z (List.mem_cons_of_mem _ hz))
theorem ib_vkT {N : Nat} {v : Value} {r : List Value} (h : ∀ z ∈ v :: r, ib_vk N z) : ∀ z ∈ r, ib_vk N z := fun z hz => h z (List.mem_cons_of_mem _ hz)
theorem ib_vkC {N : Nat} {v : Value} {r : List Value} (hv : ib_vk N v) (h : ∀ z ∈ r, ib_vk N z) : ∀ z ∈ v :: r, ib_vk N z := fun z hz => (List.mem_cons.mp hz).elim (fun e => by rw [e]; exact hv) (h z)
theorem ib_s_arith {i : Instr} {a1 a2 a3 a4 : Nat} {x : Nat × ib_Ls × List Value × ib_H} (hi : i = .iadd ∨ i = .isub ∨ i = .imul ∨ i = .iand ∨ i = .idiv ∨ i = .irem ∨ i = .i2l ∨ i = .lcmp ∨ i = .ishr) (F : ib_F p s m args meth c M D dA base b L xs) (hd : decode M.2.1 pc = .ok (i, 1)) (h : ib_at ib_ks ib_fn (i, a1, a2, a3, a4) pc ls st σ = some (.inl x)) (V : ib_V D dA base L b xs σ0 ad0 s.heap nL σ ad ls st H locs cells slots la) (K : ib_KK p l e R s m args below meth c Q D dA base L b xs σ0 ad0 nL x) : W p l e R s m args below meth c H locs cells slots Q (F0 m pc la (st.map (ib_mv ad))) := by
  have hv := V.tvk
  rcases hi with rfl | rfl | rfl | rfl | rfl | rfl | rfl | rfl | rfl
  · simp only [ib_at] at h
    split at h <;> cases h
    exact lv_iadd F.1 F.2.1 hd (K ad H locs cells slots la (V.tst (ib_vkC trivial (ib_vkT (ib_vkT hv)))))
  · simp only [ib_at] at h
    split at h <;> cases h
    exact lv_isub F.1 F.2.1 hd (K ad H locs cells slots la (V.tst (ib_vkC trivial (ib_vkT (ib_vkT hv)))))
  · simp only [ib_at] at h
    split at h <;> cases h
    exact lv_imul F.1 F.2.1 hd (K ad H locs cells slots la (V.tst (ib_vkC trivial (ib_vkT (ib_vkT hv)))))
  · simp only [ib_at] at h
    split at h <;> cases h
    exact lv_iand F.1 F.2.1 hd (K ad H locs cells slots la (V.tst (ib_vkC trivial (ib_vkT (ib_vkT hv)))))
  · simp only [ib_at] at h
    split at h
    · split at h <;> cases h
      exact lv_idiv F.1 F.2.1 hd (by assumption) (K ad H locs cells slots la (V.tst (ib_vkC trivial (ib_vkT (ib_vkT hv)))))
    · cases h
  · simp only [ib_at] at h
    split at h
    · split at h <;> cases h
      exact lv_irem F.1 F.2.1 hd (by assumption) (K ad H locs cells slots la (V.tst (ib_vkC trivial (ib_vkT (ib_vkT hv)))))
    · cases h
  · simp only [ib_at] at h
    split at h <;> cases h
    exact lv_i2l F.1 F.2.1 hd rfl (K ad H locs cells slots la (V.tst (ib_vkC trivial (ib_vkT hv))))
  · simp only [ib_at] at h
    split at h <;> cases h
    exact W.lcmp F.1 F.2.1 hd (K ad H locs cells slots la (V.tst (ib_vkC trivial (ib_vkT (ib_vkT hv)))))
  · simp only [ib_at] at h
    split at h <;> cases h
    exact lv_ishr F.1 F.2.1 hd (K ad H locs cells slots la (V.tst (ib_vkC trivial (ib_vkT (ib_vkT hv)))))
/-- the kinds of locals that a load names -/
theorem ib_s_load {a1 a2 a3 a4 : Nat} {x : Nat × ib_Ls × List Value × ib_H} {i : Instr} {k n : Nat} (hi : (∃ j : Fin 4, j.val = k ∧ n = 1 ∧ (i = .iload_n j ∨ i = .aload_n j)) ∨ (n = 2 ∧ (i = .iload k ∨ i = .aload k))) (F : ib_F p s m args meth c M D dA base b L xs) (hd : decode M.2.1 pc = .ok (i, n)) (h : ib_at ib_ks ib_fn (i, a1, a2, a3, a4) pc ls st σ = some (.inl x)) (V : ib_V D dA base L b xs σ0 ad0 s.heap nL σ ad ls st H locs cells slots la) (K : ib_KK p l e R s m args below meth c Q D dA base L b xs σ0 ad0 nL x) : W p l e R s m args below meth c H locs cells slots Q (F0 m pc la (st.map (ib_mv ad))) := by
  rcases hi with ⟨j, rfl, rfl, rfl | rfl⟩ | ⟨rfl, rfl | rfl⟩
  · simp only [ib_at, ib_ldI] at h
    split at h <;> cases h
    rename_i y hv
    obtain ⟨h1, h2, h3⟩ := V.tlr.2.2.2 _ _ hv
    exact lv_iload_n F.1 F.2.1 hd rfl h3 (K ad H locs cells slots la (V.tst (ib_vkC trivial V.tvk)))
  · simp only [ib_at, ib_ldA] at h
    split at h <;> cases h
    rename_i y hv
    obtain ⟨h1, h2, h3⟩ := V.tlr.2.2.2 _ _ hv
    have K1 := K ad H locs cells slots la (V.tst (ib_vkC h2 V.tvk))
    simp only [List.map_cons, ib_mv, ib_op] at K1 h3
    split at h3
    · rename_i e
      rw [if_pos e] at K1
      exact lv_aload_nN F.1 F.2.1 hd rfl h3 K1
    · rename_i e
      rw [if_neg e] at K1
      exact lv_aload_n F.1 F.2.1 hd rfl h3 K1
  · simp only [ib_at, ib_ldI] at h
    split at h <;> cases h
    rename_i y hv
    obtain ⟨h1, h2, h3⟩ := V.tlr.2.2.2 _ _ hv
    exact lv_iload F.1 F.2.1 hd h3 (K ad H locs cells slots la (V.tst (ib_vkC trivial V.tvk)))
  · simp only [ib_at, ib_ldA] at h
    split at h <;> cases h
    rename_i y hv
    obtain ⟨h1, h2, h3⟩ := V.tlr.2.2.2 _ _ hv
    have K1 := K ad H locs cells slots la (V.tst (ib_vkC h2 V.tvk))
    simp only [List.map_cons, ib_mv, ib_op] at K1 h3
    split at h3
    · rename_i e
      rw [if_pos e] at K1
      exact lv_aloadN F.1 F.2.1 hd h3 K1
    · rename_i e
      rw [if_neg e] at K1
      exact lv_aload F.1 F.2.1 hd h3 K1
theorem ib_s_store {a1 a2 a3 a4 : Nat} {x : Nat × ib_Ls × List Value × ib_H} {i : Instr} {k n : Nat} (hi : (∃ j : Fin 4, j.val = k ∧ n = 1 ∧ (i = .istore_n j ∨ i = .astore_n j)) ∨ (n = 2 ∧ (i = .istore k ∨ i = .astore k))) (F : ib_F p s m args meth c M D dA base b L xs) (hd : decode M.2.1 pc = .ok (i, n)) (h : ib_at ib_ks ib_fn (i, a1, a2, a3, a4) pc ls st σ = some (.inl x)) (V : ib_V D dA base L b xs σ0 ad0 s.heap nL σ ad ls st H locs cells slots la) (K : ib_KK p l e R s m args below meth c Q D dA base L b xs σ0 ad0 nL x) : W p l e R s m args below meth c H locs cells slots Q (F0 m pc la (st.map (ib_mv ad))) := by
  have hh := ib_lr_has V.tlr
  have hlen := V.tlr.1
  rcases hi with ⟨j, rfl, rfl, rfl | rfl⟩ | ⟨rfl, rfl | rfl⟩
  · simp only [ib_at, ib_sto] at h
    split at h
    · split at h <;> cases h
      exact lv_istore_n F.1 F.2.1 hd rfl hh (by omega) rfl (fun la' hl => K ad H locs cells slots la' (V.tls (ib_lr_set V.tlr rfl trivial hl) (ib_vkT V.tvk)))
    · cases h
  · simp only [ib_at, ib_stoA] at h
    split at h
    · rename_i y r
      split at h <;> cases h
      have hy := V.tvk _ List.mem_cons_self
      show W p l e R s m args below meth c H locs cells slots Q (F0 m pc la (va_rf (ib_op ad y) :: r.map (ib_mv ad)))
      by_cases e : y = 0
      · have e2 : ib_mv ad (.ref y) = .null := by simp [ib_mv, ib_op, e, va_rf]
        rw [show va_rf (ib_op ad y) = .null from e2]
        exact lv_astore_nN F.1 F.2.1 hd rfl hh (by omega) rfl (fun la' hl => K ad H locs cells slots la' (V.tls (ib_lr_set V.tlr rfl hy (by rw [e2]; exact hl)) (ib_vkT V.tvk)))
      · have e2 : ib_mv ad (.ref y) = .ref (ad y) := by simp [ib_mv, ib_op, e, va_rf]
        rw [show va_rf (ib_op ad y) = .ref (ad y) from e2]
        exact lv_astore_n F.1 F.2.1 hd rfl hh (by omega) rfl (fun la' hl => K ad H locs cells slots la' (V.tls (ib_lr_set V.tlr rfl hy (by rw [e2]; exact hl)) (ib_vkT V.tvk)))
    · cases h
  · simp only [ib_at, ib_sto] at h
    split at h
    · split at h <;> cases h
      exact lv_istore F.1 F.2.1 hd hh (by omega) rfl (fun la' hl => K ad H locs cells slots la' (V.tls (ib_lr_set V.tlr rfl trivial hl) (ib_vkT V.tvk)))
    · cases h
  · simp only [ib_at, ib_stoA] at h
    split at h
    · rename_i y r
      split at h <;> cases h
      have hy := V.tvk _ List.mem_cons_self
      show W p l e R s m args below meth c H locs cells slots Q (F0 m pc la (va_rf (ib_op ad y) :: r.map (ib_mv ad)))
      by_cases e : y = 0
      · have e2 : ib_mv ad (.ref y) = .null := by simp [ib_mv, ib_op, e, va_rf]
        rw [show va_rf (ib_op ad y) = .null from e2]
        exact lv_astoreN F.1 F.2.1 hd hh (by omega) rfl (fun la' hl => K ad H locs cells slots la' (V.tls (ib_lr_set V.tlr rfl hy (by rw [e2]; exact hl)) (ib_vkT V.tvk)))
      · have e2 : ib_mv ad (.ref y) = .ref (ad y) := by simp [ib_mv, ib_op, e, va_rf]
        rw [show va_rf (ib_op ad y) = .ref (ad y) from e2]
        exact lv_astore F.1 F.2.1 hd hh (by omega) rfl (fun la' hl => K ad H locs cells slots la' (V.tls (ib_lr_set V.tlr rfl hy (by rw [e2]; exact hl)) (ib_vkT V.tvk)))
    · cases h
theorem ib_s_iinc {a1 a2 a3 a4 : Nat} {x : Nat × ib_Ls × List Value × ib_H} {k : Nat} {n : Int} (F : ib_F p s m args meth c M D dA base b L xs) (hd : decode M.2.1 pc = .ok (.iinc k n, 3)) (h : ib_at ib_ks ib_fn (.iinc k n, a1, a2, a3, a4) pc ls st σ = some (.inl x)) (V : ib_V D dA base L b xs σ0 ad0 s.heap nL σ ad ls st H locs cells slots la) (K : ib_KK p l e R s m args below meth c Q D dA base L b xs σ0 ad0 nL x) : W p l e R s m args below meth c H locs cells slots Q (F0 m pc la (st.map (ib_mv ad))) := by
  simp only [ib_at] at h
  split at h <;> cases h
  rename_i y hv
  have hh := ib_lr_has V.tlr
  have hk : k < nL := by rw [← V.tlr.1]; exact (List.getElem?_eq_some_iff.mp hv).1
  obtain ⟨j, hj⟩ := List.getElem?_of_mem (ib_lvl_in (ad := ad) hv)
  exact lv_iinc F.1 F.2.1 hd hh hj rfl hk rfl (fun la' hl => K ad H locs cells slots la' (V.tls (ib_lr_set V.tlr rfl trivial hl) V.tvk))
theorem ib_s_iconst {a1 a2 a3 a4 : Nat} {x : Nat × ib_Ls × List Value × ib_H} {n : Int} (F : ib_F p s m args meth c M D dA base b L xs) (hd : decode M.2.1 pc = .ok (.iconst n, 1)) (h : ib_at ib_ks ib_fn (.iconst n, a1, a2, a3, a4) pc ls st σ = some (.inl x)) (V : ib_V D dA base L b xs σ0 ad0 s.heap nL σ ad ls st H locs cells slots la) (K : ib_KK p l e R s m args below meth c Q D dA base L b xs σ0 ad0 nL x) : W p l e R s m args below meth c H locs cells slots Q (F0 m pc la (st.map (ib_mv ad))) := by
  simp only [ib_at] at h
  cases h
  exact lv_iconst F.1 F.2.1 hd rfl (K ad H locs cells slots la (V.tst (ib_vkC trivial V.tvk)))
theorem ib_s_bipush {a1 a2 a3 a4 : Nat} {x : Nat × ib_Ls × List Value × ib_H} {n : Int} (F : ib_F p s m args meth c M D dA base b L xs) (hd : decode M.2.1 pc = .ok (.bipush n, 2)) (h : ib_at ib_ks ib_fn (.bipush n, a1, a2, a3, a4) pc ls st σ = some (.inl x)) (V : ib_V D dA base L b xs σ0 ad0 s.heap nL σ ad ls st H locs cells slots la) (K : ib_KK p l e R s m args below meth c Q D dA base L b xs σ0 ad0 nL x) : W p l e R s m args below meth c H locs cells slots Q (F0 m pc la (st.map (ib_mv ad))) := by
  simp only [ib_at] at h
  cases h
  exact lv_bipush F.1 F.2.1 hd rfl (K ad H locs cells slots la (V.tst (ib_vkC trivial V.tvk)))
theorem ib_s_sipush {a1 a2 a3 a4 : Nat} {x : Nat × ib_Ls × List Value × ib_H} {n : Int} (F : ib_F p s m args meth c M D dA base b L xs) (hd : decode M.2.1 pc = .ok (.sipush n, 3)) (h : ib_at ib_ks ib_fn (.sipush n, a1, a2, a3, a4) pc ls st σ = some (.inl x)) (V : ib_V D dA base L b xs σ0 ad0 s.heap nL σ ad ls st H locs cells slots la) (K : ib_KK p l e R s m args below meth c Q D dA base L b xs σ0 ad0 nL x) : W p l e R s m args below meth c H locs cells slots Q (F0 m pc la (st.map (ib_mv ad))) := by
  simp only [ib_at] at h
  cases h
  exact lv_sipush F.1 F.2.1 hd rfl (K ad H locs cells slots la (V.tst (ib_vkC trivial V.tvk)))
theorem ib_s_ldc {a1 a2 a3 a4 : Nat} {x : Nat × ib_Ls × List Value × ib_H} {n : Nat} (hw : Cond.constant M.1.cls n (Int32.ofNat a1) ∈ ib_tG) (F : ib_F p s m args meth c M D dA base b L xs) (hd : decode M.2.1 pc = .ok (.ldc n, 2)) (h : ib_at ib_ks ib_fn (.ldc n, a1, a2, a3, a4) pc ls st σ = some (.inl x)) (V : ib_V D dA base L b xs σ0 ad0 s.heap nL σ ad ls st H locs cells slots la) (K : ib_KK p l e R s m args below meth c Q D dA base L b xs σ0 ad0 nL x) : W p l e R s m args below meth c H locs cells slots Q (F0 m pc la (st.map (ib_mv ad))) := by
  simp only [ib_at] at h
  cases h
  exact W.ldc F.1 F.2.1 F.2.2.2.2.1 (F.2.2.2.1 _ hw) rfl hd (K ad H locs cells slots la (V.tst (ib_vkC trivial V.tvk)))
theorem ib_s_null {a1 a2 a3 a4 : Nat} {x : Nat × ib_Ls × List Value × ib_H} (F : ib_F p s m args meth c M D dA base b L xs) (hd : decode M.2.1 pc = .ok (.aconst_null, 1)) (h : ib_at ib_ks ib_fn (.aconst_null, a1, a2, a3, a4) pc ls st σ = some (.inl x)) (V : ib_V D dA base L b xs σ0 ad0 s.heap nL σ ad ls st H locs cells slots la) (K : ib_KK p l e R s m args below meth c Q D dA base L b xs σ0 ad0 nL x) : W p l e R s m args below meth c H locs cells slots Q (F0 m pc la (st.map (ib_mv ad))) := by
  simp only [ib_at] at h
  cases h
  have h0 : 0 < ib_nx σ := by have := V.2.2.2.2.1.1; omega
  exact lv_null F.1 F.2.1 hd (K ad H locs cells slots la (V.tst (ib_vkC h0 V.tvk)))
theorem ib_s_dup {a1 a2 a3 a4 : Nat} {x : Nat × ib_Ls × List Value × ib_H} (F : ib_F p s m args meth c M D dA base b L xs) (hd : decode M.2.1 pc = .ok (.dup, 1)) (h : ib_at ib_ks ib_fn (.dup, a1, a2, a3, a4) pc ls st σ = some (.inl x)) (V : ib_V D dA base L b xs σ0 ad0 s.heap nL σ ad ls st H locs cells slots la) (K : ib_KK p l e R s m args below meth c Q D dA base L b xs σ0 ad0 nL x) : W p l e R s m args below meth c H locs cells slots Q (F0 m pc la (st.map (ib_mv ad))) := by
  have hv := V.tvk
  simp only [ib_at] at h
  split at h <;> cases h
  · exact lv_dup F.1 F.2.1 hd rfl (K ad H locs cells slots la (V.tst (ib_vkC trivial hv)))
  · exact lv_dup F.1 F.2.1 hd (by rw [ib_mv_cat]; rfl) (K ad H locs cells slots la (V.tst (ib_vkC (hv _ List.mem_cons_self) hv)))
theorem ib_s_dup2 {a1 a2 a3 a4 : Nat} {x : Nat × ib_Ls × List Value × ib_H} (F : ib_F p s m args meth c M D dA base b L xs) (hd : decode M.2.1 pc = .ok (.dup2, 1)) (h : ib_at ib_ks ib_fn (.dup2, a1, a2, a3, a4) pc ls st σ = some (.inl x)) (V : ib_V D dA base L b xs σ0 ad0 s.heap nL σ ad ls st H locs cells slots la) (K : ib_KK p l e R s m args below meth c Q D dA base L b xs σ0 ad0 nL x) : W p l e R s m args below meth c H locs cells slots Q (F0 m pc la (st.map (ib_mv ad))) := by
  have hv := V.tvk
  simp only [ib_at] at h
  split at h <;> cases h
  exact lv_dup2_11 F.1 F.2.1 hd rfl (by rw [ib_mv_cat]; rfl) (K ad H locs cells slots la (V.tst (ib_vkC trivial (ib_vkC (hv _ (List.mem_cons_of_mem _ List.mem_cons_self)) hv))))
theorem ib_s_pop {a1 a2 a3 a4 : Nat} {x : Nat × ib_Ls × List Value × ib_H} (F : ib_F p s m args meth c M D dA base b L xs) (hd : decode M.2.1 pc = .ok (.pop, 1)) (h : ib_at ib_ks ib_fn (.pop, a1, a2, a3, a4) pc ls st σ = some (.inl x)) (V : ib_V D dA base L b xs σ0 ad0 s.heap nL σ ad ls st H locs cells slots la) (K : ib_KK p l e R s m args below meth c Q D dA base L b xs σ0 ad0 nL x) : W p l e R s m args below meth c H locs cells slots Q (F0 m pc la (st.map (ib_mv ad))) := by
  have hv := V.tvk
  simp only [ib_at] at h
  split at h <;> cases h
  · exact lv_pop F.1 F.2.1 hd rfl (K ad H locs cells slots la (V.tst (ib_vkT hv)))
  · exact lv_pop F.1 F.2.1 hd (by rw [ib_mv_cat]; rfl) (K ad H locs cells slots la (V.tst (ib_vkT hv)))
theorem ib_s_goto {a1 a2 a3 a4 : Nat} {x : Nat × ib_Ls × List Value × ib_H} {o : Int} (ht : (pc : Int) + o = (a1 : Int)) (F : ib_F p s m args meth c M D dA base b L xs) (hd : decode M.2.1 pc = .ok (.goto o, 3)) (h : ib_at ib_ks ib_fn (.goto o, a1, a2, a3, a4) pc ls st σ = some (.inl x)) (V : ib_V D dA base L b xs σ0 ad0 s.heap nL σ ad ls st H locs cells slots la) (K : ib_KK p l e R s m args below meth c Q D dA base L b xs σ0 ad0 nL x) : W p l e R s m args below meth c H locs cells slots Q (F0 m pc la (st.map (ib_mv ad))) := by
  simp only [ib_at] at h
  cases h
  exact lv_goto F.1 F.2.1 hd ht (K ad H locs cells slots la V)
theorem ib_s_if {a1 a2 a3 a4 : Nat} {x : Nat × ib_Ls × List Value × ib_H} {cd : ClassFile.Cond} {o : Int} (ht : (pc : Int) + o = (a1 : Int)) (F : ib_F p s m args meth c M D dA base b L xs) (hd : decode M.2.1 pc = .ok (.ifCond cd o, 3)) (h : ib_at ib_ks ib_fn (.ifCond cd o, a1, a2, a3, a4) pc ls st σ = some (.inl x)) (V : ib_V D dA base L b xs σ0 ad0 s.heap nL σ ad ls st H locs cells slots la) (K : ib_KK p l e R s m args below meth c Q D dA base L b xs σ0 ad0 nL x) : W p l e R s m args below meth c H locs cells slots Q (F0 m pc la (st.map (ib_mv ad))) := by
  have hv := V.tvk
  simp only [ib_at] at h
  split at h
  · rename_i y r
    cases cd <;> simp only [ib_cnd, decide_eq_true_eq] at h
    · refine lv_if_eq F.1 F.2.1 hd ht (fun z => ?_) (fun z => ?_)
      · rw [if_pos z] at h; cases h
        exact K ad H locs cells slots la (V.tst (ib_vkT hv))
      · first | rw [if_neg z] at h | rw [if_neg (not_not_intro z)] at h
        cases h
        exact K ad H locs cells slots la (V.tst (ib_vkT hv))
    · refine lv_if_ne F.1 F.2.1 hd ht (fun z => ?_) (fun z => ?_)
      · rw [if_pos z] at h; cases h
        exact K ad H locs cells slots la (V.tst (ib_vkT hv))
      · first | rw [if_neg z] at h | rw [if_neg (not_not_intro z)] at h
        cases h
        exact K ad H locs cells slots la (V.tst (ib_vkT hv))
    · refine lv_if_lt F.1 F.2.1 hd ht (fun z => ?_) (fun z => ?_)
      · rw [if_pos z] at h; cases h
        exact K ad H locs cells slots la (V.tst (ib_vkT hv))
      · first | rw [if_neg z] at h | rw [if_neg (not_not_intro z)] at h
        cases h
        exact K ad H locs cells slots la (V.tst (ib_vkT hv))
    · refine lv_if_ge F.1 F.2.1 hd ht (fun z => ?_) (fun z => ?_)
      · rw [if_pos z] at h; cases h
        exact K ad H locs cells slots la (V.tst (ib_vkT hv))
      · first | rw [if_neg z] at h | rw [if_neg (not_not_intro z)] at h
        cases h
        exact K ad H locs cells slots la (V.tst (ib_vkT hv))
    · refine lv_if_gt F.1 F.2.1 hd ht (fun z => ?_) (fun z => ?_)
      · rw [if_pos z] at h; cases h
        exact K ad H locs cells slots la (V.tst (ib_vkT hv))
      · first | rw [if_neg z] at h | rw [if_neg (not_not_intro z)] at h
        cases h
        exact K ad H locs cells slots la (V.tst (ib_vkT hv))
    · refine lv_if_le F.1 F.2.1 hd ht (fun z => ?_) (fun z => ?_)
      · rw [if_pos z] at h; cases h
        exact K ad H locs cells slots la (V.tst (ib_vkT hv))
      · first | rw [if_neg z] at h | rw [if_neg (not_not_intro z)] at h
        cases h
        exact K ad H locs cells slots la (V.tst (ib_vkT hv))
  · cases h
theorem ib_s_icmp {a1 a2 a3 a4 : Nat} {x : Nat × ib_Ls × List Value × ib_H} {cd : ClassFile.Cond} {o : Int} (ht : (pc : Int) + o = (a1 : Int)) (F : ib_F p s m args meth c M D dA base b L xs) (hd : decode M.2.1 pc = .ok (.if_icmp cd o, 3)) (h : ib_at ib_ks ib_fn (.if_icmp cd o, a1, a2, a3, a4) pc ls st σ = some (.inl x)) (V : ib_V D dA base L b xs σ0 ad0 s.heap nL σ ad ls st H locs cells slots la) (K : ib_KK p l e R s m args below meth c Q D dA base L b xs σ0 ad0 nL x) : W p l e R s m args below meth c H locs cells slots Q (F0 m pc la (st.map (ib_mv ad))) := by
  have hv := V.tvk
  simp only [ib_at] at h
  split at h
  · rename_i y x9 r
    cases cd <;> simp only [ib_cnd, decide_eq_true_eq] at h
    · refine lv_icmp_eq F.1 F.2.1 hd ht (fun z => ?_) (fun z => ?_)
      · rw [if_pos z] at h; cases h
        exact K ad H locs cells slots la (V.tst (ib_vkT (ib_vkT hv)))
      · first | rw [if_neg z] at h | rw [if_neg (not_not_intro z)] at h
        cases h
        exact K ad H locs cells slots la (V.tst (ib_vkT (ib_vkT hv)))
    · refine lv_icmp_ne F.1 F.2.1 hd ht (fun z => ?_) (fun z => ?_)
      · rw [if_pos z] at h; cases h
        exact K ad H locs cells slots la (V.tst (ib_vkT (ib_vkT hv)))
      · first | rw [if_neg z] at h | rw [if_neg (not_not_intro z)] at h
        cases h
        exact K ad H locs cells slots la (V.tst (ib_vkT (ib_vkT hv)))
    · refine lv_icmp_lt F.1 F.2.1 hd ht (fun z => ?_) (fun z => ?_)
      · rw [if_pos z] at h; cases h
        exact K ad H locs cells slots la (V.tst (ib_vkT (ib_vkT hv)))
      · first | rw [if_neg z] at h | rw [if_neg (not_not_intro z)] at h
        cases h
        exact K ad H locs cells slots la (V.tst (ib_vkT (ib_vkT hv)))
    · refine lv_icmp_ge F.1 F.2.1 hd ht (fun z => ?_) (fun z => ?_)
      · rw [if_pos z] at h; cases h
        exact K ad H locs cells slots la (V.tst (ib_vkT (ib_vkT hv)))
      · first | rw [if_neg z] at h | rw [if_neg (not_not_intro z)] at h
        cases h
        exact K ad H locs cells slots la (V.tst (ib_vkT (ib_vkT hv)))
    · refine lv_icmp_gt F.1 F.2.1 hd ht (fun z => ?_) (fun z => ?_)
      · rw [if_pos z] at h; cases h
        exact K ad H locs cells slots la (V.tst (ib_vkT (ib_vkT hv)))
      · first | rw [if_neg z] at h | rw [if_neg (not_not_intro z)] at h
        cases h
        exact K ad H locs cells slots la (V.tst (ib_vkT (ib_vkT hv)))
    · refine lv_icmp_le F.1 F.2.1 hd ht (fun z => ?_) (fun z => ?_)
      · rw [if_pos z] at h; cases h
        exact K ad H locs cells slots la (V.tst (ib_vkT (ib_vkT hv)))
      · first | rw [if_neg z] at h | rw [if_neg (not_not_intro z)] at h
        cases h
        exact K ad H locs cells slots la (V.tst (ib_vkT (ib_vkT hv)))
  · cases h
theorem ib_s_ifnull {a1 a2 a3 a4 : Nat} {x : Nat × ib_Ls × List Value × ib_H} {o : Int} (ht : (pc : Int) + o = (a1 : Int)) (F : ib_F p s m args meth c M D dA base b L xs) (hd : decode M.2.1 pc = .ok (.ifnull o, 3)) (h : ib_at ib_ks ib_fn (.ifnull o, a1, a2, a3, a4) pc ls st σ = some (.inl x)) (V : ib_V D dA base L b xs σ0 ad0 s.heap nL σ ad ls st H locs cells slots la) (K : ib_KK p l e R s m args below meth c Q D dA base L b xs σ0 ad0 nL x) : W p l e R s m args below meth c H locs cells slots Q (F0 m pc la (st.map (ib_mv ad))) := by
  have hv := V.tvk
  simp only [ib_at] at h
  split at h
  · rename_i y r
    by_cases e : y = 0
    · rw [if_pos e] at h
      cases h
      rw [List.map_cons, show ib_mv ad (.ref y) = .null by simp [ib_mv, ib_op, e, va_rf]]
      exact lv_ifnullN F.1 F.2.1 hd ht (K ad H locs cells slots la (V.tst (ib_vkT hv)))
    · rw [if_neg e] at h
      cases h
      rw [List.map_cons, show ib_mv ad (.ref y) = .ref (ad y) by simp [ib_mv, ib_op, e, va_rf]]
      exact lv_ifnull F.1 F.2.1 hd (K ad H locs cells slots la (V.tst (ib_vkT hv)))
  · cases h
theorem ib_s_ifnonnull {a1 a2 a3 a4 : Nat} {x : Nat × ib_Ls × List Value × ib_H} {o : Int} (ht : (pc : Int) + o = (a1 : Int)) (F : ib_F p s m args meth c M D dA base b L xs) (hd : decode M.2.1 pc = .ok (.ifnonnull o, 3)) (h : ib_at ib_ks ib_fn (.ifnonnull o, a1, a2, a3, a4) pc ls st σ = some (.inl x)) (V : ib_V D dA base L b xs σ0 ad0 s.heap nL σ ad ls st H locs cells slots la) (K : ib_KK p l e R s m args below meth c Q D dA base L b xs σ0 ad0 nL x) : W p l e R s m args below meth c H locs cells slots Q (F0 m pc la (st.map (ib_mv ad))) := by
  have hv := V.tvk
  simp only [ib_at] at h
  split at h
  · rename_i y r
    by_cases e : y = 0
    · rw [if_pos e] at h
      cases h
      rw [List.map_cons, show ib_mv ad (.ref y) = .null by simp [ib_mv, ib_op, e, va_rf]]
      exact lv_ifnonnullN F.1 F.2.1 hd (K ad H locs cells slots la (V.tst (ib_vkT hv)))
    · rw [if_neg e] at h
      cases h
      rw [List.map_cons, show ib_mv ad (.ref y) = .ref (ad y) by simp [ib_mv, ib_op, e, va_rf]]
      exact lv_ifnonnull F.1 F.2.1 hd ht (K ad H locs cells slots la (V.tst (ib_vkT hv)))
  · cases h
theorem ib_s_switch {a1 a2 a3 a4 : Nat} {x : Nat × ib_Ls × List Value × ib_H} {d9 lo hi : Int} {offs : Array Int} {n9 : Nat} (F : ib_F p s m args meth c M D dA base b L xs) (hd : decode M.2.1 pc = .ok (.tableswitch d9 lo hi offs, n9)) (h : ib_at ib_ks ib_fn (.tableswitch d9 lo hi offs, a1, a2, a3, a4) pc ls st σ = some (.inl x)) (V : ib_V D dA base L b xs σ0 ad0 s.heap nL σ ad ls st H locs cells slots la) (K : ib_KK p l e R s m args below meth c Q D dA base L b xs σ0 ad0 nL x) : W p l e R s m args below meth c H locs cells slots Q (F0 m pc la (st.map (ib_mv ad))) := by
  have hv := V.tvk
  simp only [ib_at] at h
  split at h
  · split at h
    · rename_i hc
      split at h <;> cases h
      rename_i hz
      exact lv_tableOut F.1 F.2.1 hd hc (by show _ = (((pc : Int) + d9).toNat : Int); omega) (K ad H locs cells slots la (V.tst (ib_vkT hv)))
    · rename_i hc
      split at h
      · rename_i o ho
        split at h <;> cases h
        rename_i hz
        exact lv_tableIn F.1 F.2.1 hd (fun z => hc (Or.inl z)) (fun z => hc (Or.inr z)) ho (by show _ = (((pc : Int) + o).toNat : Int); omega) (K ad H locs cells slots la (V.tst (ib_vkT hv)))
      · cases h
  · cases h
end IbS
