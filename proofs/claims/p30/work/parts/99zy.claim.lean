/-! THE CLAIM OUT OF ONE WALK OF THE LAW'S BODY. Your part is whole_start (and what it stands on); all else here is the same for every law, but numbers. -/
def R_law : String := "PageLoomLaw"
def lw_P (b : Addr) (xs : List Int32) (args : Array Value) (s : State) : Prop := args = #[.ref b] ∧ s.IntsAt b xs ∧ xs.length ≤ 260 ∧ (Jvm.Cond.and given_1 narrow_1).before args s = true
def lw_Q (_ : Array Value) (s : State) (o : Outcome) (t : State) : Prop := o = .returned (some (.int 1)) ∧ Framed s o t [] 600130 7301080
def lw_Z (below : List Frame) (a : Array Value) (s : State) : State → Prop := fun t => ∃ o, t.status = .running ∧ Ended t below o ∧ lw_Q a s o t
/-- the law's own end, with 1 on the stack, nothing written that was there before, its room as the claim has it -/
theorem lw_ret {p : Program} {l : Launch} {e : Env} {s : State} {m : MethodId} {below : List Frame} {meth : Method} {c : Code} {b : Nat} (hx : p.tables.exec = Jvm.exec) (hb : c.code = code) (hr : meth.sig.returnType = ret) (hlocks : meth.locks = false) {pc : Nat} {H : Heap} {ls : Array Slot} (hdg : decode code pc = .ok (.ireturn, 1)) : W p l e room_1 s m #[Value.ref b] below meth c H [] 600130 7301080 (lw_Z below #[Value.ref b] s) (F0 m pc ls [.int 1]) := by
  intro T hT X
  obtain ⟨fs, hret, hrun, hended, hW, hframe⟩ := X.leave (v := some (.int 1)) (hlocks := hlocks) (fun h => by rw [hr] at h; cases h)
  have hmeth' : T.vm.method? m = some meth := X.method'
  refine ⟨T.setFrames fs, ?_, .returned (some (.int 1)), hrun, hended, rfl, ⟨_, rfl⟩, hW, hframe⟩
  jvm_step X.here [X.here.top, hx, hb, hdg, hmeth', hr, ret, narrow_b1]
  (try refine ⟨rfl, ?_⟩); (try refine ⟨rfl, ?_⟩)
  first | (intro acts; rw [hret _ acts rfl rfl rfl]) | rw [hret _ _ rfl rfl rfl]
  exact Steps.refl _
/-- what holds at the law's entry: the machine, the code, the tables' words (any of lw_tbl by 'hts w (by decide +kernel)'), the script of L ints xs at the cell b, what the Statement gives of the start (any of its parts by flat_of_before) -/
def lw_At (p : Program) (s : State) (m : MethodId) (meth : Method) (c : Code) (b L : Nat) (xs : Nat → Int32) : Prop :=
  p.tables.exec = Jvm.exec ∧ c.code = code ∧ meth.sig.returnType = ret ∧ c.maxLocals = 16 ∧ s.vm.findClass R_law = some m.cls ∧ (∀ w ∈ lw_tbl, w.before #[Value.ref b] s = true) ∧ va_X b L xs s s.heap ∧ b < s.heap.size ∧ meth.locks = false ∧ (Jvm.Cond.and given_1 narrow_1).before #[Value.ref b] s = true ∧ c.exceptionTable.toList = [] ∧ meth.name = "law"
-- ===== YOUR PART BEGINS =====
def ib_init (L : Nat) (xs : Nat → Int32) : ib_H := ((2, 0, 0), (fun n => if n = 1 then (99, L) else (0, 0)), (fun n k => if n = 1 then xs k else 0), (fun _ _ => 0), (fun _ _ => 0))
theorem ib_arr {args : Array Value} {s : State} {ty : FieldType} (h : (Cond.arrayClass ty).before args s = true) (h0 : (∃ C, ty = .object C) → False) : ∃ cA, s.vm.findClass ("[" ++ ty.toString) = some cA ∧ ArrOfT s cA ty := by
  obtain ⟨cA, kA, comp, h1, h2, h3⟩ := Cond.arrayClass_spec h
  exact ⟨cA, h1, fun n z => ⟨fun k h => (by cases h), kA, h2, comp, h3⟩⟩
theorem ib_arrO {args : Array Value} {s : State} {C : String} (h : (Cond.arrayOver (.object C)).before args s = true) : ∃ cA, ArrOfT s cA (.object C) ∧ va_RA s cA (.object C) := by
  obtain ⟨comp, cA, kA, h1, h2, h3, h4, h5⟩ := Cond.arrayOver_spec h
  exact ⟨cA, fun n z => ⟨fun k h => (by cases h), kA, h3, comp, h4⟩, kA, comp, h3, h4, h1, h5⟩
set_option maxRecDepth 100000 in
theorem ib_lawM : ib_Ms 154 = some (yL_law, cL_law, maxLocals, ret, [], ib_c154) := rfl
theorem ib_start_words : Cond.arrayClass .int ∈ tables_1 ∧ Cond.arrayClass .boolean ∈ tables_1 ∧ Cond.arrayOver (.object "PageLoom$Page") ∈ tables_1 ∧ Cond.arrayOver (.object "PageLoom$LogRecord") ∈ tables_1 ∧ Cond.initialized Bundle.tN ∈ tables_1 ∧ Cond.laysStatic Bundle.tN "UNASSIGNED_STACK" Bundle.steD ∈ tables_1 ∧ Cond.laysStatic Bundle.tN "SUPPRESSED_SENTINEL" Bundle.listD ∈ tables_1 := by decide +kernel
theorem ib_start_flat : Cond.isRef (.static Bundle.tN "UNASSIGNED_STACK" Bundle.steD) ∈ flatC (Jvm.Cond.and given_1 narrow_1) ∧ Cond.isRef (.static Bundle.tN "SUPPRESSED_SENTINEL" Bundle.listD) ∈ flatC (Jvm.Cond.and given_1 narrow_1) := by decide +kernel
/-- YOUR PART: from the entry, for every script of at most 260 ints, the law comes to its end with true -/
theorem whole_start {p : Program} {e : Env} {s : State} {m : MethodId} {below : List Frame} {meth : Method} {c : Code} (l : Launch) (hflags : l.flags = flags0) {b L : Nat} {xs : Nat → Int32} (hL : L ≤ 260) (C0 : lw_At p s m meth c b L xs) : W p l e room_1 s m #[Value.ref b] below meth c s.heap [] 0 0 (lw_Z below #[Value.ref b] s) (entryFrame m ([Value.ref b] : List Value).toArray 16) := by
  obtain ⟨hx, hb, hr, hml, hown, hts, hX, hbl, hlocks, hgv, htab, hname⟩ := id C0
  have hl : l.stackTraces = false := by
    unfold Launch.stackTraces
    rw [hflags]
    decide
  have ht1 : ∀ w ∈ tables_1, w.before #[Value.ref b] s = true := fun w hw => hts w (List.mem_append_right _ hw)
  have hfl := flat_of_before _ hgv
  obtain ⟨w1, w2, w4, w5, w6, w7, w8⟩ := ib_start_words
  obtain ⟨cI, fI, aI⟩ := ib_arr (ht1 _ w1) (fun h => by obtain ⟨C, h⟩ := h; cases h)
  obtain ⟨cB, fB, aB⟩ := ib_arr (ht1 _ w2) (fun h => by obtain ⟨C, h⟩ := h; cases h)
  obtain ⟨cP, aP, rP⟩ := ib_arrO (ht1 _ w4)
  obtain ⟨cR, aR, rR⟩ := ib_arrO (ht1 _ w5)
  obtain ⟨dA, hdA⟩ : ∃ dA : Nat → ClassId, dA 100 = cI ∧ dA 101 = cB ∧ dA 102 = cI ∧ dA 103 = cP ∧ dA 104 = cR := ⟨fun t => if t = 100 then cI else if t = 101 then cB else if t = 102 then cI else if t = 103 then cP else cR, rfl, rfl, rfl, rfl, rfl⟩
  obtain ⟨d0, d1, d2, d3, d4⟩ := hdA
  have hkn : ∀ k : Nat, ∃ (cC : ClassId) (iS : Nat → Nat), ∀ q, vwCl[k]? = some q → u_Kn s q.1 q.2.1 q.2.2 cC iS := fun k => by
    cases hq : vwCl[k]? with
    | none => exact ⟨cI, fun _ => 0, fun q h => by cases h⟩
    | some q =>
      obtain ⟨C, T, N⟩ := q
      obtain ⟨-, -, hin, -, -, h6, -⟩ := ib_clsF hq
      have htG : ∀ w ∈ ib_tG, w.before #[Value.ref b] s = true := fun w hw => hts w (List.mem_filter.mp hw).1
      obtain ⟨cC, iS, hK⟩ := u_known (C := C) (T := T) (N := N) (n := N) htG hin (htG _ h6)
      exact ⟨cC, iS, fun q h => by cases h; exact hK⟩
  let dC : Nat → ClassId := fun k => (hkn k).choose
  let dI : Nat → Nat → Nat := fun k => (hkn k).choose_spec.choose
  have hKc : ∀ (k : Nat) (q : vw_C), vwCl[k]? = some q → u_Kn s q.1 q.2.1 q.2.2 (dC k) (dI k) := fun k q hq => (hkn k).choose_spec.choose_spec q hq
  have hK : va_K (dC, dI) vwCl (ib_tys dA) s := by
    refine ⟨hKc, fun k q h => ?_⟩
    unfold ib_tys at h
    rw [d0, d1, d2, d3, d4] at h
    match k, h with
    | 0, h => cases h; exact ⟨aI, fI⟩
    | 1, h => cases h; exact ⟨aB, fB⟩
    | 2, h => cases h; exact ⟨aI, fI⟩
    | 3, h => cases h; exact ⟨aP, rP⟩
    | 4, h => cases h; exact ⟨aR, rR⟩
    | k + 5, h => simp at h
  obtain ⟨g1, g2⟩ := ib_start_flat
  have hbase : ∀ a : Nat, a < s.heap.size → ¬ s.heap.size ≤ a := fun a h => Nat.not_le.mpr h
  have hEn : ib_En s := by
    refine ⟨fun w hw => ?_, fun own k tx hm => ?_, va_AO.of (ht1 _ w4), va_AO.of (ht1 _ w5)⟩
    · obtain ⟨h1, h2⟩ := List.mem_filter.mp hw
      have h3 := ht1 w h1
      unfold va_Nw
      cases w <;> first | exact va_tabs rfl rfl h3 | (simp [ib_isX] at h2)
    · have h3 := ht1 _ hm
      have h4 : (Cond.stringRef own k tx).before #[] s = true := by
        simp only [Cond.before, Cond.holds, Cond.value] at h3 ⊢
        exact h3
      have h5 : ∃ cur, s.vm.findClass own = some cur := by
        cases hf : s.vm.findClass own with
        | none => simp [Cond.before, Cond.holds, Cond.value, hf] at h4
        | some cur => exact ⟨cur, rfl⟩
      obtain ⟨cur, hcur⟩ := h5
      obtain ⟨_, _, _, a, _, _, _, _, _, he⟩ := Cond.stringRef_spec hcur h4
      exact ⟨a, h4, he⟩
  have hXX : ib_X (dC, dI) dA s.heap.size b L xs s := ⟨hK, hX, hbl, Nat.le_refl _, vx_Zqof (ht1 _ w7) (ht1 _ w6) (hfl _ g1) hbase, vx_Zqof (ht1 _ w8) (ht1 _ w6) (hfl _ g2) hbase, hEn⟩
  have htG : ∀ w ∈ ib_tG, w.before #[Value.ref b] s = true := fun w hw => hts w (List.mem_filter.mp hw).1
  have F : ib_F p s m #[Value.ref b] meth c (yL_law, cL_law, maxLocals, ret, [], ib_c154) (dC, dI) dA s.heap.size b L xs := ⟨hx, hb, hml, htG, hown, hr, hlocks, htab, hname, hXX⟩
  obtain ⟨n, σf, hrun, hc, hs⟩ := ib_law_run (xs := xs) hL
  have hla := lv_entry [Value.ref b] (n := 16) (Nat.le_of_ble_eq_true rfl)
  rw [lg_entry_eq]
  generalize (lg_sl [Value.ref b] ++ List.replicate (16 - (lg_sl [Value.ref b]).length) Slot.unset).toArray = la at hla ⊢
  have V : ib_V (dC, dI) dA s.heap.size L b xs (ib_init L xs) (fun _ => b) s.heap 16 (ib_init L xs) (fun _ => b) (ib_ent 16 [.ref 1]) [] s.heap [] 0 0 la := by
    refine ⟨fun k q h => by simp [ib_w, ib_nx, ib_init] at h, ⟨fun i j p q h => by simp [ib_w, ib_nx, ib_init] at h, fun k q h => by simp [ib_w, ib_nx, ib_init] at h⟩, va_S.rf, ⟨rfl, rfl⟩, ⟨Nat.le_refl _, fun _ _ => Nat.zero_lt_succ _, rfl, fun _ _ => rfl⟩, ⟨fun _ _ => rfl, Nat.le_refl _, rfl⟩, ib_lr_ent (ad := fun _ => b) rfl (by decide) (fun v hv => ?_) hla, fun v hv => by cases hv⟩
    rcases List.mem_singleton.mp hv with rfl
    exact Nat.lt_succ_self 1
  have h9 := ib_master hl n 11 154 _ 0 _ [] _ _ ib_lawM hrun (below := below) (e := e) (R := room_1) F rfl (by decide) (σ0 := ib_init L xs) (Nat.le_trans hc (Nat.le_refl _)) (Nat.le_trans hs (Nat.le_refl _)) V
  intro T hT X
  obtain ⟨t, a1, o, b1, b2, b3⟩ := h9 T hT X
  refine ⟨t, a1, o, b1, b2, ?_⟩
  rcases b3 with ⟨⟨v, ad, e1, e2, -, -⟩, Lc, hF, hLc⟩ | ⟨q, e1, E, ce, Lc, ⟨k, ad, e2, -⟩, -⟩
  · have e3 : v = some (.int 1) := (Sum.inl.inj e1).symm
    subst e3
    refine ⟨e2, hF.1, hF.2.1, ?_⟩
    obtain ⟨f1, f2, f3, f4, f5, f6⟩ := hF.2.2
    refine ⟨f1, f2, f3, f4, f5, fun a cell ha => ?_⟩
    obtain ⟨c', x1, x2, x3, x4⟩ := f6 a cell ha
    refine ⟨c', x1, x2, x3, fun i _ => x4 i fun hm => ?_⟩
    have h10 := hLc _ hm
    exact hbase a (Array.getElem?_eq_some_iff.mp ha).1 h10
  · cases e2
-- ===== YOUR PART ENDS =====
set_option maxHeartbeats 4000000 in
theorem lw_walk (l : Launch) (hflags : l.flags = flags0) (b : Addr) (xs : List Int32) : MetFree l x (headSpec (Jvm.Cond.code x code maxLocals ret :: tables_1) room_1) (lw_P b xs) (fun _ _ _ _ _ => True) lw_Q := by
  refine MetFree.of_bodyS (code := code) (maxLocals := maxLocals) (ret := ret) (by decide) ?_ ?_
  · intro args s m h hn
    obtain ⟨meth, c, h1, h2, h3, h4, h5, h6, -, -⟩ := Cond.code_spec hn (atoms_spec (ws := Jvm.Cond.code x code maxLocals ret :: tables_1) h _ List.mem_cons_self)
    exact ⟨meth, c, h1, h2, h3, h4, h5, h6⟩
  · intro p e s m args below meth c s₁ B hml0 hP _
    obtain ⟨rfl, hx, hbd, hgv⟩ := hP
    obtain ⟨scr, harrAt, hlist, hof, hsmall⟩ := hx
    obtain ⟨hcb, hkn, -, -⟩ := State.arrayAt?_spec harrAt
    have hown : s.vm.findClass R_law = some m.cls := findClass_of_methodNamed B.named
    have hts0 : ∀ c ∈ (Jvm.Cond.code x code maxLocals ret :: tables_1), c.before #[Value.ref b] s = true := atoms_spec (ws := Jvm.Cond.code x code maxLocals ret :: tables_1) B.pre
    have hts : ∀ w ∈ lw_tbl, w.before #[Value.ref b] s = true := k2_hts_sels lw_privs (fun w hw => hts0 w (List.mem_cons_of_mem _ hw)) lw_privs_ok
    have hml : c.maxLocals = 16 := B.maxLocals_eq (hts0 _ List.mem_cons_self)
    have X₀ : Stand p l e room_1 s m #[Value.ref b] below meth c s₁ [] 0 0 := Stand.of_body B
    have hh0 : s₁.heap = s.heap := by rw [B.state]; rfl
    have htab9 : c.exceptionTable.toList = [] := by
      obtain ⟨meth9, c9, h1, h2, -, -, -, -, h7, -⟩ := Cond.code_spec B.named (hts0 _ List.mem_cons_self)
      cases Option.some.inj (h1.symm.trans B.method)
      cases Option.some.inj (h2.symm.trans X₀.code)
      cases h8 : c.exceptionTable.toList with
      | nil => rfl
      | cons a t =>
        have h9 : c.exceptionTable.size = 0 := by simpa [Array.isEmpty] using h7
        rw [← Array.length_toList, h8] at h9
        cases h9
    have hsz : scr.slots.size = xs.length := by rw [← Array.length_toList, hlist, List.length_map]
    have hval : ∀ j : Nat, j < xs.length → scr.slots[j]? = some (.int (xs.getD j 0)) := fun j hj => by
      rw [← Array.getElem?_toList, hlist]
      simp [hj]
    have hbl : b < s.heap.size := (Array.getElem?_eq_some_iff.mp hcb).1
    have hX : va_X b xs.length (fun j => xs.getD j 0) s s.heap := ⟨scr, hcb, hof, hkn, hsz, hval⟩
    have K : W p l e room_1 s m #[Value.ref b] below meth c s₁.heap [] 0 0 (lw_Z below #[Value.ref b] s) (entryFrame m ([Value.ref b] : List Value).toArray 16) := by
      rw [hh0]
      exact whole_start l hflags hbd ⟨B.exec, B.bytes, B.returns, hml, hown, hts, hX, hbl, B.notSynchronized, hgv, htab9, (name_of_methodNamed B.named B.method).1⟩
    obtain ⟨t, a1, o, b1, b2, b3⟩ := K s₁ rfl X₀
    exact ⟨t, o, a1, b1, b2, b3⟩
theorem lw_pre_spec {args : Array Value} {s : State} (h : (Jvm.Cond.and given_1 narrow_1).before args s = true) (hr : rest_1_c.before args s = true) : ∃ (b : Addr) (xs : List Int32), lw_P b xs args s := by
  have hs := flat_of_before _ h
  have hq := flat_of_before _ hr
  have hc : (Cond.count 1).before args s = true := hs _ (by decide +kernel)
  have harr : (Cond.arrayOf (.arg 0) .int).before args s = true := hs _ (by decide +kernel)
  have hle : (Cond.le (.length (.arg 0)) (.int 260)).before args s = true := hs _ (by decide +kernel)
  have hlen : (Cond.isInt (.length (.arg 0))).before args s = true := hq _ (by decide +kernel)
  have hall : (Cond.all (.arg 0) (.isInt (.elem (.arg 0) (.index 0)))).before args s = true := hq _ (by decide +kernel)
  obtain ⟨b, xs, hb, hx⟩ := State.ints_of_pre rfl harr hlen hall
  have hsm : xs.length < 2 ^ 31 := hx.choose_spec.2.2.2
  have hev : (Term.length (.arg 0)).eval args s none [] s = some (.int xs.length.toInt32) := hx.length_eval hb
  have hv := Cond.le_ints hev (show (Term.int 260).eval args s none [] s = some (.int 260) from rfl)
  have hd : xs.length.toInt32 ≤ 260 := by
    simpa [Cond.before, Cond.holds, hv] using hle
  have hN : xs.length ≤ 260 := (Int32.ofNat_le_ofNat hsm (by decide)).mp (show Int32.ofNat xs.length ≤ Int32.ofNat 260 from hd)
  exact ⟨b, xs, Cond.one_arg hc (show args[0]? = some (.ref b) from hb), hx, hN, h⟩
theorem lw_comes (l : Launch) (hflags : l.flags = flags0) : Comes l x (Jvm.Cond.code x code maxLocals ret :: tables_1) room_1 (fun tb e args s => Calls_1 tb e args s ∧ rest_1 tb e args s ∧ Pre_1 tb e args s)
    (fun _ _ args s o t => lw_Q args s o t) := by
  intro p e ha hc hk s m args below hf hfit hheap happ hpre
  obtain ⟨b, xs, hP⟩ := lw_pre_spec hpre.2.2 hpre.2.1
  obtain ⟨k, o, h1, h2, h3, hQ⟩ := lw_walk l hflags b xs p e ha hc hk s m args below hf ((Spec.applies_iff_loose hf).mp happ).1 hP trivial
  exact ⟨k, o, h1, h2, h3, hQ⟩
theorem lw_frame {s t : State} {o : Outcome} {args : Array Value} (h : Framed s o t [] 600130 7301080) :
    Framed s o t (fieldLocs frame_1_writes args s ++ arrayLocs frame_1_arrays args s ++ staticLocs frame_1_statics s) 600130 7301080 := h
theorem lw_limb (L : Cond) (hL : ∀ (args : Array Value) (s t : State), L.after args s (.returned (some (.int 1))) t = true) :
    ArmFor flags0 classFile x code maxLocals ret World_1 tables_1 room_1 Calls_1 rest_1 Pre_1
      (fun tb e a s o t => postC L tb e a s o t ∧ Framed s o t (fieldLocs frame_1_writes a s ++ arrayLocs frame_1_arrays a s ++ staticLocs frame_1_statics s) 600130 7301080) := by
  intro l hflags _ _ p e ha hc hk s m args below hf hfit hheap happ hpre
  obtain ⟨k, o, h1, h2, h3, rfl, hF⟩ := lw_comes l hflags p e ha hc hk s m args below hf hfit hheap happ hpre
  exact ⟨k, _, h1, h2, h3, hL args s _, lw_frame hF⟩
theorem i_vc : Claimed_1_1 ∧ Claimed_1_2 := ⟨lw_limb limb_1_1 (fun args s t => by simp [limb_1_1, Cond.after, Cond.holds, Cond.value]), lw_limb limb_1_2 (fun args s t => Cond.after_iff.mpr (by
  first | (rw [show limb_1_2 = Cond.eq .result (.int 1) from rfl, Cond.eq_ints (x := 1) (y := 1) rfl rfl]; simp; done) | (simp [limb_1_2, Cond.value, Term.eval]; done)))⟩
