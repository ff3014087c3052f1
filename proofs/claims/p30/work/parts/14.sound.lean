/-! the machine follows the runs -/
theorem ib_sum2 (ad : Nat → Nat) (q : List Value) : ((q.map (ib_mv ad)).map fun v => v.category).sum ≤ 2 * q.length := by
  induction q with
  | nil => exact Nat.le_refl _
  | cons a t ih =>
    simp only [List.map_cons, List.sum_cons, List.length_cons]
    have : (ib_mv ad a).category ≤ 2 := by
      rw [ib_mv_cat]
      cases a <;> exact Nat.le_of_ble_eq_true rfl
    omega
def ib_Pc (D : va_G) (dA : Nat → ClassId) (base b L : Nat) (xs : Nat → Int32) (σ : ib_H) (ad : Nat → Nat) (vs : List Value) : Array Value → State → Prop := fun a U => a = (vs.map (ib_mv ad)).toArray ∧ ib_X D dA base b L xs U ∧ va_P D vwCl (ib_w dA ad σ) U.heap ∧ va_D (fun q => base ≤ q) (ib_w dA ad σ) ∧ ib_ok L xs σ ∧ ad 1 = b ∧ ∀ v ∈ vs, ib_vk (ib_nx σ) v
theorem ib_Pc_blind {D : va_G} {dA : Nat → ClassId} {base b L : Nat} {xs : Nat → Int32} {σ : ib_H} {ad : Nat → Nat} {vs : List Value} : FrameBlind (ib_Pc D dA base b L xs σ ad vs) := fun a U g mk h => by
  obtain ⟨h1, h2, h3⟩ := h
  exact ⟨h1, ib_X_to (u := U) (U := U.calling g mk a) (State.WarmedH.refl U) (Nat.le_refl _) (fun _ _ _ => rfl) h2, h3⟩
def ib_rm (d : Nat) (σ σ1 : ib_H) : Room := { frames := d + 1, locals := 39 * (d + 1), cells := ib_cc σ1 - ib_cc σ, slots := ib_sc σ1 - ib_sc σ }
def ib_Mt (l : Launch) (C : ib_M) (d : Nat) (vs : List Value) (σ : ib_H) (o : ib_O) : Prop := ∀ (D : va_G) (dA : Nat → ClassId) (base b L : Nat) (xs : Nat → Int32) (ad : Nat → Nat), vx_Met l C.1 (ib_cw C :: ib_tG) (ib_rm d σ o.2) (ib_Pc D dA base b L xs σ ad vs) (ib_Qc D dA base b L xs σ ad o) (ib_XC D dA base b L xs σ ad o) (ib_cc o.2 - ib_cc σ) (ib_sc o.2 - ib_sc σ) (fun q => base ≤ q)
section IbC
variable {p : Program} {l : Launch} {e : Env} {R : Room} {s : State} {m : MethodId} {args : Array Value} {below : List Frame} {meth : Method} {c : Code} {Q : State → Prop} {M : ib_M} {D : va_G} {dA : Nat → ClassId} {base L b nL : Nat} {xs : Nat → Int32} {σ0 σ σ' : ib_H} {ad0 ad : Nat → Nat} {ls ls' : ib_Ls} {st st' r : List Value} {H H1 : Heap} {locs locs1 : List Loc} {cells slots pc : Nat} {la la' : Array Slot} {H0 : Heap}
theorem ib_s_throw {mi : Nat} {i : Instr} {a1 a2 a3 a4 k : Nat} {Qc : Array Value → State → Outcome → State → Prop} (hl : l.stackTraces = false) (hM : ib_Ms mi = some M) (hq : M.2.2.2.2.2[pc]? = some (some (i, a1, a2, a3, a4))) (hnl : M.2.2.1 = nL) (F : ib_F p s m args meth c M D dA base b L xs) (h : ib_at ib_ks ib_fn (i, a1, a2, a3, a4) pc ls st σ = some (.inr (.inr (.inr k)))) (V : ib_V D dA base L b xs σ0 ad0 s.heap nL σ ad ls st H locs cells slots la) (hRf : 7 ≤ R.frames) (hRl : 239 ≤ R.locals) (hRc : ib_cc σ + 1 ≤ R.cells + ib_cc σ0) (hRs : ib_sc σ + 6 ≤ R.slots + ib_sc σ0) : W p l e R s m args below meth c H locs cells slots (vx_MQ below Qc (ib_XC D dA base b L xs σ0 ad0 (.inr k, ib_cost σ 1 6)) args s R.cells R.slots (fun q => base ≤ q)) (F0 m pc la (st.map (ib_mv ad))) := by
  obtain ⟨hn, h100, rfl, rfl⟩ := ib_at_throw h
  obtain ⟨t, ht, t1, t2, t3⟩ := ib_tx_of hM hq hn h100
  unfold ib_txok at ht
  rw [t1, hM, t2] at ht
  dsimp only at ht
  simp only [Bool.and_eq_true, decide_eq_true_eq] at ht
  obtain ⟨⟨⟨⟨⟨⟨⟨⟨h1, h2⟩, h3⟩, h4⟩, h5⟩, h6⟩, h7⟩, h8⟩, h9⟩ := ht
  have hx := ib_xl_ok h2
  simp only [ib_xok, Bool.and_eq_true, decide_eq_true_eq, List.all_eq_true, Bool.or_eq_true] at hx
  obtain ⟨⟨⟨⟨⟨⟨x1, x2⟩, x3⟩, x4⟩, x5⟩, x6⟩, x7⟩ := hx
  have hEn := F.X.2.2.2.2.2.2
  have hcl := F.2.2.2.1 _ (ib_tG_of h3 h4)
  have hini := F.2.2.2.1 _ (ib_tG_of x3 x4)
  obtain ⟨sa, hstr⟩ := hEn.2.1 _ _ _ h5
  have hat : ∀ w ∈ vx_atS M.1.cls t.2.2.2.2.1 (ib_xn t.2.2.2.2.2.1) ib_xs, w.before args s = true := fun w hw => by
    obtain ⟨y1, y2⟩ := x1 w hw
    rcases y2 with y2 | y2
    · exact F.2.2.2.1 _ (ib_tG_of y1 y2)
    · have h0 := hEn.1 w (List.mem_filter.mpr ⟨y1, y2⟩)
      cases w <;> first | exact va_Nw.use rfl h0 | (simp [ib_isX] at y2)
  have hgood : ∀ w ∈ Cond.classLink M.1.cls t.2.2.1 (ib_xn t.2.2.2.2.2.1) :: Cond.initialized (ib_xn t.2.2.2.2.2.1) :: vx_atS M.1.cls t.2.2.2.2.1 (ib_xn t.2.2.2.2.2.1) ib_xs, vx_ot w = true := fun w hw => by
    rcases List.mem_cons.mp hw with rfl | hw
    · unfold vx_ot; rw [h4, Bool.or_true]
    · exact x2 w hw
  have htab : c.exceptionTable.toList = [] := by
    rw [F.2.2.2.2.2.2.2.1, List.isEmpty_iff.mp h1]; rfl
  have hout : ∀ (pc9 : Nat), ∀ x ∈ c.exceptionTable.toList, covers x pc9 = false := fun pc9 x hx => by rw [htab] at hx; cases hx
  have hls : la.size = c.maxLocals := by rw [V.tlr.2.1, F.2.2.1, hnl]
  have hc4 := V.2.2.2.1
  have hnm : ib_xs.length = 2 := rfl
  have hk : a1 - 100 = t.2.2.2.2.2.1 := by
    have t3' : a1 = 100 + t.2.2.2.2.2.1 := t3
    omega
  have hXC : ∀ u : State, s.vm.Alike u.vm → H.size ≤ u.heap.size → (∀ q : Nat, q < H.size → u.heap[q]? = H[q]?) → ib_XC D dA base b L xs σ0 ad0 (.inr (a1 - 100), ib_cost σ 1 6) (ib_xn t.2.2.2.2.2.1) s u := fun u hA hz hkp => by
    refine ⟨a1 - 100, ad, rfl, by omega, by rw [hk], ?_, V.tD, V.tok, V.2.2.2.2.2.1.1, V.2.2.2.2.2.1.2.2, Nat.le_trans V.tS.1 hz, fun q q1 q2 => ?_⟩
    · exact V.tP.kept fun j q hj => hkp _ (vx_lt V.tP hj)
    · rw [hkp q (Nat.lt_of_lt_of_le q1 V.tS.1)]
      exact V.tS.2.1 q q1 q2
  by_cases hw : t.2.2.2.2.2.2.2 = true
  · rw [if_pos hw] at h9
    simp only [Bool.and_eq_true, decide_eq_true_eq] at h9
    exact vx_throwSW F.1 F.2.1 hl F.2.2.2.2.1 x5 x6 hcl hini hstr hat hgood (F.X.2.2.2.2.1) (F.X.2.2.2.2.2.1) V.tS hls h7 h8 h9.1.1 h9.1.2 h9.2 (hout _) (by rw [hnm]; omega) (by rw [hnm]; show 0 + _ ≤ _; omega) (by omega) (by omega) F.2.2.2.2.2.2.1 hXC V.tS.2.2 (by omega) (by omega)
  · rw [if_neg hw] at h9
    simp only [Bool.and_eq_true, decide_eq_true_eq] at h9
    exact vx_throwS F.1 F.2.1 hl F.2.2.2.2.1 x5 x6 hcl hini hstr hat hgood (F.X.2.2.2.2.1) (F.X.2.2.2.2.2.1) V.tS hls h7 h8 h9.1.1 h9.1.2 h9.2 (hout _) (by rw [hnm]; omega) (by rw [hnm]; show 0 + _ ≤ _; omega) (by omega) (by omega) F.2.2.2.2.2.2.1 hXC V.tS.2.2 (by omega) (by omega)
theorem ib_V_after {st₀ t T' : State} {L9 : List Loc} {σ1 : ib_H} {ad1 : Nat → Nat} {mc ms : Nat} (V : ib_V D dA base L b xs σ0 ad0 s.heap nL σ ad ls st H locs cells slots la) (hQ : ib_Qo D dA base b L xs σ ad σ1 ad1 st₀ t) (h0 : st₀.heap = H) (e1 : T'.heap = t.heap) (hL : ∀ q ∈ L9, base ≤ q.base) (hle : ib_le σ σ1) (hmc : mc + ib_cc σ = ib_cc σ1) (hms : ms + ib_sc σ = ib_sc σ1) (hs : ∀ v ∈ st', ib_vk (ib_nx σ1) v) : ib_V D dA base L b xs σ0 ad0 s.heap nL σ1 ad1 ls st' T'.heap (locs ++ L9) (cells + mc) (slots + ms) la := by
  obtain ⟨q1, q2, q3, q4, q5, q6⟩ := hQ
  obtain ⟨k1, k2, k3⟩ := vx_keep (A0 := fun q => base ≤ q) (A1 := fun q => base ≤ q) (free := fun q => base ≤ q) h0 e1 V.tS (fun q _ h => h) (fun q h => h) hL q6
  obtain ⟨h1, h2, h3, h4, h5, h6, h7, h8⟩ := V
  refine ⟨by rw [e1]; exact q1, q2, k3, ⟨by omega, by omega⟩, q3, ⟨fun k hk => ?_, Nat.le_trans h6.2.1 hle.1, q5⟩, ib_lr_ad h7 q4 hle.1, hs⟩
  rw [q4 k (Nat.lt_of_lt_of_le hk h6.2.1)]
  exact h6.1 k hk
theorem ib_call_go {mc ms : Nat} {rest st0 : List Value} {aa : Array Value} {o1 : ib_O} (hr : vx_Run p l e R s m args below meth c H locs cells slots mc ms (F0 m pc la st0) (rest.map (ib_mv ad)) (ib_Qc D dA base b L xs σ ad o1 aa) (ib_XC D dA base b L xs σ ad o1) (fun q => base ≤ q))
    (V : ib_V D dA base L b xs σ0 ad0 s.heap nL σ ad ls st H locs cells slots la) (hle : ib_le σ o1.2) (hmc : mc + ib_cc σ = ib_cc o1.2) (hms : ms + ib_sc σ = ib_sc o1.2) (hrest : ∀ v ∈ rest, ib_vk (ib_nx σ) v)
    (kk : ∀ v, o1.1 = .inl v → ib_KK p l e R s m args below meth c Q D dA base L b xs σ0 ad0 nL (pc + 3, ls, v.toList ++ rest, o1.2))
    (kx : ∀ (k : Nat) (ad1 : Nat → Nat) (H1 : Heap) (locs1 : List Loc) (q9 : Addr) (ce : Cell), o1.1 = .inr k → k < 3 → ib_V D dA base L b xs σ0 ad0 s.heap nL o1.2 ad1 ls [] H1 locs1 (cells + mc) (slots + ms) la → H1[q9]? = some ce → ce.vm = .none → s.vm.findClass (ib_xn k) = some ce.cls → vx_W p l e R s m args below meth c H1 locs1 (cells + mc) (slots + ms) Q (F0 m pc la (rest.map (ib_mv ad))) q9) :
    W p l e R s m args below meth c H locs cells slots Q (F0 m pc la st0) := by
  intro T hT X
  rcases hr T hT X with ⟨v, st₀, t, T', L9, h0, X', hL, e1, e2, ⟨v1, ad1, ho, hv, hvk, hQ⟩, g⟩ | ⟨q, st₀, t, T', L9, E, ce, h0, X', hL, e1, e2, ⟨k, ad1, ho, hk3, hE, hQ⟩, hce, hcv, hcl, g⟩
  · cases hv
    have V1 := ib_V_after (st' := v1.toList ++ rest) V hQ h0 e1 hL hle hmc hms (fun w hw => by
      rcases List.mem_append.mp hw with z | z
      · exact hvk w (Option.mem_toList.mp z)
      · exact ib_vk_mono (hrest w z) hle.1)
    obtain ⟨t2, a1, b1⟩ := kk v1 ho ad1 T'.heap (locs ++ L9) _ _ la V1 T' rfl X'
    have e9 : (v1.toList ++ rest).map (ib_mv ad1) = (v1.map (ib_mv ad1)).toList ++ rest.map (ib_mv ad) := by
      rw [List.map_append, ib_mv_map hQ.2.2.2.1 hrest]
      cases v1 <;> rfl
    refine ⟨t2, g t2 ?_, b1⟩
    have a1' : Steps p.tables e below (T'.setTop (F0 m (pc + 3) la ((v1.toList ++ rest).map (ib_mv ad1)))) t2 := a1
    rw [e9] at a1'
    exact a1'
  · have V1 := ib_V_after (st' := []) V hQ h0 e1 hL hle hmc hms (fun w hw => by cases hw)
    obtain ⟨t2, a1, b1⟩ := kx k ad1 T'.heap (locs ++ L9) q ce ho hk3 V1 (by rw [e1]; exact hce) hcv (by rw [← hE]; exact hcl) T' rfl X'
    exact ⟨t2, g.trans a1, b1⟩
end IbC
