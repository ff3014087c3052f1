/-! a call; the master theorem -/
section IbM
variable {p : Program} {l : Launch} {e : Env} {R : Room} {s : State} {m : MethodId} {args : Array Value} {below : List Frame} {meth : Method} {c : Code} {Q : State → Prop} {M : ib_M} {D : va_G} {dA : Nat → ClassId} {base L b nL : Nat} {xs : Nat → Int32} {σ0 σ σ' : ib_H} {ad0 ad : Nat → Nat} {ls ls' : ib_Ls} {st st' r : List Value} {H H1 : Heap} {locs locs1 : List Loc} {cells slots pc : Nat} {la la' : Array Slot} {H0 : Heap}
/-- the run of a call: from the callee's contract -/
theorem ib_s_run {d mi : Nat} {i : Instr} {a1 a2 a3 a4 : Nat} {c9 : Nat × List Value × List Value} {C : ib_M} {o1 : ib_O} (hM : ib_Ms mi = some M) (hq : M.2.2.2.2.2[pc]? = some (some (i, a1, a2, a3, a4))) (hc : ib_chk M pc (i, a1, a2, a3, a4) = true) (hnl : M.2.2.1 = nL) (F : ib_F p s m args meth c M D dA base b L xs) (h : ib_at ib_ks ib_fn (i, a1, a2, a3, a4) pc ls st σ = some (.inr (.inl c9))) (V : ib_V D dA base L b xs σ0 ad0 s.heap nL σ ad ls st H locs cells slots la) (hC : ib_Ms c9.1 = some C) (hlen : c9.2.1.length ≤ C.2.2.1) (h4 : c9.2.2.length ≤ 4) (hm20 : C.2.2.1 ≤ 20) (hMt : ib_Mt l C d c9.2.1 σ o1) (hRf : d + 2 ≤ R.frames) (hRl : 39 * (d + 2) ≤ R.locals) (hle : ib_le σ o1.2) (hRc : ib_cc o1.2 ≤ R.cells + ib_cc σ0) (hRs : ib_sc o1.2 ≤ R.slots + ib_sc σ0) :
    ∃ aa, vx_Run p l e R s m args below meth c H locs cells slots (ib_cc o1.2 - ib_cc σ) (ib_sc o1.2 - ib_sc σ) (F0 m pc la (st.map (ib_mv ad))) (c9.2.2.map (ib_mv ad)) (ib_Qc D dA base b L xs σ ad o1 aa) (ib_XC D dA base b L xs σ ad o1) (fun q => base ≤ q) := by
  have hMt1 := hMt D dA base b L xs ad
  have hkc := ib_kc_at _ _ _ (List.all_eq_true.mp ib_kc_all M (List.mem_of_getElem? hM)) hq
  unfold ib_chk at hc
  rw [Bool.and_eq_true] at hc
  obtain ⟨hd, hc⟩ := hc
  replace hd := of_decide_eq_true hd
  have hc4 := V.2.2.2.1
  have hfix : CallFix p m c M.2.1 M.2.2.1 s args ib_tG M.1.cls := ⟨F.1, F.2.1, F.2.2.1, F.2.2.2.2.1, F.2.2.2.1⟩
  have hsize : (F0 m pc la (st.map (ib_mv ad))).locals.size = M.2.2.1 := by show la.size = _; rw [V.tlr.2.1, hnl]
  have hroom : 2 * (F0 m pc la (st.map (ib_mv ad))).monitorRoom + ((c9.2.2.map (ib_mv ad)).map fun v => v.category).sum ≤ 8 := lv_room (Nat.le_trans (ib_sum2 ad _) (by omega))
  have hf : cells + (ib_cc o1.2 - ib_cc σ) ≤ R.cells ∧ slots + (ib_sc o1.2 - ib_sc σ) ≤ R.slots := by
    have h1 := hle.2.1; have h2 := hle.2.2
    exact ⟨by omega, by omega⟩
  have hRR : (ib_rm d σ o1.2).frames + 1 ≤ R.frames ∧ 8 + (C.2.2.1 + 11) + (ib_rm d σ o1.2).locals ≤ R.locals := by
    refine ⟨by show d + 1 + 1 ≤ _; omega, by show 8 + (C.2.2.1 + 11) + 39 * (d + 1) ≤ _; omega⟩
  have hvs : ∀ v ∈ c9.2.1, ib_vk (ib_nx σ) v := by
    rcases ib_at_call h with ⟨-, n, r, e1, e2, e3, rfl⟩ | ⟨-, e3, rfl⟩
    · intro v hv
      rcases List.mem_cons.mp hv with rfl | hv
      · exact (ib_obj_of e2).2.1
      · exact V.tvk v (List.mem_of_mem_take (List.mem_reverse.mp hv))
    · intro v hv
      exact V.tvk v (List.mem_of_mem_take (List.mem_reverse.mp hv))
  have hPc : ∀ U : State, U.heap = H → s.WarmedH U.vm → ib_Pc D dA base b L xs σ ad c9.2.1 (c9.2.1.map (ib_mv ad)).toArray U := fun U hU hW => by
    refine ⟨rfl, ib_X_to hW (by rw [hU]; exact V.tS.1) (fun q q1 q2 => by rw [hU]; exact V.tS.2.1 q q1 q2) F.X, by rw [hU]; exact V.tP, V.tD, V.tok, V.2.2.2.2.2.1.2.2, hvs⟩
  rcases ib_at_call h with ⟨hi, n, r, e1, e2, e3, rfl⟩ | ⟨⟨idx, rfl⟩, e3, rfl⟩
  · have hst : st.map (ib_mv ad) = (((st.take a2).reverse).map (ib_mv ad)).reverse ++ .ref (ad n) :: r.map (ib_mv ad) := by
      rw [← List.map_reverse, List.reverse_reverse, ← ib_mv_ref (ad := ad) (n := n) (ib_ne0 (ib_obj_of e2).1), ← List.map_cons, ← List.map_append, ← e1, List.take_append_drop]
    have hvs9 : (Value.ref (ad n) :: ((st.take a2).reverse).map (ib_mv ad)).toArray = ((Value.ref n :: (st.take a2).reverse).map (ib_mv ad)).toArray := by
      rw [List.map_cons, ib_mv_ref (ib_ne0 (ib_obj_of e2).1)]
    have hln : (((st.take a2).reverse).map (ib_mv ad)).length = a2 := by
      rw [List.length_map, List.length_reverse, List.length_take]; omega
    rcases hi with ⟨⟨idx, rfl⟩, e1000⟩ | ⟨idx, rfl⟩
    · dsimp only at hc hkc
      rw [if_neg e1000, Bool.and_eq_true] at hc
      obtain ⟨hs, hn⟩ := hc
      simp only [Bool.or_eq_true, decide_eq_true_eq] at hkc
      have hk3 : ib_kd a1 = 3 := by
        rcases hkc with z | z
        · exact absurd z e1000
        · exact z
      have hcal := ib_cal_of hC hk3 (by omega)
      obtain ⟨c1, c2, c3, c4, c5, c6, c7, c8, c9'⟩ := hcal
      obtain ⟨i1, i2⟩ := c8 (by omega)
      have hC' : ib_Ms a1 = some C := hC
      unfold ib_sok at hs
      rw [hC'] at hs
      unfold ib_npk at hn
      rw [hC'] at hn
      dsimp only at hs hn
      replace hn := of_decide_eq_true hn
      rw [if_neg (by decide)] at hs
      simp only [Bool.and_eq_true, Bool.or_eq_true, decide_eq_true_eq] at hs
      obtain ⟨⟨s1, s2⟩, s3⟩ := hs
      have hcw : ib_cw C :: ib_tG = Cond.code C.1 C.2.1 C.2.2.1 none :: ib_tG := by
        unfold ib_cw
        rw [i2, if_pos (by rfl), s3]
      have hpS : PreS s H (ib_Pc D dA base b L xs σ ad (Value.ref n :: (st.take a2).reverse)) (.ref (ad n) :: ((st.take a2).reverse).map (ib_mv ad)) := ⟨ib_Pc_blind, fun U hU hW => by rw [hvs9]; exact hPc U hU hW⟩
      rcases s1 with s1 | s1
      · exact ⟨_, vx_runI (bytes := C.2.1) (maxL := C.2.2.1) hfix hMt1 ⟨callB_of a2 F.2.2.2.1 (ib_tG_good c2) hcw rfl rfl (F.2.2.2.1 _ c3) (F.2.2.2.1 _ (ib_tG_wd s1)) ⟨c4, c5, hn⟩ hRR, s2, F.2.2.2.1 _ i1⟩ hpS rfl hln hsize hst hroom hd hf⟩
      · have hX := F.X.2.2.2.2.2.2.1 _ (List.mem_filter.mpr ⟨List.mem_of_getElem? s1, rfl⟩)
        exact ⟨_, vx_runIN (bytes := C.2.1) (maxL := C.2.2.1) hfix hMt1 ⟨va_cnB a2 F.2.2.2.1 (ib_tG_good c2) hcw rfl rfl hX (F.2.2.2.1 _ c3) ⟨c4, c5, hn⟩ hRR, s2, F.2.2.2.1 _ i1⟩ hpS rfl hln hsize hst hroom hd hf⟩
    · dsimp only at hc hkc
      rw [Bool.and_eq_true] at hc
      obtain ⟨hs, hn⟩ := hc
      simp only [Bool.or_eq_true, decide_eq_true_eq] at hkc
      have hC' : ib_Ms a1 = some C := hC
      have hcal : ∃ kk, (kk = 1 ∨ kk = 2) ∧ ib_cal C kk := by
        rcases hkc with z | z
        · exact ⟨1, Or.inl rfl, ib_cal_of hC z (by omega)⟩
        · exact ⟨2, Or.inr rfl, ib_cal_of hC z (by omega)⟩
      obtain ⟨kk, hkk, c1, c2, c3, c4, c5, c6, c7, c8, c9'⟩ := hcal
      obtain ⟨i1, i2⟩ := c8 (by omega)
      have hsel := c9' hkk
      unfold ib_sok at hs
      rw [hC'] at hs
      unfold ib_npk at hn
      rw [hC'] at hn
      dsimp only at hs hn
      replace hn := of_decide_eq_true hn
      rw [if_pos rfl] at hs
      simp only [Bool.and_eq_true, decide_eq_true_eq] at hs
      obtain ⟨s1, s2⟩ := hs
      have hcw : ib_cw C :: ib_tG = Cond.code C.1 C.2.1 C.2.2.1 C.2.2.2.1 :: ib_tG := by
        unfold ib_cw
        rw [i2, if_pos (by rfl)]
      obtain ⟨n2, nn, nt, n50⟩ := ib_obj_of e2
      have hrecv : ∃ cell : Cell, H[ad n]? = some cell ∧ cell.vm.isStatics = false ∧ s.vm.findClass C.1.cls = some cell.cls := by
        cases hv9 : vwCl[a3]? with
        | none => rw [hv9] at s2; cases s2
        | some q9 =>
          rw [hv9] at s2
          have s2 : q9.1 = C.1.cls := Option.some.inj s2
          have he := ib_w_at (dA := dA) (ad := ad) n2 nn
          rw [ib_e_obj nt n50] at he
          rw [← s2]
          exact va_recv F.X.1 V.tP hv9 he
      have hpV : PreV s H C.1.cls (ad n) (ib_Pc D dA base b L xs σ ad (Value.ref n :: (st.take a2).reverse)) (((st.take a2).reverse).map (ib_mv ad)) := ⟨ib_Pc_blind, hrecv, fun U hU hW => by rw [hvs9]; exact hPc U hU hW⟩
      exact ⟨_, vx_runV (bytes := C.2.1) (maxL := C.2.2.1) (ret := C.2.2.2.1) hfix hMt1 ⟨callB_of a2 F.2.2.2.1 (ib_tG_good c2) hcw rfl rfl (F.2.2.2.1 _ c3) (F.2.2.2.1 _ (ib_tG_wd s1)) ⟨c4, c5, hn⟩ hRR, F.2.2.2.1 _ i1, F.2.2.2.1 _ hsel⟩ hpV rfl hln hsize hst hroom hd hf⟩
  · have hst : st.map (ib_mv ad) = (((st.take a2).reverse).map (ib_mv ad)).reverse ++ (st.drop a2).map (ib_mv ad) := by
      rw [← List.map_reverse, List.reverse_reverse, ← List.map_append, List.take_append_drop]
    have hln : (((st.take a2).reverse).map (ib_mv ad)).length = a2 := by
      rw [List.length_map, List.length_reverse, List.length_take]; omega
    dsimp only at hc hkc
    rw [Bool.and_eq_true] at hc
    obtain ⟨hs, hn⟩ := hc
    have hC' : ib_Ms a1 = some C := hC
    have hk0 : ib_kd a1 = 0 := of_decide_eq_true hkc
    obtain ⟨c1, c2, c3, c4, c5, c6, c7, c8, c9'⟩ := ib_cal_of hC hk0 (by omega)
    have i1 := c7 rfl
    unfold ib_tok at hs
    rw [hC'] at hs
    unfold ib_npk at hn
    rw [hC'] at hn
    dsimp only at hs hn
    replace hn := of_decide_eq_true hn
    have hpS : PreS s H (ib_Pc D dA base b L xs σ ad ((st.take a2).reverse)) (((st.take a2).reverse).map (ib_mv ad)) := ⟨ib_Pc_blind, fun U hU hW => hPc U hU hW⟩
    by_cases he : C.2.2.2.2.1.isEmpty = true
    · have hcw : ib_cw C :: ib_tG = Cond.code C.1 C.2.1 C.2.2.1 C.2.2.2.1 :: ib_tG := by
        unfold ib_cw
        rw [if_pos he]
      exact ⟨_, vx_runS (bytes := C.2.1) (maxL := C.2.2.1) (ret := C.2.2.2.1) hfix hMt1 ⟨callB_of a2 F.2.2.2.1 (ib_tG_good c2) hcw rfl rfl (F.2.2.2.1 _ c3) (F.2.2.2.1 _ (ib_tG_wd hs)) ⟨c4, c5, hn⟩ hRR, F.2.2.2.1 _ i1⟩ hpS rfl hln hsize hst hroom hd hf⟩
    · have hcw : ib_cw C = Cond.codeWith C.1 C.2.1 C.2.2.1 C.2.2.2.1 C.2.2.2.2.1 := by
        unfold ib_cw
        rw [if_neg he]
      have hcm : Cond.codeWith C.1 C.2.1 C.2.2.1 C.2.2.2.1 C.2.2.2.2.1 ∈ ib_cw C :: ib_tG := by rw [hcw]; exact List.mem_cons_self
      refine ⟨_, vx_runSX (bytes := C.2.1) (maxL := C.2.2.1) (ret := C.2.2.2.1) (hh := C.2.2.2.2.1) hfix hMt1 ⟨⟨rfl, rfl, hRR.1, hRR.2, pay_in F.2.2.2.1 (ib_tG_good c2), hcm⟩, F.2.2.2.1 _ (c2 _ hcm), F.2.2.2.1 _ c3, ⟨c4, c5⟩, fun sig hsig => ?_, F.2.2.2.1 _ (ib_tG_wd hs), F.2.2.2.1 _ i1⟩ hpS rfl hln hsize hst hroom hd hf⟩
      unfold ib_np at hn
      rw [hsig] at hn
      exact (Option.some.inj hn).symm
end IbM
