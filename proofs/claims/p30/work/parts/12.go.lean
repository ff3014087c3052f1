/-! an instruction that goes on, a return, a throw -/
section IbG
variable {p : Program} {l : Launch} {e : Env} {R : Room} {s : State} {m : MethodId} {args : Array Value} {below : List Frame} {meth : Method} {c : Code} {Q : State → Prop} {M : ib_M} {D : va_G} {dA : Nat → ClassId} {base L b nL : Nat} {xs : Nat → Int32} {σ0 σ σ' : ib_H} {ad0 ad : Nat → Nat} {ls ls' : ib_Ls} {st st' r : List Value} {H H1 : Heap} {locs locs1 : List Loc} {cells slots pc : Nat} {la la' : Array Slot} {H0 : Heap}
theorem ib_s_objInit {a2 a3 a4 : Nat} {x : Nat × ib_Ls × List Value × ib_H} {idx : Nat} (hw : Cond.methodLink M.1.cls idx Lib.objectInit ∈ ib_tG) (hRf : 1 ≤ R.frames) (hRl : 39 ≤ R.locals) (F : ib_F p s m args meth c M D dA base b L xs) (hnl : M.2.2.1 = nL) (hd : decode M.2.1 pc = .ok (.invokespecial idx, 3)) (h : ib_at ib_ks ib_fn (.invokespecial idx, 1000, a2, a3, a4) pc ls st σ = some (.inl x)) (V : ib_V D dA base L b xs σ0 ad0 s.heap nL σ ad ls st H locs cells slots la) (K : ib_KK p l e R s m args below meth c Q D dA base L b xs σ0 ad0 nL x) : W p l e R s m args below meth c H locs cells slots Q (F0 m pc la (st.map (ib_mv ad))) := by
  have hv := V.tvk
  simp only [ib_at, ↓reduceIte] at h
  split at h
  · rename_i n r
    split at h
    · cases h
    · rename_i hn
      cases h
      have hn0 : n ≠ 0 := fun z => hn (Or.inl z)
      have hr4 : r.length ≤ 4 := by
        rcases Nat.lt_or_ge 4 r.length with z | z
        · exact absurd (Or.inr z) hn
        · exact z
      have hsum : ∀ (q : List Value), ((q.map (ib_mv ad)).map fun v => v.category).sum ≤ 2 * q.length := by
        intro q
        induction q with
        | nil => exact Nat.le_refl _
        | cons a t ih =>
          simp only [List.map_cons, List.sum_cons, List.length_cons]
          have : (ib_mv ad a).category ≤ 2 := by
            rw [ib_mv_cat]
            cases a <;> exact Nat.le_of_ble_eq_true rfl
          omega
      have h8 := hsum r
      rw [List.map_cons, ib_mv_ref hn0]
      refine W.objInit F.1 F.2.1 F.2.2.2.2.1 (F.2.2.2.1 _ hw) (F.2.2.2.1 _ (ib_tG_of ib_oi.1 rfl)) (F.2.2.2.1 _ (ib_tG_of ib_oi.2 rfl)) rfl (by show la.size = c.maxLocals; rw [V.tlr.2.1, F.2.2.1, hnl]) rfl hd hRf (by show 2 * 0 + _ + 12 ≤ R.locals; omega) ?_
      exact K ad H locs cells slots la (V.tst (ib_vkT hv))
  · cases h
set_option maxHeartbeats 4000000 in
theorem ib_s_all {i : Instr} {a1 a2 a3 a4 : Nat} {x : Nat × ib_Ls × List Value × ib_H} (hc : ib_chk M pc (i, a1, a2, a3, a4) = true) (hRf : 1 ≤ R.frames) (hRl : 39 ≤ R.locals) (hnl : M.2.2.1 = nL) (F : ib_F p s m args meth c M D dA base b L xs) (h : ib_at ib_ks ib_fn (i, a1, a2, a3, a4) pc ls st σ = some (.inl x)) (V : ib_V D dA base L b xs σ0 ad0 s.heap nL σ ad ls st H locs cells slots la) (hR : ib_cc x.2.2.2 ≤ R.cells + ib_cc σ0 ∧ ib_sc x.2.2.2 ≤ R.slots + ib_sc σ0) (K : ib_KK p l e R s m args below meth c Q D dA base L b xs σ0 ad0 nL x) : W p l e R s m args below meth c H locs cells slots Q (F0 m pc la (st.map (ib_mv ad))) := by
  unfold ib_chk at hc
  rw [Bool.and_eq_true] at hc
  obtain ⟨hd, hc⟩ := hc
  replace hd := of_decide_eq_true hd
  cases i
  case aconst_null => exact ib_s_null F hd h V K
  case aload k => exact ib_s_load (Or.inr ⟨rfl, Or.inr rfl⟩) F hd h V K
  case aload_n k => exact ib_s_load (Or.inl ⟨k, rfl, rfl, Or.inr rfl⟩) F hd h V K
  case iload k => exact ib_s_load (Or.inr ⟨rfl, Or.inl rfl⟩) F hd h V K
  case iload_n k => exact ib_s_load (Or.inl ⟨k, rfl, rfl, Or.inl rfl⟩) F hd h V K
  case istore k => exact ib_s_store (Or.inr ⟨rfl, Or.inl rfl⟩) F hd h V K
  case istore_n k => exact ib_s_store (Or.inl ⟨k, rfl, rfl, Or.inl rfl⟩) F hd h V K
  case astore k => exact ib_s_store (Or.inr ⟨rfl, Or.inr rfl⟩) F hd h V K
  case astore_n k => exact ib_s_store (Or.inl ⟨k, rfl, rfl, Or.inr rfl⟩) F hd h V K
  case iconst k => exact ib_s_iconst F hd h V K
  case bipush k => exact ib_s_bipush F hd h V K
  case sipush k => exact ib_s_sipush F hd h V K
  case ldc k => exact ib_s_ldc (ib_tG_wd hc) F hd h V K
  case getfield k => exact ib_s_getfield hc F hd h V K
  case putfield k => exact ib_s_putfield (Bool.and_eq_true _ _ ▸ hc : _ ∧ _).1 (Bool.and_eq_true _ _ ▸ hc : _ ∧ _).2 F hd h V K
  case goto k => exact ib_s_goto (of_decide_eq_true hc) F hd h V K
  case ifCond cd k => exact ib_s_if (of_decide_eq_true hc) F hd h V K
  case if_icmp cd k => exact ib_s_icmp (of_decide_eq_true hc) F hd h V K
  case ifnull k => exact ib_s_ifnull (of_decide_eq_true hc) F hd h V K
  case ifnonnull k => exact ib_s_ifnonnull (of_decide_eq_true hc) F hd h V K
  case iinc k n => exact ib_s_iinc F hd h V K
  case iadd => exact ib_s_arith (Or.inl rfl) F hd h V K
  case isub => exact ib_s_arith (Or.inr (Or.inl rfl)) F hd h V K
  case imul => exact ib_s_arith (Or.inr (Or.inr (Or.inl rfl))) F hd h V K
  case iand => exact ib_s_arith (Or.inr (Or.inr (Or.inr (Or.inl rfl)))) F hd h V K
  case idiv => exact ib_s_arith (Or.inr (Or.inr (Or.inr (Or.inr (Or.inl rfl))))) F hd h V K
  case irem => exact ib_s_arith (Or.inr (Or.inr (Or.inr (Or.inr (Or.inr (Or.inl rfl)))))) F hd h V K
  case i2l => exact ib_s_arith (Or.inr (Or.inr (Or.inr (Or.inr (Or.inr (Or.inr (Or.inl rfl))))))) F hd h V K
  case lcmp => exact ib_s_arith (Or.inr (Or.inr (Or.inr (Or.inr (Or.inr (Or.inr (Or.inr (Or.inl rfl)))))))) F hd h V K
  case ishr => exact ib_s_arith (Or.inr (Or.inr (Or.inr (Or.inr (Or.inr (Or.inr (Or.inr (Or.inr rfl)))))))) F hd h V K
  case dup => exact ib_s_dup F hd h V K
  case dup2 => exact ib_s_dup2 F hd h V K
  case pop => exact ib_s_pop F hd h V K
  case arraylength => exact ib_s_alen F hd h V K
  case iaload => exact ib_s_iaload F hd h V K
  case iastore => exact ib_s_iastore F hd h V K
  case baload => exact ib_s_baload F hd h V K
  case bastore => exact ib_s_bastore F hd h V K
  case laload => cases hc
  case lastore => cases hc
  case aaload => exact ib_s_aaload F hd h V K
  case aastore => exact ib_s_aastore F hd h V K
  case newarray t => exact ib_s_newarray hc F hd h V hR K
  case anewarray k => exact ib_s_anewarray hc F hd h V hR K
  case new k => exact ib_s_new hc F hd h V hR K
  case tableswitch d lo hi offs => exact ib_s_switch F hd h V K
  case invokespecial k =>
    by_cases e : a1 = 1000
    · subst e
      exact ib_s_objInit (ib_tG_wd hc) hRf hRl F hnl hd h V K
    · exfalso
      simp only [ib_at, if_neg e] at h
      repeat' split at h
      all_goals cases h
  all_goals (exfalso; simp only [ib_at] at h; try (repeat' split at h); all_goals cases h)
def ib_Qo (D : va_G) (dA : Nat → ClassId) (base b L : Nat) (xs : Nat → Int32) (σ0 : ib_H) (ad0 : Nat → Nat) (σf : ib_H) (ad : Nat → Nat) (st t : State) : Prop := va_P D vwCl (ib_w dA ad σf) t.heap ∧ va_D (fun q => base ≤ q) (ib_w dA ad σf) ∧ ib_ok L xs σf ∧ (∀ k, k < ib_nx σ0 → ad k = ad0 k) ∧ ad 1 = b ∧ va_F (fun q => base ≤ q) st t
def ib_Qc (D : va_G) (dA : Nat → ClassId) (base b L : Nat) (xs : Nat → Int32) (σ0 : ib_H) (ad0 : Nat → Nat) (o : ib_O) : Array Value → State → Outcome → State → Prop := fun _ st oc t => ∃ (v : Option Value) (ad : Nat → Nat), o.1 = .inl v ∧ oc = .returned (v.map (ib_mv ad)) ∧ (∀ w, v = some w → ib_vk (ib_nx o.2) w) ∧ ib_Qo D dA base b L xs σ0 ad0 o.2 ad st t
def ib_XC (D : va_G) (dA : Nat → ClassId) (base b L : Nat) (xs : Nat → Int32) (σ0 : ib_H) (ad0 : Nat → Nat) (o : ib_O) : String → State → State → Prop := fun E st t => ∃ (k : Nat) (ad : Nat → Nat), o.1 = .inr k ∧ k < 3 ∧ E = ib_xn k ∧ ib_Qo D dA base b L xs σ0 ad0 o.2 ad st t
theorem ib_V.tQo {t : State} (V : ib_V D dA base L b xs σ0 ad0 s.heap nL σ ad ls st H locs cells slots la) (ht : t.heap = H) : ib_Qo D dA base b L xs σ0 ad0 σ ad s t := by
  refine ⟨by rw [ht]; exact V.tP, V.tD, V.tok, V.2.2.2.2.2.1.1, V.2.2.2.2.2.1.2.2, V.tS.F ht⟩
theorem ib_s_ret {i : Instr} {a1 a2 a3 a4 : Nat} {v : Option Value} {XC : String → State → State → Prop} (hc : ib_chk M pc (i, a1, a2, a3, a4) = true) (F : ib_F p s m args meth c M D dA base b L xs) (h : ib_at ib_ks ib_fn (i, a1, a2, a3, a4) pc ls st σ = some (.inr (.inr (.inl v)))) (V : ib_V D dA base L b xs σ0 ad0 s.heap nL σ ad ls st H locs cells slots la) (hcells : cells ≤ R.cells) (hslots : slots ≤ R.slots) : W p l e R s m args below meth c H locs cells slots (vx_MQ below (ib_Qc D dA base b L xs σ0 ad0 (.inl v, σ)) XC args s R.cells R.slots (fun q => base ≤ q)) (F0 m pc la (st.map (ib_mv ad))) := by
  unfold ib_chk at hc
  rw [Bool.and_eq_true] at hc
  obtain ⟨hd, hc⟩ := hc
  replace hd := of_decide_eq_true hd
  refine W.widen hcells hslots ?_
  refine vx_ret ?_
  rcases ib_at_ret h with ⟨rfl, x, rfl, rfl, hx⟩ | ⟨rfl, n, rfl, rfl⟩ | ⟨rfl, rfl, rfl⟩
  · dsimp only at hc
    split at hc
    · rename_i e1
      have hn := ib_nar_b (hx e1)
      exact W.zret F.1 F.2.1 (by rw [F.2.2.2.2.2.1]; exact of_decide_eq_true hc) hn.1 (fun t ht hW => ⟨_, ad, rfl, rfl, fun w hw => by cases hw; exact trivial, V.tQo ht⟩) V.tS.2.2 hd F.2.2.2.2.2.2.1
    · exact W.iret F.1 F.2.1 (by rw [F.2.2.2.2.2.1]; exact of_decide_eq_true hc) (fun t ht hW => ⟨_, ad, rfl, rfl, fun w hw => by cases hw; exact trivial, V.tQo ht⟩) V.tS.2.2 hd F.2.2.2.2.2.2.1
  · have hrt : ∃ rt, M.2.2.2.1 = some rt ∧ ((∃ n, rt = .object n) ∨ ∃ t, rt = .array t) := by
      dsimp only at hc
      split at hc
      · exact ⟨_, by assumption, Or.inl ⟨_, rfl⟩⟩
      · exact ⟨_, by assumption, Or.inr ⟨_, rfl⟩⟩
      · cases hc
    obtain ⟨rt, h1, h2⟩ := hrt
    exact W.aret F.1 F.2.1 (by rw [F.2.2.2.2.2.1]; exact h1) h2 (by rw [ib_rf_mv]; exact va_rf_or _) (fun t ht hW => ⟨_, ad, rfl, rfl, fun w hw => by cases hw; exact V.tvk _ List.mem_cons_self, V.tQo ht⟩) V.tS.2.2 hd F.2.2.2.2.2.2.1
  · exact W.vret F.1 F.2.1 (by rw [F.2.2.2.2.2.1]; exact of_decide_eq_true hc) (fun t ht hW => ⟨none, ad, rfl, rfl, (fun w hw => by cases hw), V.tQo ht⟩) V.tS.2.2 hd F.2.2.2.2.2.2.1
end IbG
