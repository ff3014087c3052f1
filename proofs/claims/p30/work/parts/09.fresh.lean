/-! new things -/
/-- the names grow, so do the counts -/
def ib_le (σ σ' : ib_H) : Prop := ib_nx σ ≤ ib_nx σ' ∧ ib_cc σ ≤ ib_cc σ' ∧ ib_sc σ ≤ ib_sc σ'
theorem ib_le.rf {σ : ib_H} : ib_le σ σ := ⟨Nat.le_refl _, Nat.le_refl _, Nat.le_refl _⟩
theorem ib_le.tr {σ σ' σ'' : ib_H} (h : ib_le σ σ') (k : ib_le σ' σ'') : ib_le σ σ'' := ⟨Nat.le_trans h.1 k.1, Nat.le_trans h.2.1 k.2.1, Nat.le_trans h.2.2 k.2.2⟩
def ib_adn (ad : Nat → Nat) (n q : Nat) : Nat → Nat := fun k => if k = n then q else ad k
theorem ib_adn_lt {ad : Nat → Nat} {n q k : Nat} (h : k < n) : ib_adn ad n q k = ad k := by
  unfold ib_adn
  rw [if_neg (by omega)]
theorem ib_adn_at {ad : Nat → Nat} {n q : Nat} : ib_adn ad n q n = q := if_pos rfl
section IbN
variable {p : Program} {l : Launch} {e : Env} {R : Room} {s : State} {m : MethodId} {args : Array Value} {below : List Frame} {meth : Method} {c : Code} {Q : State → Prop} {M : ib_M} {D : va_G} {dA : Nat → ClassId} {base L b nL : Nat} {xs : Nat → Int32} {σ0 σ σ' : ib_H} {ad0 ad : Nat → Nat} {ls ls' : ib_Ls} {st st' r : List Value} {H H1 : Heap} {locs locs1 : List Loc} {cells slots pc : Nat} {la la' : Array Slot} {H0 : Heap}
theorem ib_V.tnew {t len sl q : Nat} (V : ib_V D dA base L b xs σ0 ad0 H0 nL σ ad ls st H locs cells slots la) (hP : va_P D vwCl (ib_w dA ad σ ++ [(q, ib_e dA (ib_adn ad (ib_nx σ) q) (ib_new σ t len sl) (ib_nx σ))]) H1) (hD : va_D (fun q => base ≤ q) (ib_w dA ad σ ++ [(q, ib_e dA (ib_adn ad (ib_nx σ) q) (ib_new σ t len sl) (ib_nx σ))])) (hS : va_S (fun q => base ≤ q) H0 H1 locs) (hs : ∀ v ∈ st', ib_vk (ib_nx σ) v) : ib_V D dA base L b xs σ0 ad0 H0 nL (ib_new σ t len sl) (ib_adn ad (ib_nx σ) q) ls (.ref (ib_nx σ) :: st') H1 locs (cells + 1) (slots + sl) la := by
  obtain ⟨h1, h2, h3, h4, h5, h6, h7, h8⟩ := V
  obtain ⟨o1, o2, o3, o4⟩ := h5
  have hw : ib_w dA (ib_adn ad (ib_nx σ) q) (ib_new σ t len sl) = ib_w dA ad σ ++ [(q, ib_e dA (ib_adn ad (ib_nx σ) q) (ib_new σ t len sl) (ib_nx σ))] := by
    have := ib_w_new (dA := dA) (ad := ad) (ad' := ib_adn ad (ib_nx σ) q) (σ := σ) (σ' := ib_new σ t len sl) o1 rfl (fun m hm => ⟨ib_adn_lt hm, ?_⟩)
    · rw [this, ib_adn_at]
    · rw [ib_e_ad (ad := ad) (N := ib_nx σ) (fun k hk => ib_adn_lt hk) (fun k => ?_)]
      · refine ib_e_same ?_ ?_ ?_ ?_
        · show (if m = ib_nx σ then (t, len) else ib_sh σ m) = _
          rw [if_neg (Nat.ne_of_lt hm)]
        · show ib_z (ib_I σ) (ib_nx σ) 0 m = _
          funext j; unfold ib_z; rw [if_neg (Nat.ne_of_lt hm)]
        · show ib_z (ib_P σ) (ib_nx σ) 0 m = _
          funext j; unfold ib_z; rw [if_neg (Nat.ne_of_lt hm)]
        · show ib_z (ib_L σ) (ib_nx σ) 0 m = _
          funext j; unfold ib_z; rw [if_neg (Nat.ne_of_lt hm)]
      · show ib_z (ib_P σ) (ib_nx σ) 0 m k < ib_nx σ
        unfold ib_z
        rw [if_neg (Nat.ne_of_lt hm)]
        exact o2 m k
  rw [← hw] at hP hD
  have hnx : ib_nx (ib_new σ t len sl) = ib_nx σ + 1 := rfl
  refine ⟨hP, hD, hS, ⟨?_, ?_⟩, ⟨?_, ?_, ?_, ?_⟩, ⟨?_, ?_, ?_⟩, ?_, ?_⟩
  · show cells + 1 + ib_cc σ0 = ib_cc σ + 1
    have := h4.1; omega
  · show slots + sl + ib_sc σ0 = ib_sc σ + sl
    have := h4.2; omega
  · rw [hnx]; omega
  · intro a k
    rw [hnx]
    show ib_z (ib_P σ) (ib_nx σ) 0 a k < ib_nx σ + 1
    unfold ib_z
    split
    · omega
    · exact Nat.lt_succ_of_lt (o2 a k)
  · show (if 1 = ib_nx σ then (t, len) else ib_sh σ 1) = _
    rw [if_neg (by omega)]
    exact o3
  · intro k hk
    show ib_z (ib_I σ) (ib_nx σ) 0 1 k = _
    unfold ib_z
    rw [if_neg (by omega)]
    exact o4 k hk
  · intro k hk
    rw [ib_adn_lt (Nat.lt_of_lt_of_le hk h6.2.1)]
    exact h6.1 k hk
  · rw [hnx]; exact Nat.le_succ_of_le h6.2.1
  · rw [ib_adn_lt (by omega)]; exact h6.2.2
  · exact ib_lr_ad h7 (fun k hk => ib_adn_lt hk) (by rw [hnx]; exact Nat.le_succ _)
  · intro v hv
    rcases List.mem_cons.mp hv with rfl | hv
    · show ib_nx σ < _
      rw [hnx]; exact Nat.lt_succ_self _
    · exact ib_vk_mono (hs v hv) (by rw [hnx]; exact Nat.le_succ _)
theorem ib_mvn {q : Nat} (h2 : 2 ≤ ib_nx σ) (hs : ∀ v ∈ st, ib_vk (ib_nx σ) v) : (Value.ref (ib_nx σ) :: st).map (ib_mv (ib_adn ad (ib_nx σ) q)) = .ref q :: st.map (ib_mv ad) := by
  rw [List.map_cons, ib_mv_ref (by omega), ib_adn_at, ib_mv_map (fun k hk => ib_adn_lt hk) hs]
theorem ib_s_new {a1 a2 a3 a4 : Nat} {x : Nat × ib_Ls × List Value × ib_H} {idx : Nat} (ha : (decide (100 ≤ a1) || (match vwCl[a1]? with | some (C, _, _) => ib_wd a4 (.classLink M.1.cls idx C) | none => false)) = true) (F : ib_F p s m args meth c M D dA base b L xs) (hd : decode M.2.1 pc = .ok (.new idx, 3)) (h : ib_at ib_ks ib_fn (.new idx, a1, a2, a3, a4) pc ls st σ = some (.inl x)) (V : ib_V D dA base L b xs σ0 ad0 s.heap nL σ ad ls st H locs cells slots la) (hR : ib_cc x.2.2.2 ≤ R.cells + ib_cc σ0 ∧ ib_sc x.2.2.2 ≤ R.slots + ib_sc σ0) (K : ib_KK p l e R s m args below meth c Q D dA base L b xs σ0 ad0 nL x) : W p l e R s m args below meth c H locs cells slots Q (F0 m pc la (st.map (ib_mv ad))) := by
  simp only [ib_at] at h
  split at h
  · split at h <;> cases h
  · rename_i h100
    cases h
    simp only [Bool.or_eq_true, decide_eq_true_eq] at ha
    rcases ha with ha | ha
    · exact absurd ha h100
    · split at ha
      · rename_i C T N hc
        obtain ⟨hN, hT, hin, hnm, h50, hin1, hin2⟩ := ib_clsF hc
        have hw := ib_tG_wd ha
        have hty0 : ∀ k, k < N → parseFieldDescriptor (T k).2.2.1 = some ((parseFieldDescriptor (T k).2.2.1).getD .int) := fun k hk => by
          obtain ⟨t, h1, -⟩ := ib_clsT (hT k hk)
          rw [h1]; rfl
        have hc4 := V.2.2.2.1
        have h2 := V.tok.1
        have hR1 : ib_cc σ + 1 ≤ R.cells + ib_cc σ0 := hR.1
        have hR2 : ib_sc σ + ib_fn a1 ≤ R.slots + ib_sc σ0 := hR.2
        refine va_new (D := D) (fs := (List.range (ib_fn a1)).map fun k => if ib_ks a1 k = 2 then .null else .int 0) F.1 F.2.1 F.2.2.2.1 hin _ hty0 F.2.2.2.2.1 (F.2.2.2.1 _ hw) (F.2.2.2.1 _ hin1) (F.2.2.2.1 _ hin2) F.X.1 V.tP V.tD V.tS (fun q hq => Nat.le_trans F.X.2.2.2.1 hq) hc (fun j hj => ?_) (by omega) (by omega) hd (fun q H1 g1 g2 g3 => ?_)
        · obtain ⟨t, h1, -, -, -, -, h3⟩ := ib_clsT (hT j hj)
          rw [h1]
          show defaultValue t = _
          rw [h3]
          unfold vp_V
          rw [List.getD_eq_getElem?_getD, List.getElem?_map, List.getElem?_range (by omega)]
          rfl
        · have hE : ib_e dA (ib_adn ad (ib_nx σ) q) (ib_new σ a1 0 (ib_fn a1)) (ib_nx σ) = .inr (a1, (List.range (ib_fn a1)).map fun k => if ib_ks a1 k = 2 then .null else .int 0) := by
            rw [ib_e_obj (t := a1) (by show (if ib_nx σ = ib_nx σ then (a1, 0) else _).1 = a1; rw [if_pos rfl]) h50]
            congr 2
            apply List.map_congr_left
            intro k _
            show (if ib_ks a1 k = 2 then va_rf (ib_op _ (ib_z (ib_P σ) (ib_nx σ) 0 (ib_nx σ) k)) else .int (ib_z (ib_I σ) (ib_nx σ) 0 (ib_nx σ) k)) = _
            unfold ib_z
            rw [if_pos rfl, if_pos rfl]
            rfl
          rw [← hE] at g1 g2
          have K1 := K _ H1 locs (cells + 1) (slots + ib_fn a1) la (V.tnew g1 g2 g3 V.tvk)
          rw [show (pc + 3, ls, Value.ref (ib_nx σ) :: st, ib_new σ a1 0 (ib_fn a1)).2.2.1 = Value.ref (ib_nx σ) :: st from rfl, ib_mvn h2 V.tvk] at K1
          rw [hN]
          exact K1
      · cases ha
theorem ib_dA_eq {t : Nat} {cA : ClassId} {ty : FieldType} (h1 : ∃ k : Nat, (ib_tys dA)[k]? = some (dA t, ty)) (hK : va_K D vwCl (ib_tys dA ++ [(cA, ty)]) s) (hty : (∃ C, ty = .object C) ∨ ty = .int ∨ ty = .boolean ∨ ty = .long) : cA = dA t := by
  obtain ⟨k, hk⟩ := h1
  have e1 := (hK.2 k (dA t, ty) (by
    rw [List.getElem?_append_left]
    · exact hk
    · exact (List.getElem?_eq_some_iff.mp hk).1)).2
  have e2 := (hK.2 5 (cA, ty) rfl).2
  rcases hty with ⟨C, rfl⟩ | rfl | rfl | rfl
  · obtain ⟨k1, c1, x1, x2, x3, x4⟩ := e1
    obtain ⟨k2, c2, y1, y2, y3, y4⟩ := e2
    exact Option.some.inj (y4.symm.trans x4)
  · exact Option.some.inj (Eq.trans (Eq.symm e2) e1)
  · exact Option.some.inj (Eq.trans (Eq.symm e2) e1)
  · exact Option.some.inj (Eq.trans (Eq.symm e2) e1)
theorem ib_new_sh {t len sl : Nat} : ib_sh (ib_new σ t len sl) (ib_nx σ) = (t, len) := by
  show (if ib_nx σ = ib_nx σ then (t, len) else _) = _
  rw [if_pos rfl]
theorem ib_new_I {t len sl : Nat} : ib_I (ib_new σ t len sl) (ib_nx σ) = fun _ => 0 := by
  funext k
  show ib_z (ib_I σ) (ib_nx σ) 0 (ib_nx σ) k = 0
  unfold ib_z
  rw [if_pos rfl]
theorem ib_new_P {t len sl : Nat} : ib_P (ib_new σ t len sl) (ib_nx σ) = fun _ => 0 := by
  funext k
  show ib_z (ib_P σ) (ib_nx σ) 0 (ib_nx σ) k = 0
  unfold ib_z
  rw [if_pos rfl]
theorem ib_new_L {t len sl : Nat} : ib_L (ib_new σ t len sl) (ib_nx σ) = fun _ => 0 := by
  funext k
  show ib_z (ib_L σ) (ib_nx σ) 0 (ib_nx σ) k = 0
  unfold ib_z
  rw [if_pos rfl]
theorem ib_s_newarray {a1 a2 a3 a4 : Nat} {x : Nat × ib_Ls × List Value × ib_H} {at_ : ArrayType} (ha : (decide (newarray.typeOf at_ = ib_ty a1) && decide (100 ≤ a1) && decide (a1 ≤ 101) && ib_wd a4 (.arrayClass (ib_ty a1))) = true) (F : ib_F p s m args meth c M D dA base b L xs) (hd : decode M.2.1 pc = .ok (.newarray at_, 2)) (h : ib_at ib_ks ib_fn (.newarray at_, a1, a2, a3, a4) pc ls st σ = some (.inl x)) (V : ib_V D dA base L b xs σ0 ad0 s.heap nL σ ad ls st H locs cells slots la) (hR : ib_cc x.2.2.2 ≤ R.cells + ib_cc σ0 ∧ ib_sc x.2.2.2 ≤ R.slots + ib_sc σ0) (K : ib_KK p l e R s m args below meth c Q D dA base L b xs σ0 ad0 nL x) : W p l e R s m args below meth c H locs cells slots Q (F0 m pc la (st.map (ib_mv ad))) := by
  have hv := V.tvk
  simp only [ib_at] at h
  split at h
  · rename_i n r
    split at h
    · cases h
    · rename_i hn
      cases h
      simp only [Bool.and_eq_true, decide_eq_true_eq] at ha
      obtain ⟨⟨⟨hty, h1⟩, h2⟩, hw⟩ := ha
      have hw := ib_tG_wd hw
      have hc4 := V.2.2.2.1
      have hx2 := V.tok.1
      have hR1 : ib_cc σ + 1 ≤ R.cells + ib_cc σ0 := hR.1
      have hR2 : ib_sc σ + n.toNatClampNeg ≤ R.slots + ib_sc σ0 := hR.2
      have hn0 : ¬ n < 0 := fun z => hn (Or.inl z)
      have hnb : n.toNatClampNeg ≤ 1000000 := by
        rcases Nat.lt_or_ge 1000000 n.toNatClampNeg with z | z
        · exact absurd (Or.inr (by omega)) hn
        · exact z
      have hcb : ∀ ty, n.toNatClampNeg * componentBytes ty ≤ 536870912 := by
        intro ty
        have h8 : componentBytes ty ≤ 8 := by cases ty <;> exact Nat.le_of_ble_eq_true rfl
        exact Nat.le_trans (Nat.mul_le_mul hnb h8) (by decide)
      have fin : ∀ (a0 : vp_A) (hE : ∀ q, ib_e dA (ib_adn ad (ib_nx σ) q) (ib_new σ a1 n.toNatClampNeg n.toNatClampNeg) (ib_nx σ) = .inl (dA a1, a0)) (ha0 : ∀ cA : ClassId, vp_cell cA a0 = arrV cA n.toNatClampNeg (fun _ => defaultValue (ib_ty a1))) (hk : ∃ k : Nat, (ib_tys dA)[k]? = some (dA a1, ib_ty a1)) (hty3 : ib_ty a1 = .int ∨ ib_ty a1 = .boolean ∨ ib_ty a1 = .long), W p l e R s m args below meth c H locs cells slots Q (F0 m pc la ((Value.int n :: r).map (ib_mv ad))) := by
        intro a0 hE ha0 hk hty3
        refine va_newa (D := D) (a0 := a0) F.1 F.2.1 (by rw [hty]; exact F.2.2.2.1 _ hw) hty F.X.1 V.tP V.tD V.tS (fun q hq => Nat.le_trans F.X.2.2.2.1 hq) ha0 hn0 rfl (hcb _) (by omega) (by omega) hd (fun q cA H1 gK g1 g2 g3 => ?_)
        have hcA := ib_dA_eq hk gK (Or.inr hty3)
        subst hcA
        rw [← hE q] at g1 g2
        have K1 := K _ H1 locs (cells + 1) (slots + n.toNatClampNeg) la (V.tnew g1 g2 g3 (ib_vkT V.tvk))
        rw [show (pc + 2, ls, Value.ref (ib_nx σ) :: r, ib_new σ a1 n.toNatClampNeg n.toNatClampNeg).2.2.1 = Value.ref (ib_nx σ) :: r from rfl, ib_mvn hx2 (ib_vkT V.tvk)] at K1
        exact K1
      have h3 : a1 = 100 ∨ a1 = 101 := by omega
      rcases h3 with rfl | rfl
      · exact fin (n.toNatClampNeg, .inl fun _ => 0) (fun q => by rw [ib_e_int (t := 100) (by rw [ib_new_sh]) (Or.inl rfl), ib_new_sh, ib_new_I]) (fun cA => rfl) ⟨0, rfl⟩ (Or.inl rfl)
      · exact fin (n.toNatClampNeg, .inl fun _ => 0) (fun q => by rw [ib_e_int (t := 101) (by rw [ib_new_sh]) (Or.inr rfl), ib_new_sh, ib_new_I]) (fun cA => rfl) ⟨1, rfl⟩ (Or.inr (Or.inl rfl))
  · cases h
theorem ib_s_anewarray {a1 a2 a3 a4 : Nat} {x : Nat × ib_Ls × List Value × ib_H} {idx : Nat} (ha : ((decide (a1 = 103) || decide (a1 = 104)) && (match ib_ty a1 with | .object C => ib_wd a4 (.classLink M.1.cls idx C) | _ => false)) = true) (F : ib_F p s m args meth c M D dA base b L xs) (hd : decode M.2.1 pc = .ok (.anewarray idx, 3)) (h : ib_at ib_ks ib_fn (.anewarray idx, a1, a2, a3, a4) pc ls st σ = some (.inl x)) (V : ib_V D dA base L b xs σ0 ad0 s.heap nL σ ad ls st H locs cells slots la) (hR : ib_cc x.2.2.2 ≤ R.cells + ib_cc σ0 ∧ ib_sc x.2.2.2 ≤ R.slots + ib_sc σ0) (K : ib_KK p l e R s m args below meth c Q D dA base L b xs σ0 ad0 nL x) : W p l e R s m args below meth c H locs cells slots Q (F0 m pc la (st.map (ib_mv ad))) := by
  have hv := V.tvk
  simp only [ib_at] at h
  split at h
  · rename_i n r
    split at h
    · cases h
    · rename_i hn
      cases h
      simp only [Bool.and_eq_true, Bool.or_eq_true, decide_eq_true_eq] at ha
      have hc4 := V.2.2.2.1
      have hx2 := V.tok.1
      have hR1 : ib_cc σ + 1 ≤ R.cells + ib_cc σ0 := hR.1
      have hR2 : ib_sc σ + n.toNatClampNeg ≤ R.slots + ib_sc σ0 := hR.2
      have hn0 : ¬ n < 0 := fun z => hn (Or.inl z)
      have hnb : n.toNatClampNeg ≤ 1000000 := by
        rcases Nat.lt_or_ge 1000000 n.toNatClampNeg with z | z
        · exact absurd (Or.inr (by omega)) hn
        · exact z
      have hX := F.X.2.2.2.2.2.2
      have fin : ∀ (C : String) (h3 : 103 ≤ a1) (hw : Cond.classLink M.1.cls idx C ∈ ib_tG) (hov : va_AO C s) (hk : ∃ k : Nat, (ib_tys dA)[k]? = some (dA a1, .object C)), W p l e R s m args below meth c H locs cells slots Q (F0 m pc la ((Value.int n :: r).map (ib_mv ad))) := by
        intro C h3 hw hov hk
        refine va_newq (D := D) F.1 F.2.1 F.2.2.2.2.1 (F.2.2.2.1 _ hw) hov F.X.1 V.tP V.tD V.tS (fun q hq => Nat.le_trans F.X.2.2.2.1 hq) hn0 rfl (by omega) (by omega) (by omega) hd (fun q cA H1 gK g1 g2 g3 => ?_)
        have hcA := ib_dA_eq hk gK (Or.inl ⟨C, rfl⟩)
        subst hcA
        have hE : ib_e dA (ib_adn ad (ib_nx σ) q) (ib_new σ a1 n.toNatClampNeg n.toNatClampNeg) (ib_nx σ) = .inl (dA a1, n.toNatClampNeg, .inr (.inr (.inr (.inr (fun _ => none))))) := by
          rw [ib_e_ref (t := a1) (by rw [ib_new_sh]) h3, ib_new_sh, ib_new_P]
          rfl
        rw [← hE] at g1 g2
        have K1 := K _ H1 locs (cells + 1) (slots + n.toNatClampNeg) la (V.tnew g1 g2 g3 (ib_vkT V.tvk))
        rw [show (pc + 3, ls, Value.ref (ib_nx σ) :: r, ib_new σ a1 n.toNatClampNeg n.toNatClampNeg).2.2.1 = Value.ref (ib_nx σ) :: r from rfl, ib_mvn hx2 (ib_vkT V.tvk)] at K1
        exact K1
      obtain ⟨h3, hw⟩ := ha
      rcases h3 with rfl | rfl
      · exact fin "PageLoom$Page" (by omega) (ib_tG_wd hw) hX.2.2.1 ⟨3, rfl⟩
      · exact fin "PageLoom$LogRecord" (by omega) (ib_tG_wd hw) hX.2.2.2 ⟨4, rfl⟩
  · cases h
end IbN
