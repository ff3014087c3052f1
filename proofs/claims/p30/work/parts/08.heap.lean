/-! the heap's instructions -/
theorem ib_ne0 {n : Nat} (h : 2 ≤ n) : n ≠ 0 := by omega
theorem ib_fset {N k : Nat} {G G' : Nat → Value} {v : Value} (hG : ∀ j, G' j = if j = k then v else G j) : ((List.range N).map G).set k v = (List.range N).map G' := by
  apply List.ext_getElem?
  intro i
  rw [List.getElem?_set]
  by_cases hi : i < N
  · simp only [List.getElem?_map, List.getElem?_range hi, Option.map_some, List.length_map, List.length_range]
    by_cases e : k = i
    · subst e; rw [if_pos rfl, if_pos hi, hG, if_pos rfl]
    · rw [if_neg e, hG, if_neg (fun z => e z.symm)]
  · by_cases e : k = i
    · subst e
      rw [if_pos rfl, if_neg (by simpa using hi)]
      exact (List.getElem?_eq_none (by simpa using hi)).symm
    · rw [if_neg e, List.getElem?_eq_none (by simpa using hi), List.getElem?_eq_none (by simpa using hi)]
theorem ib_u_ne {α : Type} {f : Nat → Nat → α} {n k a : Nat} {x : α} (h : a ≠ n) : ib_u f n k x a = f a := by
  funext j
  simp [ib_u, h]
theorem ib_u_at {α : Type} {f : Nat → Nat → α} {n k j : Nat} {x : α} : ib_u f n k x n j = if j = k then x else f n j := by
  simp [ib_u]
theorem ib_e_same {dA : Nat → ClassId} {ad : Nat → Nat} {σ σ' : ib_H} {m : Nat} (h1 : ib_sh σ' m = ib_sh σ m) (h2 : ib_I σ' m = ib_I σ m) (h3 : ib_P σ' m = ib_P σ m) (h4 : ib_L σ' m = ib_L σ m) : ib_e dA ad σ' m = ib_e dA ad σ m := by
  unfold ib_e
  rw [h1, h2, h3, h4]
theorem ib_obj_of {σ : ib_H} {t n : Nat} (h : ib_obj σ t n = true) : 2 ≤ n ∧ n < ib_nx σ ∧ (ib_sh σ n).1 = t ∧ t < 50 := by
  simp only [ib_obj, Bool.and_eq_true, decide_eq_true_eq] at h
  exact ⟨h.1.1.1, h.1.1.2, h.1.2, h.2⟩
theorem ib_in_of {σ : ib_H} {t n : Nat} {i : Int32} (h : ib_in σ t n i = true) : 2 ≤ n ∧ n < ib_nx σ ∧ (ib_sh σ n).1 = t ∧ vp_in i (ib_sh σ n).2 := by
  simp only [ib_in, Bool.and_eq_true, decide_eq_true_eq, Bool.not_eq_true', Bool.or_eq_false_iff, decide_eq_false_iff_not] at h
  refine ⟨h.1.1.1, h.1.1.2, h.1.2, ?_⟩
  unfold vp_in
  intro z
  rcases z with z | z
  · exact h.2.1 z
  · exact h.2.2 z
theorem ib_fok_of {own : String} {idx a1 a2 a4 : Nat} (h : ib_fok own idx a1 a2 a4 = true) : ∃ (C : String) (T : u_T) (N : Nat), vwCl[a1]? = some (C, T, N) ∧ a2 < N ∧ Cond.fieldLink own idx (T a2).1 (T a2).2.1 (T a2).2.2.1 ∈ ib_tG := by
  unfold ib_fok at h
  split at h
  · rename_i C T N hc
    simp only [Bool.and_eq_true, decide_eq_true_eq] at h
    exact ⟨C, T, N, hc, h.1, ib_tG_wd h.2⟩
  · cases h
theorem ib_rf_mv (ad : Nat → Nat) (n : Nat) : ib_mv ad (.ref n) = va_rf (ib_op ad n) := rfl
theorem ib_mv_ref {ad : Nat → Nat} {n : Nat} (h : n ≠ 0) : ib_mv ad (.ref n) = .ref (ad n) := by simp [ib_mv, ib_op, h, va_rf]
theorem ib_mv_null {ad : Nat → Nat} : ib_mv ad (.ref 0) = .null := by simp [ib_mv, ib_op, va_rf]
theorem ib_nar_b {x : Int32} (h : x = 0 ∨ x = 1) : narrow .boolean (.int x) = .int x ∧ fits .boolean (.int x) = true ∧ vp_nar .boolean x = x := by
  rcases h with rfl | rfl <;> exact ⟨by decide +kernel, by decide +kernel, by decide +kernel⟩
section IbH
variable {p : Program} {l : Launch} {e : Env} {R : Room} {s : State} {m : MethodId} {args : Array Value} {below : List Frame} {meth : Method} {c : Code} {Q : State → Prop} {M : ib_M} {D : va_G} {dA : Nat → ClassId} {base L b nL : Nat} {xs : Nat → Int32} {σ0 σ σ' : ib_H} {ad0 ad : Nat → Nat} {ls ls' : ib_Ls} {st st' r : List Value} {H H1 : Heap} {locs locs1 : List Loc} {cells slots pc : Nat} {la la' : Array Slot} {H0 : Heap}
theorem ib_F.X (F : ib_F p s m args meth c M D dA base b L xs) : ib_X D dA base b L xs s := F.2.2.2.2.2.2.2.2.2
theorem ib_V.tP (h : ib_V D dA base L b xs σ0 ad0 H0 nL σ ad ls st H locs cells slots la) : va_P D vwCl (ib_w dA ad σ) H := h.1
theorem ib_V.tD (h : ib_V D dA base L b xs σ0 ad0 H0 nL σ ad ls st H locs cells slots la) : va_D (fun q => base ≤ q) (ib_w dA ad σ) := h.2.1
theorem ib_V.tS (h : ib_V D dA base L b xs σ0 ad0 H0 nL σ ad ls st H locs cells slots la) : va_S (fun q => base ≤ q) H0 H locs := h.2.2.1
theorem ib_V.tok (h : ib_V D dA base L b xs σ0 ad0 H0 nL σ ad ls st H locs cells slots la) : ib_ok L xs σ := h.2.2.2.2.1
theorem ib_ok_I {n k : Nat} {x : Int32} (h : ib_ok L xs σ) (hn : 2 ≤ n) : ib_ok L xs (ib_setI σ n k x) := by
  obtain ⟨h1, h2, h3, h4⟩ := h
  refine ⟨h1, h2, h3, fun j hj => ?_⟩
  have : ib_I (ib_setI σ n k x) 1 = ib_I σ 1 := ib_u_ne (by omega)
  rw [this]
  exact h4 j hj
theorem ib_ok_L {n k : Nat} {x : Int64} (h : ib_ok L xs σ) : ib_ok L xs (ib_setL σ n k x) := h
theorem ib_ok_P {n k x : Nat} (h : ib_ok L xs σ) (hx : x < ib_nx σ) : ib_ok L xs (ib_setP σ n k x) := by
  obtain ⟨h1, h2, h3, h4⟩ := h
  refine ⟨h1, fun a j => ?_, h3, h4⟩
  show ib_u (ib_P σ) n k x a j < ib_nx σ
  unfold ib_u
  split
  · exact hx
  · exact h2 a j
theorem ib_w_I {n k : Nat} {x : Int32} {E : va_E} (h2 : 2 ≤ n) (hn : n < ib_nx σ) (hE : ib_e dA ad (ib_setI σ n k x) n = E) : (ib_w dA ad σ).set (n - 2) (ad n, E) = ib_w dA ad (ib_setI σ n k x) := by
  rw [← hE]
  exact (ib_w_set (σ := σ) (σ' := ib_setI σ n k x) h2 hn rfl (fun m hm => ib_e_same rfl (ib_u_ne hm) rfl rfl)).symm
theorem ib_w_P {n k x : Nat} {E : va_E} (h2 : 2 ≤ n) (hn : n < ib_nx σ) (hE : ib_e dA ad (ib_setP σ n k x) n = E) : (ib_w dA ad σ).set (n - 2) (ad n, E) = ib_w dA ad (ib_setP σ n k x) := by
  rw [← hE]
  exact (ib_w_set (σ := σ) (σ' := ib_setP σ n k x) h2 hn rfl (fun m hm => ib_e_same rfl rfl (ib_u_ne hm) rfl)).symm
theorem ib_w_L {n k : Nat} {x : Int64} {E : va_E} (h2 : 2 ≤ n) (hn : n < ib_nx σ) (hE : ib_e dA ad (ib_setL σ n k x) n = E) : (ib_w dA ad σ).set (n - 2) (ad n, E) = ib_w dA ad (ib_setL σ n k x) := by
  rw [← hE]
  exact (ib_w_set (σ := σ) (σ' := ib_setL σ n k x) h2 hn rfl (fun m hm => ib_e_same rfl rfl rfl (ib_u_ne hm))).symm
theorem ib_s_getfield {a1 a2 a3 a4 : Nat} {x : Nat × ib_Ls × List Value × ib_H} {idx : Nat} (hf : ib_fok M.1.cls idx a1 a2 a4 = true) (F : ib_F p s m args meth c M D dA base b L xs) (hd : decode M.2.1 pc = .ok (.getfield idx, 3)) (h : ib_at ib_ks ib_fn (.getfield idx, a1, a2, a3, a4) pc ls st σ = some (.inl x)) (V : ib_V D dA base L b xs σ0 ad0 s.heap nL σ ad ls st H locs cells slots la) (K : ib_KK p l e R s m args below meth c Q D dA base L b xs σ0 ad0 nL x) : W p l e R s m args below meth c H locs cells slots Q (F0 m pc la (st.map (ib_mv ad))) := by
  have hv := V.tvk
  obtain ⟨C, T, N, hc, hk, hw⟩ := ib_fok_of hf
  obtain ⟨hN, hT, hin, hnm, h50, -, -⟩ := ib_clsF hc
  simp only [ib_at] at h
  split at h
  · rename_i n r
    split at h
    · rename_i ho
      cases h
      obtain ⟨h2, hn, ht, -⟩ := ib_obj_of ho
      have he := ib_w_at (dA := dA) (ad := ad) h2 hn
      rw [ib_e_obj ht h50] at he
      rw [List.map_cons, ib_mv_ref (by omega)]
      have hfv : ((List.range (ib_fn a1)).map fun k => if ib_ks a1 k = 2 then va_rf (ib_op ad (ib_P σ n k)) else .int (ib_I σ n k))[a2]? = some (if ib_ks a1 a2 = 2 then va_rf (ib_op ad (ib_P σ n a2)) else .int (ib_I σ n a2)) := by
        rw [List.getElem?_map, List.getElem?_range (by omega)]
        rfl
      have K1 := K ad H locs cells slots la (V.tst (ib_vkC (by
        split
        · exact V.tok.2.1 n a2
        · exact trivial) (ib_vkT hv)))
      refine va_get (D := D) F.1 F.2.1 F.2.2.2.1 hin F.2.2.2.2.1 F.X.1 V.tP (n - 2) he hc a2 hk (F.2.2.2.1 _ hw) (fun _ h9 => h9) hfv hd ?_
      have e : ib_mv ad (if ib_ks a1 a2 = 2 then .ref (ib_P σ n a2) else .int (ib_I σ n a2)) = (if ib_ks a1 a2 = 2 then va_rf (ib_op ad (ib_P σ n a2)) else .int (ib_I σ n a2)) := by
        split <;> rfl
      rw [List.map_cons, e] at K1
      exact K1
    · cases h
  · cases h
theorem ib_s_put {C : String} {T : u_T} {N a1 a2 idx n : Nat} {v : Value} {σ' : ib_H} (F : ib_F p s m args meth c M D dA base b L xs) (hd : decode M.2.1 pc = .ok (.putfield idx, 3)) (V : ib_V D dA base L b xs σ0 ad0 s.heap nL σ ad ls st H locs cells slots la)
    (hc : vwCl[a1]? = some (C, T, N)) (hk : a2 < N) (hw : Cond.fieldLink M.1.cls idx (T a2).1 (T a2).2.1 (T a2).2.2.1 ∈ ib_tG) (hp : ib_pok M.1.cls M.1.name a1 a2 = true) (ho : ib_obj σ a1 n = true) {ty : FieldType} (hty : parseFieldDescriptor (T a2).2.2.1 = some ty) (hnar : narrow ty (ib_mv ad v) = ib_mv ad v) (hfit : fits ty (ib_mv ad v) = true)
    (hws : (ib_w dA ad σ).set (n - 2) (ad n, .inr (a1, ((List.range (ib_fn a1)).map fun k => if ib_ks a1 k = 2 then va_rf (ib_op ad (ib_P σ n k)) else .int (ib_I σ n k)).set a2 (ib_mv ad v))) = ib_w dA ad σ') (hx : σ'.1 = σ.1) (hok : ib_ok L xs σ') (hs : ∀ v ∈ r, ib_vk (ib_nx σ) v)
    (K : ib_KK p l e R s m args below meth c Q D dA base L b xs σ0 ad0 nL (pc + 3, ls, r, σ')) : W p l e R s m args below meth c H locs cells slots Q (F0 m pc la (ib_mv ad v :: .ref (ad n) :: r.map (ib_mv ad))) := by
  obtain ⟨hN, hT, hin, hnm, h50, -, -⟩ := ib_clsF hc
  obtain ⟨h2, hn, ht, -⟩ := ib_obj_of ho
  have he := ib_w_at (dA := dA) (ad := ad) h2 hn
  rw [ib_e_obj ht h50] at he
  have hty0 : ∀ k, k < N → parseFieldDescriptor (T k).2.2.1 = some ((parseFieldDescriptor (T k).2.2.1).getD .int) := fun k hk => by
    obtain ⟨t, h1, -⟩ := ib_clsT (hT k hk)
    rw [h1]; rfl
  have kk : ∀ (H1 : Heap) (locs1 : List Loc), va_P D vwCl ((ib_w dA ad σ).set (n - 2) (ad n, .inr (a1, ((List.range (ib_fn a1)).map fun k => if ib_ks a1 k = 2 then va_rf (ib_op ad (ib_P σ n k)) else .int (ib_I σ n k)).set a2 (ib_mv ad v)))) H1 → va_D (fun q => base ≤ q) ((ib_w dA ad σ).set (n - 2) (ad n, .inr (a1, ((List.range (ib_fn a1)).map fun k => if ib_ks a1 k = 2 then va_rf (ib_op ad (ib_P σ n k)) else .int (ib_I σ n k)).set a2 (ib_mv ad v)))) → va_S (fun q => base ≤ q) s.heap H1 locs1 → W p l e R s m args below meth c H1 locs1 cells slots Q (F0 m (pc + 3) la (r.map (ib_mv ad))) := fun H1 locs1 g1 g2 g3 => by
    rw [hws] at g1 g2
    exact K ad H1 locs1 cells slots la (V.twr g1 g2 g3 hx hok hs)
  have hlen : a2 < ((List.range (ib_fn a1)).map fun k => if ib_ks a1 k = 2 then va_rf (ib_op ad (ib_P σ n k)) else .int (ib_I σ n k)).length := by
    rw [List.length_map, List.length_range]; omega
  unfold ib_pok at hp
  rw [hc] at hp
  by_cases hfin : (T a2).2.2.2 = true
  · simp only [hfin, Bool.not_true, Bool.false_or, Bool.and_eq_true, decide_eq_true_eq] at hp
    exact va_putF (D := D) F.1 F.2.1 F.2.2.2.1 hin _ hty0 hnm F.2.2.2.2.1 F.X.1 V.tP V.tD V.tS (n - 2) he hc a2 hk (F.2.2.2.1 _ hw) (fun _ h9 => h9) hfin (by rw [F.2.2.2.2.2.2.2.2.1]; exact hp.1) hp.2 hty hnar hfit hlen hd kk
  · exact va_put (D := D) F.1 F.2.1 F.2.2.2.1 hin _ hty0 hnm F.2.2.2.2.1 F.X.1 V.tP V.tD V.tS (n - 2) he hc a2 hk (F.2.2.2.1 _ hw) (fun _ h9 => h9) (by simpa using hfin) hty hnar hfit hlen hd kk
theorem ib_s_putfield {a1 a2 a3 a4 : Nat} {x : Nat × ib_Ls × List Value × ib_H} {idx : Nat} (hf : ib_fok M.1.cls idx a1 a2 a4 = true) (hp : ib_pok M.1.cls M.1.name a1 a2 = true) (F : ib_F p s m args meth c M D dA base b L xs) (hd : decode M.2.1 pc = .ok (.putfield idx, 3)) (h : ib_at ib_ks ib_fn (.putfield idx, a1, a2, a3, a4) pc ls st σ = some (.inl x)) (V : ib_V D dA base L b xs σ0 ad0 s.heap nL σ ad ls st H locs cells slots la) (K : ib_KK p l e R s m args below meth c Q D dA base L b xs σ0 ad0 nL x) : W p l e R s m args below meth c H locs cells slots Q (F0 m pc la (st.map (ib_mv ad))) := by
  have hv := V.tvk
  obtain ⟨C, T, N, hc, hk, hw⟩ := ib_fok_of hf
  obtain ⟨hN, hT, hin, hnm, h50, -, -⟩ := ib_clsF hc
  obtain ⟨ty, hty, t0, t1, t2, -, -⟩ := ib_clsT (hT a2 hk)
  simp only [ib_at] at h
  split at h
  · rename_i y n r
    split at h
    · rename_i ho
      cases h
      simp only [Bool.and_eq_true, Bool.or_eq_true, decide_eq_true_eq] at ho
      obtain ⟨ho, hz⟩ := ho
      obtain ⟨h2, hn, ht, -⟩ := ib_obj_of ho
      rw [List.map_cons, List.map_cons, ib_mv_ref (n := n) (by omega)]
      have hks : ib_ks a1 a2 ≠ 2 := by omega
      have hnf : narrow ty (ib_mv ad (.int y)) = ib_mv ad (.int y) ∧ fits ty (ib_mv ad (.int y)) = true := by
        rcases hz with hz | ⟨hz, hy⟩
        · rw [t0 hz]; exact ⟨rfl, rfl⟩
        · rw [t1 hz]; exact ⟨(ib_nar_b hy).1, (ib_nar_b hy).2.1⟩
      refine ib_s_put (σ' := ib_setI σ n a2 y) F hd V hc hk hw hp ho hty hnf.1 hnf.2 ?_ rfl (ib_ok_I V.tok h2) (ib_vkT (ib_vkT hv)) K
      refine ib_w_I h2 hn ?_
      rw [ib_e_obj (σ := ib_setI σ n a2 y) (t := a1) ht h50]
      congr 2
      refine (ib_fset (fun j => ?_)).symm
      show (if ib_ks a1 j = 2 then va_rf (ib_op ad (ib_P σ n j)) else .int (ib_u (ib_I σ) n a2 y n j)) = _
      rw [ib_u_at]
      by_cases e : j = a2
      · subst e; rw [if_neg hks, if_pos rfl, if_pos rfl]; rfl
      · rw [if_neg e, if_neg e]
    · cases h
  · rename_i y n r
    split at h
    · rename_i ho
      cases h
      simp only [Bool.and_eq_true, decide_eq_true_eq] at ho
      obtain ⟨⟨ho, hz⟩, -⟩ := ho
      obtain ⟨h2, hn, ht, -⟩ := ib_obj_of ho
      rw [List.map_cons, List.map_cons, ib_mv_ref (n := n) (by omega)]
      have hnf : narrow ty (ib_mv ad (.ref y)) = ib_mv ad (.ref y) ∧ fits ty (ib_mv ad (.ref y)) = true := by
        rw [ib_rf_mv]
        rcases va_rf_or (ib_op ad y) with e | ⟨a, e⟩ <;> rw [e] <;> rcases t2 hz with ⟨z, rfl⟩ | ⟨z, rfl⟩ <;> exact ⟨rfl, rfl⟩
      refine ib_s_put (σ' := ib_setP σ n a2 y) F hd V hc hk hw hp ho hty hnf.1 hnf.2 ?_ rfl (ib_ok_P V.tok (hv _ List.mem_cons_self)) (ib_vkT (ib_vkT hv)) K
      refine ib_w_P h2 hn ?_
      rw [ib_e_obj (σ := ib_setP σ n a2 y) (t := a1) ht h50]
      congr 2
      refine (ib_fset (fun j => ?_)).symm
      show (if ib_ks a1 j = 2 then va_rf (ib_op ad (ib_u (ib_P σ) n a2 y n j)) else .int (ib_I σ n j)) = _
      rw [ib_u_at]
      by_cases e : j = a2
      · subst e; rw [if_pos hz, if_pos rfl, if_pos rfl]; rfl
      · rw [if_neg e, if_neg e]
    · cases h
  · cases h
theorem ib_s_iaload {a1 a2 a3 a4 : Nat} {x : Nat × ib_Ls × List Value × ib_H} (F : ib_F p s m args meth c M D dA base b L xs) (hd : decode M.2.1 pc = .ok (.iaload, 1)) (h : ib_at ib_ks ib_fn (.iaload, a1, a2, a3, a4) pc ls st σ = some (.inl x)) (V : ib_V D dA base L b xs σ0 ad0 s.heap nL σ ad ls st H locs cells slots la) (K : ib_KK p l e R s m args below meth c Q D dA base L b xs σ0 ad0 nL x) : W p l e R s m args below meth c H locs cells slots Q (F0 m pc la (st.map (ib_mv ad))) := by
  have hv := V.tvk
  simp only [ib_at] at h
  split at h
  · rename_i i n r
    split at h
    · rename_i e1
      split at h
      · cases h
      · rename_i hin
        cases h
        have hok := V.tok
        subst e1
        rw [List.map_cons, List.map_cons, ib_mv_ref (by omega), V.2.2.2.2.2.1.2.2]
        have hin2 : vp_in i L := by unfold vp_in; rw [hok.2.2.1] at hin; exact hin
        have hlt : i.toNatClampNeg < L := by
          rcases Nat.lt_or_ge i.toNatClampNeg L with z | z
          · exact z
          · exact absurd (Or.inr z) hin2
        have hX := F.X
        have K1 := K ad H locs cells slots la (V.tst (ib_vkC trivial (ib_vkT (ib_vkT hv))))
        rw [List.map_cons, hok.2.2.2 _ hlt] at K1
        exact va_sld F.1 F.2.1 hX.2.1 (by have := hX.2.2.1; have := hX.2.2.2.1; omega) (by have := hX.2.2.1; show ¬ base ≤ b; omega) V.tS hin2 hd K1
    · split at h
      · rename_i hin
        cases h
        obtain ⟨h2, hn, ht, hi⟩ := ib_in_of hin
        have he := ib_w_at (dA := dA) (ad := ad) h2 hn
        rw [ib_e_int ht (Or.inl rfl)] at he
        rw [List.map_cons, List.map_cons, ib_mv_ref (n := n) (by omega)]
        exact va_iald (D := D) F.1 F.2.1 F.X.1 V.tP (n - 2) 0 he rfl hi hd (K ad H locs cells slots la (V.tst (ib_vkC trivial (ib_vkT (ib_vkT hv)))))
      · cases h
  · cases h
theorem ib_s_iastore {a1 a2 a3 a4 : Nat} {x : Nat × ib_Ls × List Value × ib_H} (F : ib_F p s m args meth c M D dA base b L xs) (hd : decode M.2.1 pc = .ok (.iastore, 1)) (h : ib_at ib_ks ib_fn (.iastore, a1, a2, a3, a4) pc ls st σ = some (.inl x)) (V : ib_V D dA base L b xs σ0 ad0 s.heap nL σ ad ls st H locs cells slots la) (K : ib_KK p l e R s m args below meth c Q D dA base L b xs σ0 ad0 nL x) : W p l e R s m args below meth c H locs cells slots Q (F0 m pc la (st.map (ib_mv ad))) := by
  have hv := V.tvk
  simp only [ib_at] at h
  split at h
  · rename_i y i n r
    split at h
    · rename_i hin
      cases h
      obtain ⟨h2, hn, ht, hi⟩ := ib_in_of hin
      have he := ib_w_at (dA := dA) (ad := ad) h2 hn
      rw [ib_e_int ht (Or.inl rfl)] at he
      rw [List.map_cons, List.map_cons, List.map_cons, ib_mv_ref (n := n) (by omega)]
      refine va_iast (D := D) F.1 F.2.1 F.X.1 V.tP V.tD V.tS (n - 2) 0 he rfl hi hd (fun H1 locs1 g1 g2 g3 => ?_)
      rw [ib_w_I (k := i.toNatClampNeg) (x := y) h2 hn (by rw [ib_e_int (σ := ib_setI σ n i.toNatClampNeg y) (t := 100) ht (Or.inl rfl)]; congr 4; funext j; exact ib_u_at)] at g1 g2
      exact K ad H1 locs1 cells slots la (V.twr g1 g2 g3 rfl (ib_ok_I V.tok h2) (ib_vkT (ib_vkT (ib_vkT hv))))
    · cases h
  · cases h
theorem ib_s_baload {a1 a2 a3 a4 : Nat} {x : Nat × ib_Ls × List Value × ib_H} (F : ib_F p s m args meth c M D dA base b L xs) (hd : decode M.2.1 pc = .ok (.baload, 1)) (h : ib_at ib_ks ib_fn (.baload, a1, a2, a3, a4) pc ls st σ = some (.inl x)) (V : ib_V D dA base L b xs σ0 ad0 s.heap nL σ ad ls st H locs cells slots la) (K : ib_KK p l e R s m args below meth c Q D dA base L b xs σ0 ad0 nL x) : W p l e R s m args below meth c H locs cells slots Q (F0 m pc la (st.map (ib_mv ad))) := by
  have hv := V.tvk
  simp only [ib_at] at h
  split at h
  · rename_i i n r
    split at h
    · rename_i hin
      cases h
      obtain ⟨h2, hn, ht, hi⟩ := ib_in_of hin
      have he := ib_w_at (dA := dA) (ad := ad) h2 hn
      rw [ib_e_int ht (Or.inr rfl)] at he
      rw [List.map_cons, List.map_cons, ib_mv_ref (n := n) (by omega)]
      exact va_zald (D := D) F.1 F.2.1 F.X.1 V.tP (n - 2) 1 he rfl hi hd (K ad H locs cells slots la (V.tst (ib_vkC trivial (ib_vkT (ib_vkT hv)))))
    · cases h
  · cases h
theorem ib_s_bastore {a1 a2 a3 a4 : Nat} {x : Nat × ib_Ls × List Value × ib_H} (F : ib_F p s m args meth c M D dA base b L xs) (hd : decode M.2.1 pc = .ok (.bastore, 1)) (h : ib_at ib_ks ib_fn (.bastore, a1, a2, a3, a4) pc ls st σ = some (.inl x)) (V : ib_V D dA base L b xs σ0 ad0 s.heap nL σ ad ls st H locs cells slots la) (K : ib_KK p l e R s m args below meth c Q D dA base L b xs σ0 ad0 nL x) : W p l e R s m args below meth c H locs cells slots Q (F0 m pc la (st.map (ib_mv ad))) := by
  have hv := V.tvk
  simp only [ib_at] at h
  split at h
  · rename_i y i n r
    split at h
    · rename_i hin
      cases h
      simp only [Bool.and_eq_true, Bool.or_eq_true, decide_eq_true_eq] at hin
      obtain ⟨hin, hy⟩ := hin
      obtain ⟨h2, hn, ht, hi⟩ := ib_in_of hin
      have he := ib_w_at (dA := dA) (ad := ad) h2 hn
      rw [ib_e_int ht (Or.inr rfl)] at he
      rw [List.map_cons, List.map_cons, List.map_cons, ib_mv_ref (n := n) (by omega)]
      refine va_zast (D := D) F.1 F.2.1 F.X.1 V.tP V.tD V.tS (n - 2) 1 he rfl hi hd (fun H1 locs1 g1 g2 g3 => ?_)
      rw [(ib_nar_b hy).2.2, ib_w_I (k := i.toNatClampNeg) (x := y) h2 hn (by rw [ib_e_int (σ := ib_setI σ n i.toNatClampNeg y) (t := 101) ht (Or.inr rfl)]; congr 4; funext j; exact ib_u_at)] at g1 g2
      exact K ad H1 locs1 cells slots la (V.twr g1 g2 g3 rfl (ib_ok_I V.tok h2) (ib_vkT (ib_vkT (ib_vkT hv))))
    · cases h
  · cases h
theorem ib_s_aaload {a1 a2 a3 a4 : Nat} {x : Nat × ib_Ls × List Value × ib_H} (F : ib_F p s m args meth c M D dA base b L xs) (hd : decode M.2.1 pc = .ok (.aaload, 1)) (h : ib_at ib_ks ib_fn (.aaload, a1, a2, a3, a4) pc ls st σ = some (.inl x)) (V : ib_V D dA base L b xs σ0 ad0 s.heap nL σ ad ls st H locs cells slots la) (K : ib_KK p l e R s m args below meth c Q D dA base L b xs σ0 ad0 nL x) : W p l e R s m args below meth c H locs cells slots Q (F0 m pc la (st.map (ib_mv ad))) := by
  have hv := V.tvk
  simp only [ib_at] at h
  split at h
  · rename_i i n r
    split at h
    · rename_i hin
      cases h
      simp only [Bool.or_eq_true] at hin
      have hh : ∃ t t0 : Nat, 103 ≤ t ∧ ib_in σ t n i = true ∧ ∃ C, (ib_tys dA)[t0]? = some (dA t, .object C) := by
        rcases hin with z | z
        · exact ⟨103, 3, by omega, z, _, rfl⟩
        · exact ⟨104, 4, by omega, z, _, rfl⟩
      obtain ⟨t, t0, h3, hin, C, hty⟩ := hh
      obtain ⟨h2, hn, ht, hi⟩ := ib_in_of hin
      have he := ib_w_at (dA := dA) (ad := ad) h2 hn
      rw [ib_e_ref ht h3] at he
      rw [List.map_cons, List.map_cons, ib_mv_ref (n := n) (by omega)]
      exact va_aldq (D := D) F.1 F.2.1 F.X.1 V.tP (n - 2) t0 he hty hi hd (K ad H locs cells slots la (V.tst (ib_vkC (V.tok.2.1 _ _) (ib_vkT (ib_vkT hv)))))
    · cases h
  · cases h
theorem ib_s_aastore {a1 a2 a3 a4 : Nat} {x : Nat × ib_Ls × List Value × ib_H} (F : ib_F p s m args meth c M D dA base b L xs) (hd : decode M.2.1 pc = .ok (.aastore, 1)) (h : ib_at ib_ks ib_fn (.aastore, a1, a2, a3, a4) pc ls st σ = some (.inl x)) (V : ib_V D dA base L b xs σ0 ad0 s.heap nL σ ad ls st H locs cells slots la) (K : ib_KK p l e R s m args below meth c Q D dA base L b xs σ0 ad0 nL x) : W p l e R s m args below meth c H locs cells slots Q (F0 m pc la (st.map (ib_mv ad))) := by
  have hv := V.tvk
  simp only [ib_at] at h
  split at h
  · rename_i y i n r
    split at h
    · rename_i hin
      cases h
      simp only [Bool.or_eq_true, Bool.and_eq_true, decide_eq_true_eq] at hin
      have hh : ∃ t t0 ci : Nat, 103 ≤ t ∧ ib_in σ t n i = true ∧ (y = 0 ∨ ib_obj σ ci y = true) ∧ ∃ q : vw_C, vwCl[ci]? = some q ∧ (ib_tys dA)[t0]? = some (dA t, .object q.1) := by
        rcases hin with z | z
        · exact ⟨103, 3, 4, by omega, z.1, z.2, _, rfl, rfl⟩
        · exact ⟨104, 4, 3, by omega, z.1, z.2, _, rfl, rfl⟩
      obtain ⟨t, t0, ci, h3, hin, hy, q, hq, hty⟩ := hh
      obtain ⟨h2, hn, ht, hi⟩ := ib_in_of hin
      have he := ib_w_at (dA := dA) (ad := ad) h2 hn
      rw [ib_e_ref ht h3] at he
      have hyv := hv _ List.mem_cons_self
      rw [List.map_cons, List.map_cons, List.map_cons, ib_mv_ref (n := n) (by omega)]
      have hset : ∀ v : Option Nat, v = ib_op ad y → (ib_w dA ad σ).set (n - 2) (ad n, .inl (dA t, (ib_sh σ n).2, .inr (.inr (.inr (.inr (va_up (fun k => ib_op ad (ib_P σ n k)) i.toNatClampNeg v)))))) = ib_w dA ad (ib_setP σ n i.toNatClampNeg y) := by
        intro v hvv
        refine ib_w_P h2 hn ?_
        rw [ib_e_ref (σ := ib_setP σ n i.toNatClampNeg y) (t := t) ht h3]
        rw [show ib_P (ib_setP σ n i.toNatClampNeg y) n = fun j => if j = i.toNatClampNeg then y else ib_P σ n j from funext fun j => ib_u_at]
        show Sum.inl (dA t, (ib_sh σ n).2, _) = Sum.inl (dA t, (ib_sh σ n).2, _)
        congr 7
        funext j
        show ib_op ad (if j = i.toNatClampNeg then y else ib_P σ n j) = va_up _ _ _ j

        unfold va_up
        by_cases e : j = i.toNatClampNeg
        · rw [if_pos e, if_pos e, hvv]
        · rw [if_neg e, if_neg e]
      rcases hy with rfl | hy
      · rw [ib_mv_null]
        refine va_astqN (D := D) F.1 F.2.1 F.X.1 V.tP V.tD V.tS (n - 2) t0 he hty hi hd (fun H1 locs1 g1 g2 g3 => ?_)
        rw [hset none rfl] at g1 g2
        exact K ad H1 locs1 cells slots la (V.twr g1 g2 g3 rfl (ib_ok_P V.tok hyv) (ib_vkT (ib_vkT (ib_vkT hv))))
      · obtain ⟨y2, yn, yt, y50⟩ := ib_obj_of hy
        have hey := ib_w_at (dA := dA) (ad := ad) y2 yn
        rw [ib_e_obj yt y50] at hey
        rw [ib_mv_ref (n := y) (by omega)]
        refine va_astq (D := D) F.1 F.2.1 F.X.1 V.tP V.tD V.tS (n - 2) t0 (y - 2) ci he hty hey hq hi hd (fun H1 locs1 g1 g2 g3 => ?_)
        rw [hset (some (ad y)) (by simp [ib_op, ib_ne0 y2])] at g1 g2
        exact K ad H1 locs1 cells slots la (V.twr g1 g2 g3 rfl (ib_ok_P V.tok hyv) (ib_vkT (ib_vkT (ib_vkT hv))))
    · cases h
  · cases h
theorem ib_s_alen {a1 a2 a3 a4 : Nat} {x : Nat × ib_Ls × List Value × ib_H} (F : ib_F p s m args meth c M D dA base b L xs) (hd : decode M.2.1 pc = .ok (.arraylength, 1)) (h : ib_at ib_ks ib_fn (.arraylength, a1, a2, a3, a4) pc ls st σ = some (.inl x)) (V : ib_V D dA base L b xs σ0 ad0 s.heap nL σ ad ls st H locs cells slots la) (K : ib_KK p l e R s m args below meth c Q D dA base L b xs σ0 ad0 nL x) : W p l e R s m args below meth c H locs cells slots Q (F0 m pc la (st.map (ib_mv ad))) := by
  have hv := V.tvk
  simp only [ib_at] at h
  split at h
  · rename_i n r
    split at h
    · rename_i e1
      cases h
      have hok := V.tok
      subst e1
      rw [List.map_cons, ib_mv_ref (by omega), V.2.2.2.2.2.1.2.2]
      have hX := F.X
      have K1 := K ad H locs cells slots la (V.tst (ib_vkC trivial (ib_vkT hv)))
      rw [List.map_cons, hok.2.2.1] at K1
      exact va_slen F.1 F.2.1 hX.2.1 (by have := hX.2.2.1; have := hX.2.2.2.1; omega) (by have := hX.2.2.1; show ¬ base ≤ b; omega) V.tS hd K1
    · split at h
      · rename_i hin
        cases h
        simp only [Bool.and_eq_true, decide_eq_true_eq] at hin
        obtain ⟨⟨⟨h2, hn⟩, hta⟩, htb⟩ := hin
        have he := ib_w_at (dA := dA) (ad := ad) h2 hn
        rw [List.map_cons, ib_mv_ref (n := n) (ib_ne0 h2)]
        have K1 := K ad H locs cells slots la (V.tst (ib_vkC trivial (ib_vkT hv)))
        have hh : ∃ (t0 : Nat) (cA : ClassId) (y : vp_A) (ty : FieldType), ib_e dA ad σ n = .inl (cA, y) ∧ (ib_tys dA)[t0]? = some (cA, ty) ∧ y.1 = (ib_sh σ n).2 := by
          have h5 : (ib_sh σ n).1 = 100 ∨ (ib_sh σ n).1 = 101 ∨ (ib_sh σ n).1 = 102 ∨ (ib_sh σ n).1 = 103 ∨ (ib_sh σ n).1 = 104 := by omega
          rcases h5 with z | z | z | z | z
          · exact ⟨0, _, _, _, ib_e_int z (Or.inl rfl), rfl, rfl⟩
          · exact ⟨1, _, _, _, ib_e_int z (Or.inr rfl), rfl, rfl⟩
          · exact ⟨2, _, _, _, ib_e_long z, rfl, rfl⟩
          · exact ⟨3, _, _, _, ib_e_ref z (by omega), rfl, rfl⟩
          · exact ⟨4, _, _, _, ib_e_ref z (by omega), rfl, rfl⟩
        obtain ⟨t0, cA, y, ty, hy, hty, hlen⟩ := hh
        rw [hy] at he
        exact va_alen (D := D) F.1 F.2.1 F.X.1 V.tP (n - 2) t0 he hty (by rw [hlen]) hd K1
      · cases h
  · cases h
end IbH
