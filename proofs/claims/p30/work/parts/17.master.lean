/-- every run of the abstract machine is one of the machine -/
theorem ib_hno : (ib_ms.all fun M => M.2.2.2.2.1.isEmpty) = true := by decide +kernel
theorem ib_hno_at {mi : Nat} {M : ib_M} (hM : ib_Ms mi = some M) : M.2.2.2.2.1 = [] := by
  have h := List.all_eq_true.mp ib_hno M (List.mem_of_getElem? hM)
  exact List.isEmpty_iff.mp h
theorem ib_master {l : Launch} (hl : l.stackTraces = false) : ∀ n, ib_Body l n := by
  intro n
  induction n with
  | zero => intro d mi M pc ls st σ o _ h; cases h
  | succ n ih =>
    intro d mi M pc ls st σ o hM h p e R s m args below meth c D dA base L b xs σ0 ad0 ad H locs cells slots la F hRf hRl hRc hRs V
    obtain ⟨M', q, hM', hq, hcs⟩ := ib_one_inv h
    cases Option.some.inj (hM'.symm.trans hM)
    obtain ⟨i, a1, a2, a3, a4⟩ := q
    have hchk := ib_chk_at hM hq
    have hc4 := V.2.2.2.1
    have hnum := List.all_eq_true.mp ib_asc_all M (List.mem_of_getElem? hM)
    simp only [Bool.and_eq_true, decide_eq_true_eq] at hnum
    rcases hcs with ⟨x, hx, h⟩ | ⟨c9, C, o', hc9, hd0, hC, hck, hr, h⟩ | ⟨v, hv, rfl⟩ | ⟨k, hk, hd6, rfl⟩
    · have hle := ib_run_le n h
      refine ib_s_all hchk (by omega) (by omega) rfl F hx V ⟨?_, ?_⟩ ?_
      · have := hle.2.1; omega
      · have := hle.2.2; omega
      · intro ad' H' locs' cells' slots' la' V'
        exact ih d mi M _ _ _ _ o hM h F hRf hRl hRc hRs V'
    · have hler := ib_run_le n hr
      have hle2 : ib_le o'.2 o.2 := by
        rcases h with ⟨v, -, h⟩ | ⟨k, h9, i9, r9, -, -, -, h⟩ | ⟨k, h9, i9, r9, -, -, -, h⟩ | ⟨k, -, -, rfl⟩
        · exact ib_run_le n h
        · exact ib_run_le n h
        · exact ib_run_le n h
        · exact ib_le.rf
      obtain ⟨kk, hcal⟩ := ib_call_cal hM hq hc9 hC
      have hC20 := List.all_eq_true.mp ib_asc_all C (List.mem_of_getElem? hC)
      simp only [Bool.and_eq_true, decide_eq_true_eq] at hC20
      have hMt := ib_mt_of ih hC hcal hck.1 hck.2.1 hr
      have h1 := hle2.2.1
      have h2 := hle2.2.2
      have h3 := hler.2.1
      have h4 := hler.2.2
      obtain ⟨aa, hrun⟩ := ib_s_run (R := R) hM hq hchk rfl F hc9 V hC hck.2.1 hck.2.2 hC20.2 hMt (by omega) (by omega) hler (by omega) (by omega)
      have hrest : ∀ v ∈ c9.2.2, ib_vk (ib_nx σ) v := by
        rcases ib_at_call hc9 with ⟨-, n9, r9, e1, e2, e3, rfl⟩ | ⟨-, e3, rfl⟩
        · intro v hv
          exact V.tvk v (List.mem_of_mem_drop (i := a2) (by rw [e1]; exact List.mem_cons_of_mem _ hv))
        · intro v hv
          exact V.tvk v (List.mem_of_mem_drop hv)
      refine ib_call_go hrun V hler (by omega) (by omega) hrest (fun v hv => ?_) (fun k ad1 H1 locs1 q9 ce hk hk3 V1 hce hcv hcl => ?_)
      · rcases h with ⟨v', hv', h⟩ | ⟨k, h9, i9, r9, hk, -⟩ | ⟨k, h9, i9, r9, hk, -⟩ | ⟨k, hk, -⟩
        · cases (Sum.inl.inj (hv'.symm.trans hv))
          intro ad' H' locs' cells' slots' la' V'
          exact ih d mi M _ _ _ _ o hM h F hRf hRl hRc hRs V'
        · rw [hk] at hv; cases hv
        · rw [hk] at hv; cases hv
        · rw [hk] at hv; cases hv
      · have hen := F.X.2.2.2.2.2.2
        have hnum1 := V1.2.2.2.1
        have hcatch : ∀ h9 : Nat, ib_hnd ib_ct pc k M.2.2.2.2.1 = some h9 → (∀ hh : Nat, hh = h9 → W p l e R s m args below meth c H1 locs1 (cells + (ib_cc o'.2 - ib_cc σ)) (slots + (ib_sc o'.2 - ib_sc σ)) (vx_MQ below (ib_Qc D dA base b L xs σ0 ad0 o) (ib_XC D dA base b L xs σ0 ad0 o) args s R.cells R.slots (fun q => base ≤ q)) (F0 m hh la [.ref q9])) → vx_W p l e R s m args below meth c H1 locs1 (cells + (ib_cc o'.2 - ib_cc σ)) (slots + (ib_sc o'.2 - ib_sc σ)) (vx_MQ below (ib_Qc D dA base b L xs σ0 ad0 o) (ib_XC D dA base b L xs σ0 ad0 o) args s R.cells R.slots (fun q => base ≤ q)) (F0 m pc la (c9.2.2.map (ib_mv ad))) q9 := by
          intro h9 hh hK
          obtain ⟨pre, x, suf, x1, x2, x3, x4, x5, x6⟩ := ib_hnd_of _ hh
          have hok := List.all_eq_true.mp ib_hok_all M (List.mem_of_getElem? hM)
          unfold ib_hok at hok
          rw [List.all_eq_true] at hok
          have hx := hok x (by rw [x1]; exact List.mem_append_right _ List.mem_cons_self)
          simp only [Bool.and_eq_true, decide_eq_true_eq] at hx
          refine vx_catch F.2.2.2.2.1 (tableOf pre) ⟨x.1, x.2.1, x.2.2.1, x.2.2.2⟩ (tableOf suf) (by rw [F.2.2.2.2.2.2.2.1, x1]; unfold tableOf; rw [List.map_append, List.map_cons]) (fun z hz => ?_) ?_ hx.1.1 (F.2.2.2.1 _ (ib_tG_of hx.2 rfl)) (by rw [x5]; exact va_Nw.use rfl (hen.1 _ (List.mem_filter.mpr ⟨ib_cx k hk3, rfl⟩))) hce hcv hcl (hK _ x4)
          · unfold tableOf at hz
            obtain ⟨y, hy, rfl⟩ := List.mem_map.mp hz
            have hy2 := hok y (by rw [x1]; exact List.mem_append_left _ hy)
            simp only [Bool.and_eq_true, decide_eq_true_eq] at hy2
            rcases x6 y hy with z6 | z6
            · left
              unfold covers
              simp only [Bool.and_eq_false_iff, decide_eq_false_iff_not]
              by_cases z7 : y.1 ≤ pc
              · exact Or.inr fun z8 => z6 ⟨z7, z8⟩
              · exact Or.inl z7
            · right
              exact absurd (x1.symm.trans (ib_hno_at hM)) (by simp)
          · unfold covers
            simp only [Bool.and_eq_true, decide_eq_true_eq]
            exact ⟨x2, x3⟩
        rcases h with ⟨v', hv', h⟩ | ⟨k', h9, i9, r9, hk', hh, hi9, h⟩ | ⟨k', h9, i9, r9, hk', hh, hi9, h⟩ | ⟨k', hk', hemp, rfl⟩
        · rw [hv'] at hk; cases hk
        · cases (Sum.inr.inj (hk'.symm.trans hk))
          refine hcatch h9 hh fun hh e9 => ?_
          subst e9
          have hd9 := ib_chk_at hM hi9
          unfold ib_chk at hd9
          rw [Bool.and_eq_true] at hd9
          have hi := ib_asc_at _ _ _ hnum.1 hi9
          have hi : i9.val < M.2.2.1 := of_decide_eq_true hi
          refine lv_astore_n F.1 F.2.1 (of_decide_eq_true hd9.1) rfl (ib_lr_has V1.tlr) hi rfl (fun la' hl' => ?_)
          exact ih d mi M _ _ [] _ o hM h F hRf hRl hRc hRs (V1.tls (ib_lr_none V1.tlr hl') (fun v hv => by cases hv))
        · cases (Sum.inr.inj (hk'.symm.trans hk))
          refine hcatch h9 hh fun hh e9 => ?_
          subst e9
          have hd9 := ib_chk_at hM hi9
          unfold ib_chk at hd9
          rw [Bool.and_eq_true] at hd9
          have hi := ib_asc_at _ _ _ hnum.1 hi9
          have hi : i9 < M.2.2.1 := of_decide_eq_true hi
          refine lv_astore F.1 F.2.1 (of_decide_eq_true hd9.1) (ib_lr_has V1.tlr) hi rfl (fun la' hl' => ?_)
          exact ih d mi M _ _ [] _ o hM h F hRf hRl hRc hRs (V1.tls (ib_lr_none V1.tlr hl') (fun v hv => by cases hv))
        · cases (Sum.inr.inj (hk'.symm.trans hk))
          have htab : c.exceptionTable.toList = [] := by
            rw [F.2.2.2.2.2.2.2.1, List.isEmpty_iff.mp hemp]; rfl
          refine vx_out (fun x hx => by rw [htab] at hx; cases hx) F.2.2.2.2.2.2.1 hce hcv hcl (fun t ht hA => ⟨k, ad1, rfl, hk3, rfl, V1.tQo ht⟩) V1.tS.2.2 ?_ ?_
          · have : ib_cc (Sum.inr k, o'.2).2 ≤ R.cells + ib_cc σ0 := hRc
            have : ib_cc o'.2 ≤ R.cells + ib_cc σ0 := hRc
            omega
          · have : ib_sc o'.2 ≤ R.slots + ib_sc σ0 := hRs
            omega
    · have h1 : ib_cc σ ≤ R.cells + ib_cc σ0 := hRc
      have h2 : ib_sc σ ≤ R.slots + ib_sc σ0 := hRs
      exact ib_s_ret hchk F hv V (by omega) (by omega)
    · have h1 : ib_cc σ + 1 ≤ R.cells + ib_cc σ0 := hRc
      have h2 : ib_sc σ + 6 ≤ R.slots + ib_sc σ0 := hRs
      exact ib_s_throw hl hM hq rfl F hk V (by omega) (by omega) (by omega) (by omega)
