/-! the law's loop and its beginning: written by wip/tools/gen53.py -/
def jl_c (xs : Nat → Int32) (i : Int) : Int := (xs i.toNat &&& Int32.ofInt 31).toInt
def jl_step (c a b e : Int) (K : jc_K) (G : jg_G) : Option (jc_K × jg_G) := if c = 0 then js0 K G a b e else if c = 1 then js1 K G a b e else if c = 2 then js2 K G a b e else if c = 3 then js3 K G a b e else if c = 4 then js4 K G a b e else if c = 5 then js5 K G a b e else if c = 6 then js6 K G a b e else if c = 7 then js7 K G a b e else if c = 8 then js8 K G a b e else if c = 9 then js9 K G a b e else if c = 10 then js10 K G a b e else if c = 11 then js11 K G a b e else if c = 12 then js12 K G a b e else if c = 13 then js13 K G a b e else if c = 14 then js14 K G a b e else if c = 15 then js15 K G a b e else if c = 16 then js16 K G a b e else if c = 17 then js17 K G a b e else if c = 18 then js18 K G a b e else if c = 19 then js19 K G a b e else if c = 20 then js20 K G a b e else if c = 21 then js21 K G a b e else if c = 22 then js22 K G a b e else if c = 23 then js23 K G a b e else if c = 24 then js24 K G a b e else if c = 25 then js25 K G a b e else if c = 26 then js26 K G a b e else some (K, G)
def jl_runs (xs : Nat → Int32) (L : Int) : Nat → Int → jc_K → jg_G → Option (jc_K × jg_G)
  | 0, _, _, _ => none
  | m + 1, i, K, G => if L - 4 < i then some (K, G) else (jl_step (jl_c xs i) (jl_x xs (i + 1)) (jl_x xs (i + 2)) (jl_x xs (i + 3)) K G).bind fun r => jl_runs xs L m (i + 4) r.1 r.2
theorem jl_sw {d : Nat} {L : Nat} {xs : Nat → Int32} {K : jc_K} {G : jg_G} {o i : Int} {o5 o6 : Option Value} {σ : ib_H} {Q : ib_O → Prop} {r : jc_K × jg_G} {c : Int} (hc : jb_r c) (s : jl_S L xs K G o σ) (h0 : 0 ≤ i) (h1 : i + 4 ≤ L) (hL : L ≤ 2048) (hs : jl_step c (jl_x xs (i + 1)) (jl_x xs (i + 2)) (jl_x xs (i + 3)) K G = some r) (k : ∀ σ' o' o5 o6, jl_S L xs r.1 r.2 o' σ' → jb_w (d + 15) 251 23 [some (.ref 1), some (.ref 2), some (.ref 92), some (.ref 119), some (jb_v (i + 4)), o5, o6] [] σ' Q) : jb_w (d + 15) 251 39 [some (.ref 1), some (.ref 2), some (.ref 92), some (.ref 119), some (jb_v i), o5, o6] [jb_v c] σ Q := by
  unfold jl_step at hs
  by_cases c0 : c = 0
  · refine jw_swK (o := 121) (p := 160) 0 jM251 jq251_39 hc (by rw [c0]; rfl) (by rw [c0]; decide) rfl rfl ?_
    exact jlc0 s h0 h1 hL (jo_p c0 hs) k
  have hs := jo_n c0 hs
  by_cases c1 : c = 1
  · refine jw_swK (o := 157) (p := 196) 1 jM251 jq251_39 hc (by rw [c1]; rfl) (by rw [c1]; decide) rfl rfl ?_
    exact jlc1 s h0 h1 hL (jo_p c1 hs) k
  have hs := jo_n c1 hs
  by_cases c2 : c = 2
  · refine jw_swK (o := 237) (p := 276) 2 jM251 jq251_39 hc (by rw [c2]; rfl) (by rw [c2]; decide) rfl rfl ?_
    exact jlc2 s h0 h1 hL (jo_p c2 hs) k
  have hs := jo_n c2 hs
  by_cases c3 : c = 3
  · refine jw_swK (o := 305) (p := 344) 3 jM251 jq251_39 hc (by rw [c3]; rfl) (by rw [c3]; decide) rfl rfl ?_
    exact jlc3 s h0 h1 hL (jo_p c3 hs) k
  have hs := jo_n c3 hs
  by_cases c4 : c = 4
  · refine jw_swK (o := 373) (p := 412) 4 jM251 jq251_39 hc (by rw [c4]; rfl) (by rw [c4]; decide) rfl rfl ?_
    exact jlc4 s h0 h1 hL (jo_p c4 hs) k
  have hs := jo_n c4 hs
  by_cases c5 : c = 5
  · refine jw_swK (o := 429) (p := 468) 5 jM251 jq251_39 hc (by rw [c5]; rfl) (by rw [c5]; decide) rfl rfl ?_
    exact jlc5 s h0 h1 hL (jo_p c5 hs) k
  have hs := jo_n c5 hs
  by_cases c6 : c = 6
  · refine jw_swK (o := 497) (p := 536) 6 jM251 jq251_39 hc (by rw [c6]; rfl) (by rw [c6]; decide) rfl rfl ?_
    exact jlc6 s h0 h1 hL (jo_p c6 hs) k
  have hs := jo_n c6 hs
  by_cases c7 : c = 7
  · refine jw_swK (o := 553) (p := 592) 7 jM251 jq251_39 hc (by rw [c7]; rfl) (by rw [c7]; decide) rfl rfl ?_
    exact jlc7 s h0 h1 hL (jo_p c7 hs) k
  have hs := jo_n c7 hs
  by_cases c8 : c = 8
  · refine jw_swK (o := 609) (p := 648) 8 jM251 jq251_39 hc (by rw [c8]; rfl) (by rw [c8]; decide) rfl rfl ?_
    exact jlc8 s h0 h1 hL (jo_p c8 hs) k
  have hs := jo_n c8 hs
  by_cases c9 : c = 9
  · refine jw_swK (o := 653) (p := 692) 9 jM251 jq251_39 hc (by rw [c9]; rfl) (by rw [c9]; decide) rfl rfl ?_
    exact jlc9 s h0 h1 hL (jo_p c9 hs) k
  have hs := jo_n c9 hs
  by_cases c10 : c = 10
  · refine jw_swK (o := 709) (p := 748) 10 jM251 jq251_39 hc (by rw [c10]; rfl) (by rw [c10]; decide) rfl rfl ?_
    exact jlc10 s h0 h1 hL (jo_p c10 hs) k
  have hs := jo_n c10 hs
  by_cases c11 : c = 11
  · refine jw_swK (o := 745) (p := 784) 11 jM251 jq251_39 hc (by rw [c11]; rfl) (by rw [c11]; decide) rfl rfl ?_
    exact jlc11 s h0 h1 hL (jo_p c11 hs) k
  have hs := jo_n c11 hs
  by_cases c12 : c = 12
  · refine jw_swK (o := 756) (p := 795) 12 jM251 jq251_39 hc (by rw [c12]; rfl) (by rw [c12]; decide) rfl rfl ?_
    exact jlc12 s h0 h1 hL (jo_p c12 hs) k
  have hs := jo_n c12 hs
  by_cases c13 : c = 13
  · refine jw_swK (o := 800) (p := 839) 13 jM251 jq251_39 hc (by rw [c13]; rfl) (by rw [c13]; decide) rfl rfl ?_
    exact jlc13 s h0 h1 hL (jo_p c13 hs) k
  have hs := jo_n c13 hs
  by_cases c14 : c = 14
  · refine jw_swK (o := 856) (p := 895) 14 jM251 jq251_39 hc (by rw [c14]; rfl) (by rw [c14]; decide) rfl rfl ?_
    exact jlc14 s h0 h1 hL (jo_p c14 hs) k
  have hs := jo_n c14 hs
  by_cases c15 : c = 15
  · refine jw_swK (o := 924) (p := 963) 15 jM251 jq251_39 hc (by rw [c15]; rfl) (by rw [c15]; decide) rfl rfl ?_
    exact jlc15 s h0 h1 hL (jo_p c15 hs) k
  have hs := jo_n c15 hs
  by_cases c16 : c = 16
  · refine jw_swK (o := 992) (p := 1031) 16 jM251 jq251_39 hc (by rw [c16]; rfl) (by rw [c16]; decide) rfl rfl ?_
    exact jlc16 s h0 h1 hL (jo_p c16 hs) k
  have hs := jo_n c16 hs
  by_cases c17 : c = 17
  · refine jw_swK (o := 1060) (p := 1099) 17 jM251 jq251_39 hc (by rw [c17]; rfl) (by rw [c17]; decide) rfl rfl ?_
    exact jlc17 s h0 h1 hL (jo_p c17 hs) k
  have hs := jo_n c17 hs
  by_cases c18 : c = 18
  · refine jw_swK (o := 1073) (p := 1112) 18 jM251 jq251_39 hc (by rw [c18]; rfl) (by rw [c18]; decide) rfl rfl ?_
    exact jlc18 s h0 h1 hL (jo_p c18 hs) k
  have hs := jo_n c18 hs
  by_cases c19 : c = 19
  · refine jw_swK (o := 1141) (p := 1180) 19 jM251 jq251_39 hc (by rw [c19]; rfl) (by rw [c19]; decide) rfl rfl ?_
    exact jlc19 s h0 h1 hL (jo_p c19 hs) k
  have hs := jo_n c19 hs
  by_cases c20 : c = 20
  · refine jw_swK (o := 1154) (p := 1193) 20 jM251 jq251_39 hc (by rw [c20]; rfl) (by rw [c20]; decide) rfl rfl ?_
    exact jlc20 s h0 h1 hL (jo_p c20 hs) k
  have hs := jo_n c20 hs
  by_cases c21 : c = 21
  · refine jw_swK (o := 1167) (p := 1206) 21 jM251 jq251_39 hc (by rw [c21]; rfl) (by rw [c21]; decide) rfl rfl ?_
    exact jlc21 s h0 h1 hL (jo_p c21 hs) k
  have hs := jo_n c21 hs
  by_cases c22 : c = 22
  · refine jw_swK (o := 1180) (p := 1219) 22 jM251 jq251_39 hc (by rw [c22]; rfl) (by rw [c22]; decide) rfl rfl ?_
    exact jlc22 s h0 h1 hL (jo_p c22 hs) k
  have hs := jo_n c22 hs
  by_cases c23 : c = 23
  · refine jw_swK (o := 1236) (p := 1275) 23 jM251 jq251_39 hc (by rw [c23]; rfl) (by rw [c23]; decide) rfl rfl ?_
    exact jlc23 s h0 h1 hL (jo_p c23 hs) k
  have hs := jo_n c23 hs
  by_cases c24 : c = 24
  · refine jw_swK (o := 1292) (p := 1331) 24 jM251 jq251_39 hc (by rw [c24]; rfl) (by rw [c24]; decide) rfl rfl ?_
    exact jlc24 s h0 h1 hL (jo_p c24 hs) k
  have hs := jo_n c24 hs
  by_cases c25 : c = 25
  · refine jw_swK (o := 1348) (p := 1387) 25 jM251 jq251_39 hc (by rw [c25]; rfl) (by rw [c25]; decide) rfl rfl ?_
    exact jlc25 s h0 h1 hL (jo_p c25 hs) k
  have hs := jo_n c25 hs
  by_cases c26 : c = 26
  · refine jw_swK (o := 1361) (p := 1400) 26 jM251 jq251_39 hc (by rw [c26]; rfl) (by rw [c26]; decide) rfl rfl ?_
    exact jlc26 s h0 h1 hL (jo_p c26 hs) k
  have hs := jo_n c26 hs
  refine jw_swO (p := 1413) jM251 jq251_39 hc (by omega) rfl ?_
  cases hs
  refine jiI4 (p := 1416) rfl jM251 jq251_1413 ?_
  refine jw_goto jM251 jq251_1416 ?_
  exact k σ _ _ _ s
theorem jl_loop {d : Nat} {L : Nat} {xs : Nat → Int32} {Q : ib_O → Prop} (hL : L ≤ 2048) : ∀ (m : Nat) {i : Int} {K : jc_K} {G : jg_G} {o : Int} {o5 o6 : Option Value} {σ : ib_H} {r : jc_K × jg_G} (s : jl_S L xs K G o σ) (h0 : 0 ≤ i) (hi : i ≤ 4096) (hs : jl_runs xs L m i K G = some r) (k : ∀ σ' o', jl_S L xs r.1 r.2 o' σ' → Q (.inl (some (jb_v 1)), σ')), jb_w (d + 15) 251 23 [some (.ref 1), some (.ref 2), some (.ref 92), some (.ref 119), some (jb_v i), o5, o6] [] σ Q := by
  intro m
  induction m with
  | zero => intro i K G o o5 o6 σ r s h0 hi hs k; cases hs
  | succ m ih =>
    intro i K G o o5 o6 σ r s h0 hi hs k
    unfold jl_runs at hs
    have ri : jb_r i := ⟨by omega, by omega⟩
    refine jiL4 (p := 25) rfl jM251 jq251_23 ?_
    refine jaL0 (p := 26) rfl jM251 jq251_25 ?_
    refine jw_slen (p := 27) rfl jM251 jq251_26 s ?_
    refine jw_iconst (p := 28) rfl jM251 jq251_27 ?_
    refine jw_isub (p := 29) rfl jM251 jq251_28 ?_
    refine jw_ic (p := 32) rfl jM251 jq251_29 (jc_gt ri ⟨by omega, by omega⟩) (fun c1 => ?_) (fun c1 => ?_)
    · have hs := jo_p c1 hs
      cases hs
      refine jw_iconst (p := 1420) rfl jM251 jq251_1419 ?_
      exact jw_iret jM251 jq251_1420 (fun _ => Or.inr rfl) (k σ _ s)
    · obtain ⟨x, hx, hs⟩ := jo_b (jo_n c1 hs)
      refine jaL0 (p := 33) rfl jM251 jq251_32 ?_
      refine jiL4 (p := 35) rfl jM251 jq251_33 ?_
      refine jw_sald (p := 36) rfl jM251 jq251_35 s h0 (by omega) hL ?_
      refine jw_bipush (p := 38) rfl jM251 jq251_36 (by decide) ?_
      refine jw_iand31 (p := 39) rfl jM251 jq251_38 (fun c hc ec => ?_)
      have e : c = jl_c xs i := by
        unfold jl_c
        have h2 : Int32.ofInt (jl_x xs i) = xs i.toNat := Int32.ofInt_toInt _
        rw [h2] at ec
        injection ec with ec
        rw [← ec, jb_ti hc]
      rw [← e] at hx
      exact jl_sw hc s h0 (by omega) hL hx (fun σ' o' o5 o6 s' => ih s' (by omega) (by omega) hs k)
def jl_h5 (L : Nat) (xs : Nat → Int32) : ib_H := jb_put L xs (ib_new jb_h4 102 1 1)
theorem jb_b6 : (match jb_h1 with | some (.inl none, _) => true | _ => false) = true := by decide +kernel
theorem jb_b7 : (match jb_h3 with | some (.inl none, _) => true | _ => false) = true := by decide +kernel
theorem jb_h1e : jb_h1 = some (.inl none, jb_h2) := by
  have h := jb_b6
  have e : jb_h2 = (jb_h1.getD (.inl none, jb_h0)).2 := rfl
  generalize jb_h1 = g at h e
  rcases g with _ | ⟨(_ | _) | _, σ⟩
  · cases h
  · rw [e]
    rfl
  · cases h
  · cases h
theorem jb_h3e : jb_h3 = some (.inl none, jb_h4) := by
  have h := jb_b7
  have e : jb_h4 = (jb_h3.getD (.inl none, jb_h0)).2 := rfl
  generalize jb_h3 = g at h e
  rcases g with _ | ⟨(_ | _) | _, σ⟩
  · cases h
  · rw [e]
    rfl
  · cases h
  · cases h
theorem jb_no0 : jb_no (ib_ent 1 [.ref 2]) [] (ib_new jb_h0 10 0 (ib_fn 10)) := by
  refine ⟨by decide, fun n h => ?_, fun n h => (by cases h), fun n k => ?_⟩
  · rcases List.mem_cons.mp h with z | z
    · cases z; decide
    · cases z
  · show ib_z (fun _ _ => 0) 2 0 n k ≠ 1
    unfold ib_z
    split
    · exact Nat.zero_ne_one
    · exact Nat.zero_ne_one
theorem jb_pr {L : Nat} {xs : Nat → Int32} {n d mi : Nat} {ls : ib_Ls} {σ σ1 : ib_H} {r : Option Value ⊕ Nat} (hn : jb_no ls [] σ) (h : ib_run ib_Ms ib_ks ib_fn ib_ct n d mi 0 ls [] σ = some (r, σ1)) : ib_run ib_Ms ib_ks ib_fn ib_ct n d mi 0 ls [] (jb_put L xs σ) = some (r, jb_put L xs σ1) ∧ 2 ≤ ib_nx σ1 ∧ ∀ n k, ib_P σ1 n k ≠ 1 := by
  obtain ⟨e1, e2⟩ := jb_run_put (L := L) (xs := xs) n hn
  rw [e1, h]
  exact ⟨rfl, (e2 _ h).1, (e2 _ h).2.2⟩
theorem jb_nx_put {L : Nat} {xs : Nat → Int32} {σ : ib_H} : ib_nx (jb_put L xs σ) = ib_nx σ := rfl
theorem jl_begin {d : Nat} {L : Nat} {xs : Nat → Int32} {Q : ib_O → Prop} {σ2 σ4 : ib_H} (run1 : ib_run ib_Ms ib_ks ib_fn ib_ct 1000 14 106 0 (ib_ent 1 [.ref 2]) [] (ib_new jb_h0 10 0 (ib_fn 10)) = some (.inl none, σ2)) (b1 : ib_nx σ2 = 92) (run2 : ib_run ib_Ms ib_ks ib_fn ib_ct 1000 14 145 0 (ib_ent 2 [.ref 92]) [] (ib_new σ2 11 0 (ib_fn 11)) = some (.inl none, σ4)) (b2 : ib_nx σ4 = 119) (h : jb_w 15 251 23 [some (.ref 1), some (.ref 2), some (.ref 92), some (.ref 119), some (jb_v 0), none, none] [] (jb_put L xs (ib_new σ4 102 1 1)) Q) : jb_w 15 251 0 [some (.ref 1), none, none, none, none, none, none] [] (jb_put L xs jb_h0) Q := by
  refine jw_new (p := 3) rfl jM251 jq251_0 (by decide) ?_
  rw [jb_new_put (show 2 ≤ ib_nx jb_h0 by decide)]
  show jb_w 15 251 3 _ [.ref 2] _ Q
  refine jw_dupA (p := 4) rfl jM251 jq251_3 ?_
  obtain ⟨r1, n1, p1⟩ := jb_pr (L := L) (xs := xs) jb_no0 run1
  have o1 : jb_ob (jb_put L xs (ib_new jb_h0 10 0 (ib_fn 10))) 10 2 := ⟨by decide, show 2 < 3 by decide, rfl, by decide⟩
  refine jw_callN [] jM251 jq251_4 (by decide) rfl rfl o1 rfl jM106 rfl rfl ?_
  refine ⟨1000, _, r1, ?_⟩
  show jb_w 15 251 7 _ [.ref 2] (jb_put L xs σ2) Q
  refine jaS1 (p := 8) rfl jM251 jq251_7 ?_
  refine jw_new (p := 11) rfl jM251 jq251_8 (by decide) ?_
  rw [jb_new_put n1, jb_nx_put, b1]
  refine jw_dupA (p := 12) rfl jM251 jq251_11 ?_
  have no2 : jb_no (ib_ent 2 [.ref 92]) [] (ib_new σ2 11 0 (ib_fn 11)) := by
    refine ⟨Nat.le_succ_of_le n1, fun n h => ?_, fun n h => (by cases h), jb_P_z p1⟩
    rcases List.mem_cons.mp h with z | z
    · cases z; decide
    · rcases List.mem_cons.mp z with z | z
      · cases z
      · cases z
  obtain ⟨r2, n2, p2⟩ := jb_pr (L := L) (xs := xs) no2 run2
  have o2 : jb_ob (jb_put L xs (ib_new σ2 11 0 (ib_fn 11))) 11 92 := by
    refine ⟨by decide, ?_, ?_, by decide⟩
    · show 92 < ib_nx σ2 + 1
      rw [b1]
      decide
    · show (if 92 = 1 then (99, L) else if 92 = ib_nx σ2 then (11, 0) else ib_sh σ2 92).1 = 11
      rw [b1]
      rfl
  refine jw_callN [] jM251 jq251_12 (by decide) rfl rfl o2 rfl jM145 rfl rfl ?_
  refine ⟨1000, _, r2, ?_⟩
  show jb_w 15 251 15 _ [.ref 92] (jb_put L xs σ4) Q
  refine jaS2 (p := 16) rfl jM251 jq251_15 ?_
  refine jw_iconst (p := 17) rfl jM251 jq251_16 ?_
  refine jw_nar (n := 1) (p := 19) rfl jM251 jq251_17 (by decide) ?_
  rw [jb_new_put n2, jb_nx_put, b2]
  refine jaS3 (p := 20) rfl jM251 jq251_19 ?_
  refine jw_iconst (p := 21) rfl jM251 jq251_20 ?_
  refine jiS4 (p := 23) rfl jM251 jq251_21 ?_
  exact h
theorem fx_119 : fx_pl.getD 119 [] = [] := by decide +kernel
theorem jl_F5g {L : Nat} {xs : Nat → Int32} {σ4 : ib_H} (e : ib_nx σ4 = 119) (h3 : ((List.range 119).all fun n => decide (n < 2) || decide (ib_sh σ4 n = fx_sh n)) = true) (h4 : ((fx_pl.zipIdx).all fun r => (r.1.zipIdx).all fun q => match q.1 with | some v => decide (ib_P σ4 r.2 q.2 = v) | none => true) = true) : jb_F (jb_put L xs (ib_new σ4 102 1 1)) := by
  refine ⟨?_, fun n h2 hn => ?_, fun n k q hq => ?_⟩
  · show 120 ≤ ib_nx σ4 + 1
    rw [e]
    decide
  · show (if n = 1 then (99, L) else if n = ib_nx σ4 then (102, 1) else ib_sh σ4 n) = fx_sh n
    rw [if_neg (by omega), e]
    by_cases h9 : n = 119
    · rw [if_pos h9, h9]
      rfl
    · rw [if_neg h9]
      rw [List.all_eq_true] at h3
      have h4 := h3 n (List.mem_range.mpr (by omega))
      rw [Bool.or_eq_true, decide_eq_true_eq, decide_eq_true_eq] at h4
      rcases h4 with h4 | h4
      · omega
      · exact h4
  · have hn := fx_p_lt hq
    show ib_z (ib_P σ4) (ib_nx σ4) 0 n k = q
    unfold fx_p at hq
    have hk : k < (fx_pl.getD n []).length := by
      by_cases c : k < (fx_pl.getD n []).length
      · exact c
      · rw [List.getD_eq_getElem?_getD, List.getElem?_eq_none (by omega)] at hq
        cases hq
    have hl : n < fx_pl.length := by rw [fx_pl_len]; exact hn
    rw [List.all_eq_true] at h4
    have h5 := h4 (fx_pl[n], n) (List.mem_zipIdx_iff_getElem?.mpr (List.getElem?_eq_getElem hl))
    rw [List.all_eq_true] at h5
    have hg : fx_pl.getD n [] = fx_pl[n] := by
      rw [List.getD_eq_getElem?_getD, List.getElem?_eq_getElem hl]
      rfl
    rw [hg] at hk hq
    have h6 := h5 (fx_pl[n][k], k) (List.mem_zipIdx_iff_getElem?.mpr (List.getElem?_eq_getElem hk))
    have hq2 : fx_pl[n][k] = some q := by
      rw [List.getD_eq_getElem?_getD, List.getElem?_eq_getElem hk] at hq
      exact hq
    rw [hq2] at h6
    have h7 : ib_P σ4 n k = q := of_decide_eq_true h6
    unfold ib_z
    by_cases h9 : n = ib_nx σ4
    · exfalso
      rw [e] at h9
      subst h9
      rw [← hg, fx_119] at hk
      exact absurd hk (Nat.not_lt_zero _)
    · rw [if_neg h9]
      exact h7
theorem jl_F5 {L : Nat} {xs : Nat → Int32} : jb_F (jl_h5 L xs) := jl_F5g jb_b2.2 jb_b3 jb_b4
theorem jl_S5g {L : Nat} {xs : Nat → Int32} {σ4 : ib_H} (e : ib_nx σ4 = 119) (hF : jb_F (jb_put L xs (ib_new σ4 102 1 1))) : jl_S L xs (jc_view (jb_put L xs (ib_new σ4 102 1 1))) (jg_ref (jb_put L xs (ib_new σ4 102 1 1))) 0 (jb_put L xs (ib_new σ4 102 1 1)) := by
  refine ⟨hF, rfl, rfl, rfl, ?_, ?_, jb_r0⟩
  · funext k
    rfl
  · show ib_z (ib_L σ4) (ib_nx σ4) 0 119 0 = _
    unfold ib_z
    rw [e]
    rfl
theorem jl_S5 {L : Nat} {xs : Nat → Int32} : jl_S L xs (jc_view (jl_h5 L xs)) (jg_ref (jl_h5 L xs)) 0 (jl_h5 L xs) := jl_S5g jb_b2.2 jl_F5
/-- what is left: the pure run -/
theorem jl_law {L : Nat} {xs : Nat → Int32} (hL : L ≤ 2048) {m : Nat} {r : jc_K × jg_G} (h : jl_runs xs L m 0 (jc_view (jl_h5 L xs)) (jg_ref (jl_h5 L xs)) = some r) (hc : r.1.1.2.1 ≤ 601024) (hs : r.1.1.2.2 ≤ 7293033) : ∃ n σf, ib_run ib_Ms ib_ks ib_fn ib_ct n 15 251 0 (ib_ent 7 [.ref 1]) [] ((2, 0, 0), (fun n => if n = 1 then (99, L) else (0, 0)), (fun n k => if n = 1 then xs k else 0), (fun _ _ => 0), (fun _ _ => 0)) = some (.inl (some (.int 1)), σf) ∧ ib_cc σf ≤ 601024 ∧ ib_sc σf ≤ 7293033 := by
  have e0 : (((2, 0, 0), (fun n => if n = 1 then (99, L) else (0, 0)), (fun n k => if n = 1 then xs k else 0), (fun _ _ => 0), (fun _ _ => 0)) : ib_H) = jb_put L xs jb_h0 := by
    unfold jb_put jb_h0
    refine Prod.ext rfl (Prod.ext ?_ rfl)
    funext n
    show (if n = 1 then (99, L) else (0, 0)) = (if n = 1 then (99, L) else (if n = 1 then (99, 0) else (0, 0)))
    by_cases c : n = 1
    · rw [if_pos c, if_pos c]
    · rw [if_neg c, if_neg c, if_neg c]
  have w := jl_begin (d := 0) (L := L) (xs := xs) (σ2 := jb_h2) (σ4 := jb_h4) (Q := fun o => o.1 = .inl (some (.int 1)) ∧ ib_cc o.2 ≤ 601024 ∧ ib_sc o.2 ≤ 7293033) jb_h1e jb_b1.2 jb_h3e jb_b2.2 (jl_loop (d := 0) hL m jl_S5 (by decide) (by decide) h (fun σ' o' s => ⟨rfl, by
    have := s.2.1
    rw [← this] at hc
    exact hc, by
    have := s.2.1
    rw [← this] at hs
    exact hs⟩))
  obtain ⟨n, ⟨v, σf⟩, h1, h2, h3⟩ := w
  refine ⟨n, σf, ?_, h3⟩
  rw [e0]
  have h2 : v = .inl (some (.int 1)) := h2
  rw [h2] at h1
  exact h1
