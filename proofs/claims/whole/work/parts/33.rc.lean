/-! the reference, lifted: written by wip/tools/genr.py -/
-- 161 PageLoomModel.rowOf(I)I need 1
theorem jt161_0 {d : Nat} {σ0 : ib_H} {G : jg_G} {Q : ib_O → Prop} {l1 : Int} (hl1 : jb_r l1)
    (h : (fr_fo G l1 = (-1) → jg_E σ0 G (some (jb_v (4 + (2 * l1)))) Q) ∧ (¬ (fr_fo G l1 = (-1)) → jg_E σ0 G (some (jb_v (fr_fo G l1))) Q)) :
    jg_W σ0 G (d + 1) 161 0 [some (.ref 92), some (jb_v l1), none] [] Q := by
  intro σ s
  refine jaL0 (p := 1) rfl jM161 jq161_0 ?_
  refine jiL1 (p := 2) rfl jM161 jq161_1 ?_
  refine jw_callV [(jb_v l1)] jM161 jq161_2 rfl rfl (jo_92 s.1) rfl jM160 rfl rfl ?_
  refine cs160 hl1 (fun σ1 s1 r1 => ?_) σ s
  show jb_w (d + 1) 161 5 [some (.ref 92), some (jb_v l1), none] [(jb_v (fr_fo G l1))] σ1 Q
  refine jiS2 (p := 6) rfl jM161 jq161_5 ?_
  refine jiL2 (p := 7) rfl jM161 jq161_6 ?_
  refine jw_iconst (p := 8) rfl jM161 jq161_7 ?_
  refine jw_ic (p := 11) rfl jM161 jq161_8 (jc_eq r1 (jb_rn rfl)) (fun c2 => ?_) (fun c2 => ?_)
  · have h2 := h.1 c2
    refine jw_iconst (p := 16) rfl jM161 jq161_15 ?_
    refine jw_iconst (p := 17) rfl jM161 jq161_16 ?_
    refine jiL1 (p := 18) rfl jM161 jq161_17 ?_
    refine jw_imul (p := 19) rfl jM161 jq161_18 ?_
    refine jw_iadd (p := 20) rfl jM161 jq161_19 ?_
    exact jw_iret jM161 jq161_20 (fun z => absurd z (by decide)) (h2 σ1 s1)
  · have h2 := h.2 c2
    refine jiL2 (p := 12) rfl jM161 jq161_11 ?_
    refine jw_goto jM161 jq161_12 ?_
    exact jw_iret jM161 jq161_20 (fun z => absurd z (by decide)) (h2 σ1 s1)
-- 162 PageLoomModel.isTorn(I)Z need 1
theorem jt162_0 {d : Nat} {σ0 : ib_H} {G : jg_G} {Q : ib_O → Prop} {l1 : Int} (hl1 : jb_r l1)
    (h : (¬ fr_fo G l1 = (-1) → jg_E σ0 G (some (jb_v 0)) Q) ∧ (¬ (¬ fr_fo G l1 = (-1)) → (0 ≤ (4 + (2 * l1)) ∧ (4 + (2 * l1)) < 54) ∧ ((0 ≤ ((4 + (2 * l1)) + 1) ∧ ((4 + (2 * l1)) + 1) < 54) ∧ ((G 94 (4 + (2 * l1)) = G 94 ((4 + (2 * l1)) + 1) → jg_E σ0 G (some (jb_v 0)) Q) ∧ (¬ (G 94 (4 + (2 * l1)) = G 94 ((4 + (2 * l1)) + 1)) → jg_E σ0 G (some (jb_v 1)) Q))))) :
    jg_W σ0 G (d + 1) 162 0 [some (.ref 92), some (jb_v l1)] [] Q := by
  intro σ s
  refine jaL0 (p := 1) rfl jM162 jq162_0 ?_
  refine jiL1 (p := 2) rfl jM162 jq162_1 ?_
  refine jw_callV [(jb_v l1)] jM162 jq162_2 rfl rfl (jo_92 s.1) rfl jM160 rfl rfl ?_
  refine cs160 hl1 (fun σ1 s1 r1 => ?_) σ s
  show jb_w (d + 1) 162 5 [some (.ref 92), some (jb_v l1)] [(jb_v (fr_fo G l1))] σ1 Q
  refine jw_iconst (p := 6) rfl jM162 jq162_5 ?_
  refine jw_ic (p := 9) rfl jM162 jq162_6 (jc_ne r1 (jb_rn rfl)) (fun c2 => ?_) (fun c2 => ?_)
  · have h2 := h.1 c2
    refine jw_iconst (p := 39) rfl jM162 jq162_38 ?_
    exact jw_iret jM162 jq162_39 (fun _ => Or.inl rfl) (h2 σ1 s1)
  · have h2 := h.2 c2
    refine jaL0 (p := 10) rfl jM162 jq162_9 ?_
    refine jw_getP (p := 13) (i := 2) (q := 94) rfl jM162 jq162_10 rfl (jo_92 s1.1) je_11_2 (jp_92_2 s1.1) ?_
    refine jw_iconst (p := 14) rfl jM162 jq162_13 ?_
    refine jw_iconst (p := 15) rfl jM162 jq162_14 ?_
    refine jiL1 (p := 16) rfl jM162 jq162_15 ?_
    refine jw_imul (p := 17) rfl jM162 jq162_16 ?_
    refine jw_iadd (p := 18) rfl jM162 jq162_17 ?_
    obtain ⟨c3, h3⟩ := h2
    refine jg_iald (p := 19) rfl jM162 jq162_18 (ja_94 s1.1) c3.1 c3.2 s1 (by decide) rfl ?_
    refine jaL0 (p := 20) rfl jM162 jq162_19 ?_
    refine jw_getP (p := 23) (i := 2) (q := 94) rfl jM162 jq162_20 rfl (jo_92 s1.1) je_11_2 (jp_92_2 s1.1) ?_
    refine jw_iconst (p := 24) rfl jM162 jq162_23 ?_
    refine jw_iconst (p := 25) rfl jM162 jq162_24 ?_
    refine jiL1 (p := 26) rfl jM162 jq162_25 ?_
    refine jw_imul (p := 27) rfl jM162 jq162_26 ?_
    refine jw_iadd (p := 28) rfl jM162 jq162_27 ?_
    refine jw_iconst (p := 29) rfl jM162 jq162_28 ?_
    refine jw_iadd (p := 30) rfl jM162 jq162_29 ?_
    obtain ⟨c4, h4⟩ := h3
    refine jg_iald (p := 31) rfl jM162 jq162_30 (ja_94 s1.1) c4.1 c4.2 s1 (by decide) rfl ?_
    refine jw_ic (p := 34) rfl jM162 jq162_31 (jc_eq (s.r _ _) (s.r _ _)) (fun c5 => ?_) (fun c5 => ?_)
    · have h5 := h4.1 c5
      refine jw_iconst (p := 39) rfl jM162 jq162_38 ?_
      exact jw_iret jM162 jq162_39 (fun _ => Or.inl rfl) (h5 σ1 s1)
    · have h5 := h4.2 c5
      refine jw_iconst (p := 35) rfl jM162 jq162_34 ?_
      refine jw_goto jM162 jq162_35 ?_
      exact jw_iret jM162 jq162_39 (fun _ => Or.inr rfl) (h5 σ1 s1)
-- 163 PageLoomModel.falls()V need 1
theorem jt163_0 {d : Nat} {σ0 : ib_H} {G : jg_G} {Q : ib_O → Prop}  
    (h : jg_W σ0 (jg_u (jg_u (jg_u G 92 7 1) 92 8 0) 92 12 (G 92 13)) d 163 20 [some (.ref 92), some (jb_v 0)] [] Q) :
    jg_W σ0 G d 163 0 [some (.ref 92), none] [] Q := by
  intro σ s
  refine jaL0 (p := 1) rfl jM163 jq163_0 ?_
  refine jw_iconst (p := 2) rfl jM163 jq163_1 ?_
  refine jg_putI (p := 5) (i := 7) rfl jM163 jq163_2 rfl (jo_92 s.1) (Or.inr ⟨jy_11_7, Or.inr rfl⟩) s (by decide) (by decide) (jb_rn rfl) ?_
  intro σ1 s1
  refine jaL0 (p := 6) rfl jM163 jq163_5 ?_
  refine jw_iconst (p := 7) rfl jM163 jq163_6 ?_
  refine jg_putI (p := 10) (i := 8) rfl jM163 jq163_7 rfl (jo_92 s1.1) (Or.inl jz_11_8) s1 (by decide) (by decide) (jb_rn rfl) ?_
  intro σ2 s2
  refine jaL0 (p := 11) rfl jM163 jq163_10 ?_
  refine jaL0 (p := 12) rfl jM163 jq163_11 ?_
  refine jg_getI (p := 15) (i := 13) rfl jM163 jq163_12 rfl (jo_92 s2.1) jn_11_13 s2 (by decide) (by decide) ((jg_uI (by decide)).trans (jg_uI (by decide))) ?_
  refine jg_putI (p := 18) (i := 12) rfl jM163 jq163_15 rfl (jo_92 s2.1) (Or.inl jz_11_12) s2 (by decide) (by decide) (s.r _ _) ?_
  intro σ3 s3
  refine jw_iconst (p := 19) rfl jM163 jq163_18 ?_
  refine jiS1 (p := 20) rfl jM163 jq163_19 ?_
  exact h σ3 s3
theorem jt163_20 {d : Nat} {σ0 : ib_H} {G : jg_G} {Q : ib_O → Prop} {l1 : Int} (hl1 : jb_r l1)
    (h : (4 ≤ l1 → jg_E σ0 G none Q) ∧ (¬ (4 ≤ l1) → (0 ≤ l1 ∧ l1 < 4) ∧ ((0 ≤ l1 ∧ l1 < 4) ∧ (jg_W σ0 (fr_cl (jg_u (jg_u (jg_u G 95 l1 (-1)) 96 l1 0) 97 l1 0) l1) (d + 1) 163 20 [some (.ref 92), some (jb_v (l1 + 1))] [] Q)))) :
    jg_W σ0 G (d + 1) 163 20 [some (.ref 92), some (jb_v l1)] [] Q := by
  intro σ s
  refine jiL1 (p := 21) rfl jM163 jq163_20 ?_
  refine jw_iconst (p := 22) rfl jM163 jq163_21 ?_
  refine jw_ic (p := 25) rfl jM163 jq163_22 (jc_ge hl1 (jb_rn rfl)) (fun c1 => ?_) (fun c1 => ?_)
  · have h1 := h.1 c1
    exact jw_vret jM163 jq163_57 (h1 σ s)
  · have h1 := h.2 c1
    refine jaL0 (p := 26) rfl jM163 jq163_25 ?_
    refine jw_getP (p := 29) (i := 9) (q := 95) rfl jM163 jq163_26 rfl (jo_92 s.1) je_11_9 (jp_92_9 s.1) ?_
    refine jiL1 (p := 30) rfl jM163 jq163_29 ?_
    refine jw_iconst (p := 31) rfl jM163 jq163_30 ?_
    obtain ⟨c2, h2⟩ := h1
    refine jg_iast (p := 32) rfl jM163 jq163_31 (ja_95 s.1) c2.1 c2.2 s (by decide) (jb_rn rfl) ?_
    intro σ3 s3
    refine jaL0 (p := 33) rfl jM163 jq163_32 ?_
    refine jw_getP (p := 36) (i := 10) (q := 96) rfl jM163 jq163_33 rfl (jo_92 s3.1) je_11_10 (jp_92_10 s3.1) ?_
    refine jiL1 (p := 37) rfl jM163 jq163_36 ?_
    refine jw_iconst (p := 38) rfl jM163 jq163_37 ?_
    refine jg_bast (p := 39) rfl jM163 jq163_38 (ja_96 s3.1) c2.1 c2.2 (Or.inl rfl) s3 (by decide) ?_
    intro σ4 s4
    refine jaL0 (p := 40) rfl jM163 jq163_39 ?_
    refine jw_getP (p := 43) (i := 11) (q := 97) rfl jM163 jq163_40 rfl (jo_92 s4.1) je_11_11 (jp_92_11 s4.1) ?_
    refine jiL1 (p := 44) rfl jM163 jq163_43 ?_
    refine jw_iconst (p := 45) rfl jM163 jq163_44 ?_
    refine jg_iast (p := 46) rfl jM163 jq163_45 (ja_97 s4.1) c2.1 c2.2 s4 (by decide) (jb_rn rfl) ?_
    intro σ5 s5
    refine jaL0 (p := 47) rfl jM163 jq163_46 ?_
    refine jiL1 (p := 48) rfl jM163 jq163_47 ?_
    refine jw_callV [(jb_v l1)] jM163 jq163_48 rfl rfl (jo_92 s5.1) rfl jM185 rfl rfl ?_
    obtain ⟨c6, h6⟩ := h2
    refine cs185 c6 (fun σ7 s7 => ?_) σ5 s5
    show jb_w (d + 1) 163 51 [some (.ref 92), some (jb_v l1)] [] σ7 Q
    refine jiI1 (p := 54) rfl jM163 jq163_51 ?_
    refine jw_goto jM163 jq163_54 ?_
    exact h6 σ7 s7
-- 164 PageLoomModel.isWritten()Z need 1
theorem jt164_0 {d : Nat} {σ0 : ib_H} {G : jg_G} {Q : ib_O → Prop}  
    (h : (G 92 7 = 0 → (¬ G 92 6 = 1 → (G 92 6 ≤ 0 → (jb_r ((G 92 6) - 0)) ∧ (jg_E σ0 (jg_u (jg_u G 92 6 ((G 92 6) - 0)) 92 5 (jb_m ((G 92 5) + 1))) (some (jb_v 1)) Q)) ∧ (¬ (G 92 6 ≤ 0) → (jb_r ((G 92 6) - 1)) ∧ (jg_E σ0 (jg_u (jg_u G 92 6 ((G 92 6) - 1)) 92 5 (jb_m ((G 92 5) + 1))) (some (jb_v 1)) Q))) ∧ (¬ (¬ G 92 6 = 1) → jg_W σ0 (jg_u G 92 6 0) d 163 0 [some (.ref 92), none] [] (jb_k (d + 1) 164 23 [some (.ref 92)] [] Q))) ∧ (¬ (G 92 7 = 0) → jg_E σ0 G (some (jb_v 0)) Q)) :
    jg_W σ0 G (d + 1) 164 0 [some (.ref 92)] [] Q := by
  intro σ s
  refine jaL0 (p := 1) rfl jM164 jq164_0 ?_
  refine jg_getI (p := 4) (i := 7) rfl jM164 jq164_1 rfl (jo_92 s.1) jn_11_7 s (by decide) (by decide) rfl ?_
  refine jw_if (p := 7) rfl jM164 jq164_4 (jc_eq (s.r _ _) jb_r0) (fun c1 => ?_) (fun c1 => ?_)
  · have h1 := h.1 c1
    refine jaL0 (p := 10) rfl jM164 jq164_9 ?_
    refine jg_getI (p := 13) (i := 6) rfl jM164 jq164_10 rfl (jo_92 s.1) jn_11_6 s (by decide) (by decide) rfl ?_
    refine jw_iconst (p := 14) rfl jM164 jq164_13 ?_
    refine jw_ic (p := 17) rfl jM164 jq164_14 (jc_ne (s.r _ _) (jb_rn rfl)) (fun c2 => ?_) (fun c2 => ?_)
    · have h2 := h1.1 c2
      refine jaL0 (p := 29) rfl jM164 jq164_28 ?_
      refine jw_dupA (p := 30) rfl jM164 jq164_29 ?_
      refine jg_getI (p := 33) (i := 6) rfl jM164 jq164_30 rfl (jo_92 s.1) jn_11_6 s (by decide) (by decide) rfl ?_
      refine jaL0 (p := 34) rfl jM164 jq164_33 ?_
      refine jg_getI (p := 37) (i := 6) rfl jM164 jq164_34 rfl (jo_92 s.1) jn_11_6 s (by decide) (by decide) rfl ?_
      refine jw_if (p := 40) rfl jM164 jq164_37 (jc_le (s.r _ _) jb_r0) (fun c3 => ?_) (fun c3 => ?_)
      · have h3 := h2.1 c3
        refine jw_iconst (p := 45) rfl jM164 jq164_44 ?_
        refine jw_isub (p := 46) rfl jM164 jq164_45 ?_
        obtain ⟨c4, h4⟩ := h3
        refine jg_putI (p := 49) (i := 6) rfl jM164 jq164_46 rfl (jo_92 s.1) (Or.inl jz_11_6) s (by decide) (by decide) c4 ?_
        intro σ5 s5
        refine jaL0 (p := 50) rfl jM164 jq164_49 ?_
        refine jw_dupA (p := 51) rfl jM164 jq164_50 ?_
        refine jg_getI (p := 54) (i := 5) rfl jM164 jq164_51 rfl (jo_92 s5.1) jn_11_5 s5 (by decide) (by decide) (jg_uI (by decide)) ?_
        refine jw_iconst (p := 55) rfl jM164 jq164_54 ?_
        refine jw_iadd (p := 56) rfl jM164 jq164_55 ?_
        refine jg_putM (p := 59) (i := 5) rfl jM164 jq164_56 rfl (jo_92 s5.1) (Or.inl jz_11_5) s5 (by decide) (by decide) ?_
        intro σ6 s6
        refine jw_iconst (p := 60) rfl jM164 jq164_59 ?_
        exact jw_iret jM164 jq164_60 (fun _ => Or.inr rfl) (h4 σ6 s6)
      · have h3 := h2.2 c3
        refine jw_iconst (p := 41) rfl jM164 jq164_40 ?_
        refine jw_goto jM164 jq164_41 ?_
        refine jw_isub (p := 46) rfl jM164 jq164_45 ?_
        obtain ⟨c7, h7⟩ := h3
        refine jg_putI (p := 49) (i := 6) rfl jM164 jq164_46 rfl (jo_92 s.1) (Or.inl jz_11_6) s (by decide) (by decide) c7 ?_
        intro σ8 s8
        refine jaL0 (p := 50) rfl jM164 jq164_49 ?_
        refine jw_dupA (p := 51) rfl jM164 jq164_50 ?_
        refine jg_getI (p := 54) (i := 5) rfl jM164 jq164_51 rfl (jo_92 s8.1) jn_11_5 s8 (by decide) (by decide) (jg_uI (by decide)) ?_
        refine jw_iconst (p := 55) rfl jM164 jq164_54 ?_
        refine jw_iadd (p := 56) rfl jM164 jq164_55 ?_
        refine jg_putM (p := 59) (i := 5) rfl jM164 jq164_56 rfl (jo_92 s8.1) (Or.inl jz_11_5) s8 (by decide) (by decide) ?_
        intro σ9 s9
        refine jw_iconst (p := 60) rfl jM164 jq164_59 ?_
        exact jw_iret jM164 jq164_60 (fun _ => Or.inr rfl) (h7 σ9 s9)
    · have h2 := h1.2 c2
      refine jaL0 (p := 18) rfl jM164 jq164_17 ?_
      refine jw_iconst (p := 19) rfl jM164 jq164_18 ?_
      refine jg_putI (p := 22) (i := 6) rfl jM164 jq164_19 rfl (jo_92 s.1) (Or.inl jz_11_6) s (by decide) (by decide) (jb_rn rfl) ?_
      intro σ10 s10
      refine jaL0 (p := 23) rfl jM164 jq164_22 ?_
      refine jw_callV [] jM164 jq164_23 rfl rfl (jo_92 s10.1) rfl jM163 rfl rfl ?_
      exact h2 σ10 s10
  · have h1 := h.2 c1
    refine jw_iconst (p := 8) rfl jM164 jq164_7 ?_
    exact jw_iret jM164 jq164_8 (fun _ => Or.inl rfl) (h1 σ s)
theorem jt164_26 {d : Nat} {σ0 : ib_H} {G : jg_G} {Q : ib_O → Prop}  
    (h : jg_E σ0 G (some (jb_v 0)) Q) :
    jg_W σ0 G d 164 26 [some (.ref 92)] [] Q := by
  intro σ s
  refine jw_iconst (p := 27) rfl jM164 jq164_26 ?_
  exact jw_iret jM164 jq164_27 (fun _ => Or.inl rfl) (h σ s)
-- 165 PageLoomModel.hardens(I)V need 1
theorem jt165_0 {d : Nat} {σ0 : ib_H} {G : jg_G} {Q : ib_O → Prop} {l1 : Int} (hl1 : jb_r l1)
    (h : (¬ G 92 7 = 0 → jg_E σ0 G none Q) ∧ (¬ (¬ G 92 7 = 0) → (l1 ≤ G 92 13 → jg_E σ0 G none Q) ∧ (¬ (l1 ≤ G 92 13) → jg_W σ0 G d 164 0 [some (.ref 92)] [] (jb_k (d + 1) 165 21 [some (.ref 92), some (jb_v l1)] [(jb_v (G 92 13)), (.ref 92)] Q)))) :
    jg_W σ0 G (d + 1) 165 0 [some (.ref 92), some (jb_v l1)] [] Q := by
  intro σ s
  refine jaL0 (p := 1) rfl jM165 jq165_0 ?_
  refine jg_getI (p := 4) (i := 7) rfl jM165 jq165_1 rfl (jo_92 s.1) jn_11_7 s (by decide) (by decide) rfl ?_
  refine jw_if (p := 7) rfl jM165 jq165_4 (jc_ne (s.r _ _) jb_r0) (fun c1 => ?_) (fun c1 => ?_)
  · have h1 := h.1 c1
    exact jw_vret jM165 jq165_39 (h1 σ s)
  · have h1 := h.2 c1
    refine jaL0 (p := 8) rfl jM165 jq165_7 ?_
    refine jg_getI (p := 11) (i := 13) rfl jM165 jq165_8 rfl (jo_92 s.1) jn_11_13 s (by decide) (by decide) rfl ?_
    refine jiL1 (p := 12) rfl jM165 jq165_11 ?_
    refine jw_ic (p := 15) rfl jM165 jq165_12 (jc_ge (s.r _ _) hl1) (fun c2 => ?_) (fun c2 => ?_)
    · have h2 := h1.1 c2
      exact jw_vret jM165 jq165_39 (h2 σ s)
    · have h2 := h1.2 c2
      refine jaL0 (p := 16) rfl jM165 jq165_15 ?_
      refine jw_dupA (p := 17) rfl jM165 jq165_16 ?_
      refine jg_getI (p := 20) (i := 13) rfl jM165 jq165_17 rfl (jo_92 s.1) jn_11_13 s (by decide) (by decide) rfl ?_
      refine jaL0 (p := 21) rfl jM165 jq165_20 ?_
      refine jw_callV [] jM165 jq165_21 rfl rfl (jo_92 s.1) rfl jM164 rfl rfl ?_
      exact h2 σ s
theorem jt165_24 {d : Nat} {σ0 : ib_H} {G : jg_G} {Q : ib_O → Prop} {l1 : Int} {s1 : Int} {s2 : Int} (hl1 : jb_r l1) (hs1 : jb_r s1) (hs2 : jb_r s2)
    (h : (s2 = 0 → (jb_r (s1 + 0)) ∧ (jg_W σ0 (jg_u G 92 13 (s1 + 0)) d 165 0 [some (.ref 92), some (jb_v l1)] [] Q)) ∧ (¬ (s2 = 0) → (jb_r (s1 + 1)) ∧ (jg_W σ0 (jg_u G 92 13 (s1 + 1)) d 165 0 [some (.ref 92), some (jb_v l1)] [] Q))) :
    jg_W σ0 G d 165 24 [some (.ref 92), some (jb_v l1)] [(jb_v s2), (jb_v s1), (.ref 92)] Q := by
  intro σ s
  refine jw_if (p := 27) rfl jM165 jq165_24 (jc_eq hs2 jb_r0) (fun c1 => ?_) (fun c1 => ?_)
  · have h1 := h.1 c1
    refine jw_iconst (p := 32) rfl jM165 jq165_31 ?_
    refine jw_iadd (p := 33) rfl jM165 jq165_32 ?_
    obtain ⟨c2, h2⟩ := h1
    refine jg_putI (p := 36) (i := 13) rfl jM165 jq165_33 rfl (jo_92 s.1) (Or.inl jz_11_13) s (by decide) (by decide) c2 ?_
    intro σ3 s3
    refine jw_goto jM165 jq165_36 ?_
    exact h2 σ3 s3
  · have h1 := h.2 c1
    refine jw_iconst (p := 28) rfl jM165 jq165_27 ?_
    refine jw_goto jM165 jq165_28 ?_
    refine jw_iadd (p := 33) rfl jM165 jq165_32 ?_
    obtain ⟨c4, h4⟩ := h1
    refine jg_putI (p := 36) (i := 13) rfl jM165 jq165_33 rfl (jo_92 s.1) (Or.inl jz_11_13) s (by decide) (by decide) c4 ?_
    intro σ5 s5
    refine jw_goto jM165 jq165_36 ?_
    exact h4 σ5 s5
-- 155 PageLoomModel.takesPart(IIII)V need 1
theorem jt155_0 {d : Nat} {σ0 : ib_H} {G : jg_G} {Q : ib_O → Prop} {l1 : Int} {l2 : Int} {l3 : Int} {l4 : Int} (hl1 : jb_r l1) (hl2 : jb_r l2) (hl3 : jb_r l3) (hl4 : jb_r l4)
    (h : (0 ≤ (67 * l1) ∧ (67 * l1) < 305118) ∧ ((0 ≤ l2 ∧ l2 < 4554) ∧ (jg_W σ0 (fr_empties G l2 (G 93 (67 * l1))) (d + 1) 155 13 [some (.ref 92), some (jb_v l1), some (jb_v l2), some (jb_v l3), some (jb_v l4), some (jb_v l3)] [] Q))) :
    jg_W σ0 G (d + 1) 155 0 [some (.ref 92), some (jb_v l1), some (jb_v l2), some (jb_v l3), some (jb_v l4), none] [] Q := by
  intro σ s
  refine jaL0 (p := 1) rfl jM155 jq155_0 ?_
  refine jiL2 (p := 2) rfl jM155 jq155_1 ?_
  refine jaL0 (p := 3) rfl jM155 jq155_2 ?_
  refine jiL1 (p := 4) rfl jM155 jq155_3 ?_
  refine jw_callV [(jb_v l1)] jM155 jq155_4 rfl rfl (jo_92 s.1) rfl jM149 rfl rfl ?_
  show jb_w d 149 0 [some (.ref 92), some (jb_v l1)] [] σ (jb_k (d + 1) 155 4 [some (.ref 92), some (jb_v l1), some (jb_v l2), some (jb_v l3), some (jb_v l4), none] [(jb_v l2), (.ref 92)] Q)
  refine jaL0 (p := 1) rfl jM149 jq149_0 ?_
  refine jw_getP (p := 4) (i := 1) (q := 93) rfl jM149 jq149_1 rfl (jo_92 s.1) je_11_1 (jp_92_1 s.1) ?_
  refine jw_bipush (p := 6) rfl jM149 jq149_4 (by decide) ?_
  refine jiL1 (p := 7) rfl jM149 jq149_6 ?_
  refine jw_imul (p := 8) rfl jM149 jq149_7 ?_
  obtain ⟨c1, h1⟩ := h
  refine jg_iald (p := 9) rfl jM149 jq149_8 (ja_93 s.1) c1.1 c1.2 s (by decide) rfl ?_
  refine jw_iret jM149 jq149_9 (fun z => absurd z (by decide)) ?_
  show jb_w (d + 1) 155 7 [some (.ref 92), some (jb_v l1), some (jb_v l2), some (jb_v l3), some (jb_v l4), none] [(jb_v (G 93 (67 * l1))), (jb_v l2), (.ref 92)] σ Q
  refine jw_callV [(jb_v l2), (jb_v (G 93 (67 * l1)))] jM155 jq155_7 rfl rfl (jo_92 s.1) rfl jM154 rfl rfl ?_
  obtain ⟨c2, h2⟩ := h1
  refine cs154 c2 (s.r _ _) (fun σ3 s3 => ?_) σ s
  show jb_w (d + 1) 155 10 [some (.ref 92), some (jb_v l1), some (jb_v l2), some (jb_v l3), some (jb_v l4), none] [] σ3 Q
  refine jiL3 (p := 11) rfl jM155 jq155_10 ?_
  refine jiS5 (p := 13) rfl jM155 jq155_11 ?_
  exact h2 σ3 s3
theorem jt155_13 {d : Nat} {σ0 : ib_H} {G : jg_G} {Q : ib_O → Prop} {l1 : Int} {l2 : Int} {l3 : Int} {l4 : Int} {l5 : Int} (hl1 : jb_r l1) (hl2 : jb_r l2) (hl3 : jb_r l3) (hl4 : jb_r l4) (hl5 : jb_r l5)
    (h : (l4 ≤ l5 → (0 ≤ ((67 * l2) + 2) ∧ ((67 * l2) + 2) < 305118) ∧ ((jb_r (l4 - l3)) ∧ (jg_E σ0 (jg_u G 93 ((67 * l2) + 2) (l4 - l3)) none Q))) ∧ (¬ (l4 ≤ l5) → (0 ≤ (((67 * l1) + 3) + (2 * l5)) ∧ (((67 * l1) + 3) + (2 * l5)) < 305118) ∧ ((0 ≤ (((67 * l1) + 4) + (2 * l5)) ∧ (((67 * l1) + 4) + (2 * l5)) < 305118) ∧ ((0 ≤ (((67 * l2) + 3) + (2 * (l5 - l3))) ∧ (((67 * l2) + 3) + (2 * (l5 - l3))) < 305118) ∧ ((0 ≤ (((67 * l2) + 4) + (2 * (l5 - l3))) ∧ (((67 * l2) + 4) + (2 * (l5 - l3))) < 305118) ∧ (jg_W σ0 (jg_u (jg_u G 93 (((67 * l2) + 3) + (2 * (l5 - l3))) (G 93 (((67 * l1) + 3) + (2 * l5)))) 93 (((67 * l2) + 4) + (2 * (l5 - l3))) (G 93 (((67 * l1) + 4) + (2 * l5)))) (d + 1) 155 13 [some (.ref 92), some (jb_v l1), some (jb_v l2), some (jb_v l3), some (jb_v l4), some (jb_v (l5 + 1))] [] Q)))))) :
    jg_W σ0 G (d + 1) 155 13 [some (.ref 92), some (jb_v l1), some (jb_v l2), some (jb_v l3), some (jb_v l4), some (jb_v l5)] [] Q := by
  intro σ s
  refine jiL5 (p := 15) rfl jM155 jq155_13 ?_
  refine jiL4 (p := 17) rfl jM155 jq155_15 ?_
  refine jw_ic (p := 20) rfl jM155 jq155_17 (jc_ge hl5 hl4) (fun c1 => ?_) (fun c1 => ?_)
  · have h1 := h.1 c1
    refine jaL0 (p := 50) rfl jM155 jq155_49 ?_
    refine jw_getP (p := 53) (i := 1) (q := 93) rfl jM155 jq155_50 rfl (jo_92 s.1) je_11_1 (jp_92_1 s.1) ?_
    refine jw_bipush (p := 55) rfl jM155 jq155_53 (by decide) ?_
    refine jiL2 (p := 56) rfl jM155 jq155_55 ?_
    refine jw_imul (p := 57) rfl jM155 jq155_56 ?_
    refine jw_iconst (p := 58) rfl jM155 jq155_57 ?_
    refine jw_iadd (p := 59) rfl jM155 jq155_58 ?_
    refine jiL4 (p := 61) rfl jM155 jq155_59 ?_
    refine jiL3 (p := 62) rfl jM155 jq155_61 ?_
    refine jw_isub (p := 63) rfl jM155 jq155_62 ?_
    obtain ⟨c2, h2⟩ := h1
    obtain ⟨c3, h3⟩ := h2
    refine jg_iast (p := 64) rfl jM155 jq155_63 (ja_93 s.1) c2.1 c2.2 s (by decide) c3 ?_
    intro σ4 s4
    exact jw_vret jM155 jq155_64 (h3 σ4 s4)
  · have h1 := h.2 c1
    refine jaL0 (p := 21) rfl jM155 jq155_20 ?_
    refine jiL2 (p := 22) rfl jM155 jq155_21 ?_
    refine jiL5 (p := 24) rfl jM155 jq155_22 ?_
    refine jiL3 (p := 25) rfl jM155 jq155_24 ?_
    refine jw_isub (p := 26) rfl jM155 jq155_25 ?_
    refine jaL0 (p := 27) rfl jM155 jq155_26 ?_
    refine jiL1 (p := 28) rfl jM155 jq155_27 ?_
    refine jiL5 (p := 30) rfl jM155 jq155_28 ?_
    refine jw_callV [(jb_v l1), (jb_v l5)] jM155 jq155_30 rfl rfl (jo_92 s.1) rfl jM151 rfl rfl ?_
    show jb_w d 151 0 [some (.ref 92), some (jb_v l1), some (jb_v l5)] [] σ (jb_k (d + 1) 155 30 [some (.ref 92), some (jb_v l1), some (jb_v l2), some (jb_v l3), some (jb_v l4), some (jb_v l5)] [(jb_v (l5 - l3)), (jb_v l2), (.ref 92)] Q)
    refine jaL0 (p := 1) rfl jM151 jq151_0 ?_
    refine jw_getP (p := 4) (i := 1) (q := 93) rfl jM151 jq151_1 rfl (jo_92 s.1) je_11_1 (jp_92_1 s.1) ?_
    refine jw_bipush (p := 6) rfl jM151 jq151_4 (by decide) ?_
    refine jiL1 (p := 7) rfl jM151 jq151_6 ?_
    refine jw_imul (p := 8) rfl jM151 jq151_7 ?_
    refine jw_iconst (p := 9) rfl jM151 jq151_8 ?_
    refine jw_iadd (p := 10) rfl jM151 jq151_9 ?_
    refine jw_iconst (p := 11) rfl jM151 jq151_10 ?_
    refine jiL2 (p := 12) rfl jM151 jq151_11 ?_
    refine jw_imul (p := 13) rfl jM151 jq151_12 ?_
    refine jw_iadd (p := 14) rfl jM151 jq151_13 ?_
    obtain ⟨c5, h5⟩ := h1
    refine jg_iald (p := 15) rfl jM151 jq151_14 (ja_93 s.1) c5.1 c5.2 s (by decide) rfl ?_
    refine jw_iret jM151 jq151_15 (fun z => absurd z (by decide)) ?_
    show jb_w (d + 1) 155 33 [some (.ref 92), some (jb_v l1), some (jb_v l2), some (jb_v l3), some (jb_v l4), some (jb_v l5)] [(jb_v (G 93 (((67 * l1) + 3) + (2 * l5)))), (jb_v (l5 - l3)), (jb_v l2), (.ref 92)] σ Q
    refine jaL0 (p := 34) rfl jM155 jq155_33 ?_
    refine jiL1 (p := 35) rfl jM155 jq155_34 ?_
    refine jiL5 (p := 37) rfl jM155 jq155_35 ?_
    refine jw_callV [(jb_v l1), (jb_v l5)] jM155 jq155_37 rfl rfl (jo_92 s.1) rfl jM152 rfl rfl ?_
    show jb_w d 152 0 [some (.ref 92), some (jb_v l1), some (jb_v l5)] [] σ (jb_k (d + 1) 155 37 [some (.ref 92), some (jb_v l1), some (jb_v l2), some (jb_v l3), some (jb_v l4), some (jb_v l5)] [(jb_v (G 93 (((67 * l1) + 3) + (2 * l5)))), (jb_v (l5 - l3)), (jb_v l2), (.ref 92)] Q)
    refine jaL0 (p := 1) rfl jM152 jq152_0 ?_
    refine jw_getP (p := 4) (i := 1) (q := 93) rfl jM152 jq152_1 rfl (jo_92 s.1) je_11_1 (jp_92_1 s.1) ?_
    refine jw_bipush (p := 6) rfl jM152 jq152_4 (by decide) ?_
    refine jiL1 (p := 7) rfl jM152 jq152_6 ?_
    refine jw_imul (p := 8) rfl jM152 jq152_7 ?_
    refine jw_iconst (p := 9) rfl jM152 jq152_8 ?_
    refine jw_iadd (p := 10) rfl jM152 jq152_9 ?_
    refine jw_iconst (p := 11) rfl jM152 jq152_10 ?_
    refine jiL2 (p := 12) rfl jM152 jq152_11 ?_
    refine jw_imul (p := 13) rfl jM152 jq152_12 ?_
    refine jw_iadd (p := 14) rfl jM152 jq152_13 ?_
    obtain ⟨c6, h6⟩ := h5
    refine jg_iald (p := 15) rfl jM152 jq152_14 (ja_93 s.1) c6.1 c6.2 s (by decide) rfl ?_
    refine jw_iret jM152 jq152_15 (fun z => absurd z (by decide)) ?_
    show jb_w (d + 1) 155 40 [some (.ref 92), some (jb_v l1), some (jb_v l2), some (jb_v l3), some (jb_v l4), some (jb_v l5)] [(jb_v (G 93 (((67 * l1) + 4) + (2 * l5)))), (jb_v (G 93 (((67 * l1) + 3) + (2 * l5)))), (jb_v (l5 - l3)), (jb_v l2), (.ref 92)] σ Q
    refine jw_callV [(jb_v l2), (jb_v (l5 - l3)), (jb_v (G 93 (((67 * l1) + 3) + (2 * l5)))), (jb_v (G 93 (((67 * l1) + 4) + (2 * l5))))] jM155 jq155_40 rfl rfl (jo_92 s.1) rfl jM153 rfl rfl ?_
    show jb_w d 153 0 [some (.ref 92), some (jb_v l2), some (jb_v (l5 - l3)), some (jb_v (G 93 (((67 * l1) + 3) + (2 * l5)))), some (jb_v (G 93 (((67 * l1) + 4) + (2 * l5))))] [] σ (jb_k (d + 1) 155 40 [some (.ref 92), some (jb_v l1), some (jb_v l2), some (jb_v l3), some (jb_v l4), some (jb_v l5)] [] Q)
    refine jaL0 (p := 1) rfl jM153 jq153_0 ?_
    refine jw_getP (p := 4) (i := 1) (q := 93) rfl jM153 jq153_1 rfl (jo_92 s.1) je_11_1 (jp_92_1 s.1) ?_
    refine jw_bipush (p := 6) rfl jM153 jq153_4 (by decide) ?_
    refine jiL1 (p := 7) rfl jM153 jq153_6 ?_
    refine jw_imul (p := 8) rfl jM153 jq153_7 ?_
    refine jw_iconst (p := 9) rfl jM153 jq153_8 ?_
    refine jw_iadd (p := 10) rfl jM153 jq153_9 ?_
    refine jw_iconst (p := 11) rfl jM153 jq153_10 ?_
    refine jiL2 (p := 12) rfl jM153 jq153_11 ?_
    refine jw_imul (p := 13) rfl jM153 jq153_12 ?_
    refine jw_iadd (p := 14) rfl jM153 jq153_13 ?_
    refine jiL3 (p := 15) rfl jM153 jq153_14 ?_
    obtain ⟨c7, h7⟩ := h6
    refine jg_iast (p := 16) rfl jM153 jq153_15 (ja_93 s.1) c7.1 c7.2 s (by decide) (s.r _ _) ?_
    intro σ8 s8
    refine jaL0 (p := 17) rfl jM153 jq153_16 ?_
    refine jw_getP (p := 20) (i := 1) (q := 93) rfl jM153 jq153_17 rfl (jo_92 s8.1) je_11_1 (jp_92_1 s8.1) ?_
    refine jw_bipush (p := 22) rfl jM153 jq153_20 (by decide) ?_
    refine jiL1 (p := 23) rfl jM153 jq153_22 ?_
    refine jw_imul (p := 24) rfl jM153 jq153_23 ?_
    refine jw_iconst (p := 25) rfl jM153 jq153_24 ?_
    refine jw_iadd (p := 26) rfl jM153 jq153_25 ?_
    refine jw_iconst (p := 27) rfl jM153 jq153_26 ?_
    refine jiL2 (p := 28) rfl jM153 jq153_27 ?_
    refine jw_imul (p := 29) rfl jM153 jq153_28 ?_
    refine jw_iadd (p := 30) rfl jM153 jq153_29 ?_
    refine jiL4 (p := 32) rfl jM153 jq153_30 ?_
    obtain ⟨c9, h9⟩ := h7
    refine jg_iast (p := 33) rfl jM153 jq153_32 (ja_93 s8.1) c9.1 c9.2 s8 (by decide) (s.r _ _) ?_
    intro σ10 s10
    refine jw_vret jM153 jq153_33 ?_
    show jb_w (d + 1) 155 43 [some (.ref 92), some (jb_v l1), some (jb_v l2), some (jb_v l3), some (jb_v l4), some (jb_v l5)] [] σ10 Q
    refine jiI5 (p := 46) rfl jM155 jq155_43 ?_
    refine jw_goto jM155 jq155_46 ?_
    exact h9 σ10 s10
