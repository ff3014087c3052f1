/-! paths of methods: written by wip/tools/gen23.py -/
-- 33 PageLoom$Page.childCell(II)I
theorem jk33_0 {d : Nat} {σ : ib_H} {Q : ib_O → Prop} {l0 : Int} {l1 : Int} (hF : jb_F σ) (hl0 : jb_r l0) (hl1 : jb_r l1)
    (h : Q (.inl (some (jb_v ((100 * l0) + l1))), σ)) :
    jb_w d 33 0 [some (jb_v l0), some (jb_v l1)] [] σ Q := by
  refine jw_bipush (p := 2) rfl jM33 jq33_0 (by decide) ?_
  refine jiL0 (p := 3) rfl jM33 jq33_2 ?_
  refine jw_imul (p := 4) rfl jM33 jq33_3 ?_
  refine jiL1 (p := 5) rfl jM33 jq33_4 ?_
  refine jw_iadd (p := 6) rfl jM33 jq33_5 ?_
  exact jw_iret jM33 jq33_6 (fun z => absurd z (by decide)) h
-- 34 PageLoom$Page.blank(I)V
theorem jk34_0 {d : Nat} {σ : ib_H} {Q : ib_O → Prop} {l0 : Nat} {l1 : Int} (hF : jb_F σ) (hl0 : jb_pg σ l0) (hl1 : jb_r l1)
    (h : Q (.inl none, jb_si (jb_si σ l0 0 l1) l0 2 0)) :
    jb_w d 34 0 [some (.ref l0), some (jb_v l1)] [] σ Q := by
  refine jaL0 (p := 1) rfl jM34 jq34_0 ?_
  refine jiL1 (p := 2) rfl jM34 jq34_1 ?_
  refine jw_putI (p := 5) (i := 0) rfl jM34 jq34_2 rfl hl0.ob (Or.inl jz_4_0) ?_
  refine jaL0 (p := 6) rfl jM34 jq34_5 ?_
  refine jw_iconst (p := 7) rfl jM34 jq34_6 ?_
  refine jw_putI (p := 10) (i := 2) rfl jM34 jq34_7 rfl hl0.ob (Or.inl jz_4_2) ?_
  exact jw_vret jM34 jq34_10 h
-- 35 PageLoom$Page.become(LPageLoom$Page;)V
theorem jk35_0 {d : Nat} {σ : ib_H} {Q : ib_O → Prop} {l0 : Nat} {l1 : Nat} (hF : jb_F σ) (hl0 : jb_pg σ l0) (hl1 : l1 ≠ 0 → jb_pg σ l1)
    (h : (l1 ≠ 0) ∧ (jb_w d 35 26 [some (.ref l0), some (.ref l1), some (jb_v 0)] [] (jb_si (jb_si (jb_si σ l0 0 (jb_i σ l1 0)) l0 1 (jb_i (jb_si σ l0 0 (jb_i σ l1 0)) l1 1)) l0 2 (jb_i (jb_si (jb_si σ l0 0 (jb_i σ l1 0)) l0 1 (jb_i (jb_si σ l0 0 (jb_i σ l1 0)) l1 1)) l1 2)) Q)) :
    jb_w d 35 0 [some (.ref l0), some (.ref l1), none] [] σ Q := by
  refine jaL0 (p := 1) rfl jM35 jq35_0 ?_
  refine jaL1 (p := 2) rfl jM35 jq35_1 ?_
  obtain ⟨c1, h1⟩ := h
  refine jw_getI (p := 5) (i := 0) rfl jM35 jq35_2 rfl (hl1 c1).ob jn_4_0 ?_
  refine jw_putI (p := 8) (i := 0) rfl jM35 jq35_5 rfl hl0.ob (Or.inl jz_4_0) ?_
  refine jaL0 (p := 9) rfl jM35 jq35_8 ?_
  refine jaL1 (p := 10) rfl jM35 jq35_9 ?_
  refine jw_getI (p := 13) (i := 1) rfl jM35 jq35_10 rfl (hl1 c1).ob jn_4_1 ?_
  refine jw_putI (p := 16) (i := 1) rfl jM35 jq35_13 rfl hl0.ob (Or.inl jz_4_1) ?_
  refine jaL0 (p := 17) rfl jM35 jq35_16 ?_
  refine jaL1 (p := 18) rfl jM35 jq35_17 ?_
  refine jw_getI (p := 21) (i := 2) rfl jM35 jq35_18 rfl (hl1 c1).ob jn_4_2 ?_
  refine jw_putI (p := 24) (i := 2) rfl jM35 jq35_21 rfl hl0.ob (Or.inl jz_4_2) ?_
  refine jw_iconst (p := 25) rfl jM35 jq35_24 ?_
  refine jiS2 (p := 26) rfl jM35 jq35_25 ?_
  exact h1
theorem jk35_26 {d : Nat} {σ : ib_H} {Q : ib_O → Prop} {l0 : Nat} {l1 : Nat} {l2 : Int} (hF : jb_F σ) (hl0 : jb_pg σ l0) (hl1 : l1 ≠ 0 → jb_pg σ l1) (hl2 : jb_r l2)
    (h : (jb_i σ l0 2 ≤ l2 → Q (.inl none, σ)) ∧ (¬ (jb_i σ l0 2 ≤ l2) → (32 ≤ l2 → Q (.inl none, σ)) ∧ (¬ (32 ≤ l2) → (l1 ≠ 0) ∧ ((0 ≤ l2 ∧ l2 < 32) ∧ (jb_w d 35 26 [some (.ref l0), some (.ref l1), some (jb_v (l2 + 1))] [] (jb_si σ (l0 + 1) l2 (jb_i σ (l1 + 1) l2)) Q))))) :
    jb_w d 35 26 [some (.ref l0), some (.ref l1), some (jb_v l2)] [] σ Q := by
  refine jiL2 (p := 27) rfl jM35 jq35_26 ?_
  refine jaL0 (p := 28) rfl jM35 jq35_27 ?_
  refine jw_getI (p := 31) (i := 2) rfl jM35 jq35_28 rfl hl0.ob jn_4_2 ?_
  refine jw_ic (p := 34) rfl jM35 jq35_31 (jc_ge hl2 (jb_r_i _ _ _)) (fun c1 => ?_) (fun c1 => ?_)
  · have h1 := h.1 c1
    exact jw_vret jM35 jq35_58 h1
  · have h1 := h.2 c1
    refine jiL2 (p := 35) rfl jM35 jq35_34 ?_
    refine jw_bipush (p := 37) rfl jM35 jq35_35 (by decide) ?_
    refine jw_ic (p := 40) rfl jM35 jq35_37 (jc_ge hl2 (jb_rn rfl)) (fun c2 => ?_) (fun c2 => ?_)
    · have h2 := h1.1 c2
      exact jw_vret jM35 jq35_58 h2
    · have h2 := h1.2 c2
      refine jaL0 (p := 41) rfl jM35 jq35_40 ?_
      refine jw_getP (p := 44) (i := 3) rfl jM35 jq35_41 rfl hl0.ob je_4_3 hl0.pc ?_
      refine jiL2 (p := 45) rfl jM35 jq35_44 ?_
      refine jaL1 (p := 46) rfl jM35 jq35_45 ?_
      obtain ⟨c3, h3⟩ := h2
      refine jw_getP (p := 49) (i := 3) rfl jM35 jq35_46 rfl (hl1 c3).ob je_4_3 (hl1 c3).pc ?_
      refine jiL2 (p := 50) rfl jM35 jq35_49 ?_
      obtain ⟨c4, h4⟩ := h3
      refine jw_iald (p := 51) rfl jM35 jq35_50 (hl1 c3).ar c4.1 c4.2 ?_
      refine jw_iast (p := 52) rfl jM35 jq35_51 hl0.ar c4.1 c4.2 ?_
      refine jiI2 (p := 55) rfl jM35 jq35_52 ?_
      refine jw_goto jM35 jq35_55 ?_
      exact h4
-- 36 PageLoom$Page.isBare()Z
theorem jk36_0 {d : Nat} {σ : ib_H} {Q : ib_O → Prop} {l0 : Nat} (hF : jb_F σ) (hl0 : jb_pg σ l0)
    (h : (jb_i σ l0 0 = 0 → Q (.inl (some (jb_v 0)), σ)) ∧ (¬ (jb_i σ l0 0 = 0) → (¬ jb_i σ l0 2 = 0 → Q (.inl (some (jb_v 0)), σ)) ∧ (¬ (¬ jb_i σ l0 2 = 0) → Q (.inl (some (jb_v 1)), σ)))) :
    jb_w d 36 0 [some (.ref l0)] [] σ Q := by
  refine jaL0 (p := 1) rfl jM36 jq36_0 ?_
  refine jw_getI (p := 4) (i := 0) rfl jM36 jq36_1 rfl hl0.ob jn_4_0 ?_
  refine jw_if (p := 7) rfl jM36 jq36_4 (jc_eq (jb_r_i _ _ _) jb_r0) (fun c1 => ?_) (fun c1 => ?_)
  · have h1 := h.1 c1
    refine jw_iconst (p := 19) rfl jM36 jq36_18 ?_
    exact jw_iret jM36 jq36_19 (fun _ => Or.inl rfl) h1
  · have h1 := h.2 c1
    refine jaL0 (p := 8) rfl jM36 jq36_7 ?_
    refine jw_getI (p := 11) (i := 2) rfl jM36 jq36_8 rfl hl0.ob jn_4_2 ?_
    refine jw_if (p := 14) rfl jM36 jq36_11 (jc_ne (jb_r_i _ _ _) jb_r0) (fun c2 => ?_) (fun c2 => ?_)
    · have h2 := h1.1 c2
      refine jw_iconst (p := 19) rfl jM36 jq36_18 ?_
      exact jw_iret jM36 jq36_19 (fun _ => Or.inl rfl) h2
    · have h2 := h1.2 c2
      refine jw_iconst (p := 15) rfl jM36 jq36_14 ?_
      refine jw_goto jM36 jq36_15 ?_
      exact jw_iret jM36 jq36_19 (fun _ => Or.inr rfl) h2
-- 37 PageLoom$Page.cellAt(I)I
theorem jk37_0 {d : Nat} {σ : ib_H} {Q : ib_O → Prop} {l0 : Nat} {l1 : Int} (hF : jb_F σ) (hl0 : jb_pg σ l0) (hl1 : jb_r l1)
    (h : (l1 < 0 → Q (.inl (some (jb_v (-1))), σ)) ∧ (¬ (l1 < 0) → (jb_i σ l0 2 ≤ l1 → Q (.inl (some (jb_v (-1))), σ)) ∧ (¬ (jb_i σ l0 2 ≤ l1) → (32 ≤ l1 → Q (.inl (some (jb_v (-1))), σ)) ∧ (¬ (32 ≤ l1) → (0 ≤ l1 ∧ l1 < 32) ∧ (Q (.inl (some (jb_v (jb_i σ (l0 + 1) l1))), σ)))))) :
    jb_w d 37 0 [some (.ref l0), some (jb_v l1)] [] σ Q := by
  refine jiL1 (p := 1) rfl jM37 jq37_0 ?_
  refine jw_if (p := 4) rfl jM37 jq37_1 (jc_lt hl1 jb_r0) (fun c1 => ?_) (fun c1 => ?_)
  · have h1 := h.1 c1
    refine jw_iconst (p := 28) rfl jM37 jq37_27 ?_
    exact jw_iret jM37 jq37_28 (fun z => absurd z (by decide)) h1
  · have h1 := h.2 c1
    refine jiL1 (p := 5) rfl jM37 jq37_4 ?_
    refine jaL0 (p := 6) rfl jM37 jq37_5 ?_
    refine jw_getI (p := 9) (i := 2) rfl jM37 jq37_6 rfl hl0.ob jn_4_2 ?_
    refine jw_ic (p := 12) rfl jM37 jq37_9 (jc_ge hl1 (jb_r_i _ _ _)) (fun c2 => ?_) (fun c2 => ?_)
    · have h2 := h1.1 c2
      refine jw_iconst (p := 28) rfl jM37 jq37_27 ?_
      exact jw_iret jM37 jq37_28 (fun z => absurd z (by decide)) h2
    · have h2 := h1.2 c2
      refine jiL1 (p := 13) rfl jM37 jq37_12 ?_
      refine jw_bipush (p := 15) rfl jM37 jq37_13 (by decide) ?_
      refine jw_ic (p := 18) rfl jM37 jq37_15 (jc_ge hl1 (jb_rn rfl)) (fun c3 => ?_) (fun c3 => ?_)
      · have h3 := h2.1 c3
        refine jw_iconst (p := 28) rfl jM37 jq37_27 ?_
        exact jw_iret jM37 jq37_28 (fun z => absurd z (by decide)) h3
      · have h3 := h2.2 c3
        refine jaL0 (p := 19) rfl jM37 jq37_18 ?_
        refine jw_getP (p := 22) (i := 3) rfl jM37 jq37_19 rfl hl0.ob je_4_3 hl0.pc ?_
        refine jiL1 (p := 23) rfl jM37 jq37_22 ?_
        obtain ⟨c4, h4⟩ := h3
        refine jw_iald (p := 24) rfl jM37 jq37_23 hl0.ar c4.1 c4.2 ?_
        refine jw_goto jM37 jq37_24 ?_
        exact jw_iret jM37 jq37_28 (fun z => absurd z (by decide)) h4
-- 38 PageLoom$Page.keyAt(I)I
theorem jk38_0 {d : Nat} {σ : ib_H} {Q : ib_O → Prop} {l0 : Nat} {l1 : Int} (hF : jb_F σ) (hl0 : jb_pg σ l0) (hl1 : jb_r l1)
    (h : (l1 < 0 → Q (.inl (some (jb_v (-1))), σ)) ∧ (¬ (l1 < 0) → (jb_i σ l0 2 ≤ l1 → Q (.inl (some (jb_v (-1))), σ)) ∧ (¬ (jb_i σ l0 2 ≤ l1) → (32 ≤ l1 → Q (.inl (some (jb_v (-1))), σ)) ∧ (¬ (32 ≤ l1) → (0 ≤ l1 ∧ l1 < 32) ∧ ((¬ jb_i σ (l0 + 1) l1 = (-1) → (¬ jb_i σ l0 0 = 2 → (0 ≤ (jb_i σ (l0 + 1) l1)) ∧ (Q (.inl (some (jb_v ((jb_i σ (l0 + 1) l1) / 1000))), σ))) ∧ (¬ (¬ jb_i σ l0 0 = 2) → (0 ≤ (jb_i σ (l0 + 1) l1)) ∧ (Q (.inl (some (jb_v ((jb_i σ (l0 + 1) l1) / 100))), σ)))) ∧ (¬ (¬ jb_i σ (l0 + 1) l1 = (-1)) → Q (.inl (some (jb_v (-1))), σ))))))) :
    jb_w (d + 1) 38 0 [some (.ref l0), some (jb_v l1), none] [] σ Q := by
  refine jaL0 (p := 1) rfl jM38 jq38_0 ?_
  refine jiL1 (p := 2) rfl jM38 jq38_1 ?_
  refine jw_callV [(jb_v l1)] jM38 jq38_2 rfl rfl hl0.ob rfl jM37 rfl rfl ?_
  show jb_w d 37 0 [some (.ref l0), some (jb_v l1)] [] σ (jb_k (d + 1) 38 2 [some (.ref l0), some (jb_v l1), none] [] Q)
  refine jiL1 (p := 1) rfl jM37 jq37_0 ?_
  refine jw_if (p := 4) rfl jM37 jq37_1 (jc_lt hl1 jb_r0) (fun c1 => ?_) (fun c1 => ?_)
  · have h1 := h.1 c1
    refine jw_iconst (p := 28) rfl jM37 jq37_27 ?_
    refine jw_iret jM37 jq37_28 (fun z => absurd z (by decide)) ?_
    show jb_w (d + 1) 38 5 [some (.ref l0), some (jb_v l1), none] [(jb_v (-1))] σ Q
    refine jiS2 (p := 6) rfl jM38 jq38_5 ?_
    refine jiL2 (p := 7) rfl jM38 jq38_6 ?_
    refine jw_iconst (p := 8) rfl jM38 jq38_7 ?_
    refine jw_ic (p := 11) rfl jM38 jq38_8 (jc_ne (jb_rn rfl) (jb_rn rfl)) (fun z => absurd z (by decide)) (fun _ => ?_)
    refine jw_iconst (p := 12) rfl jM38 jq38_11 ?_
    exact jw_iret jM38 jq38_12 (fun z => absurd z (by decide)) h1
  · have h1 := h.2 c1
    refine jiL1 (p := 5) rfl jM37 jq37_4 ?_
    refine jaL0 (p := 6) rfl jM37 jq37_5 ?_
    refine jw_getI (p := 9) (i := 2) rfl jM37 jq37_6 rfl hl0.ob jn_4_2 ?_
    refine jw_ic (p := 12) rfl jM37 jq37_9 (jc_ge hl1 (jb_r_i _ _ _)) (fun c2 => ?_) (fun c2 => ?_)
    · have h2 := h1.1 c2
      refine jw_iconst (p := 28) rfl jM37 jq37_27 ?_
      refine jw_iret jM37 jq37_28 (fun z => absurd z (by decide)) ?_
      show jb_w (d + 1) 38 5 [some (.ref l0), some (jb_v l1), none] [(jb_v (-1))] σ Q
      refine jiS2 (p := 6) rfl jM38 jq38_5 ?_
      refine jiL2 (p := 7) rfl jM38 jq38_6 ?_
      refine jw_iconst (p := 8) rfl jM38 jq38_7 ?_
      refine jw_ic (p := 11) rfl jM38 jq38_8 (jc_ne (jb_rn rfl) (jb_rn rfl)) (fun z => absurd z (by decide)) (fun _ => ?_)
      refine jw_iconst (p := 12) rfl jM38 jq38_11 ?_
      exact jw_iret jM38 jq38_12 (fun z => absurd z (by decide)) h2
    · have h2 := h1.2 c2
      refine jiL1 (p := 13) rfl jM37 jq37_12 ?_
      refine jw_bipush (p := 15) rfl jM37 jq37_13 (by decide) ?_
      refine jw_ic (p := 18) rfl jM37 jq37_15 (jc_ge hl1 (jb_rn rfl)) (fun c3 => ?_) (fun c3 => ?_)
      · have h3 := h2.1 c3
        refine jw_iconst (p := 28) rfl jM37 jq37_27 ?_
        refine jw_iret jM37 jq37_28 (fun z => absurd z (by decide)) ?_
        show jb_w (d + 1) 38 5 [some (.ref l0), some (jb_v l1), none] [(jb_v (-1))] σ Q
        refine jiS2 (p := 6) rfl jM38 jq38_5 ?_
        refine jiL2 (p := 7) rfl jM38 jq38_6 ?_
        refine jw_iconst (p := 8) rfl jM38 jq38_7 ?_
        refine jw_ic (p := 11) rfl jM38 jq38_8 (jc_ne (jb_rn rfl) (jb_rn rfl)) (fun z => absurd z (by decide)) (fun _ => ?_)
        refine jw_iconst (p := 12) rfl jM38 jq38_11 ?_
        exact jw_iret jM38 jq38_12 (fun z => absurd z (by decide)) h3
      · have h3 := h2.2 c3
        refine jaL0 (p := 19) rfl jM37 jq37_18 ?_
        refine jw_getP (p := 22) (i := 3) rfl jM37 jq37_19 rfl hl0.ob je_4_3 hl0.pc ?_
        refine jiL1 (p := 23) rfl jM37 jq37_22 ?_
        obtain ⟨c4, h4⟩ := h3
        refine jw_iald (p := 24) rfl jM37 jq37_23 hl0.ar c4.1 c4.2 ?_
        refine jw_goto jM37 jq37_24 ?_
        refine jw_iret jM37 jq37_28 (fun z => absurd z (by decide)) ?_
        show jb_w (d + 1) 38 5 [some (.ref l0), some (jb_v l1), none] [(jb_v (jb_i σ (l0 + 1) l1))] σ Q
        refine jiS2 (p := 6) rfl jM38 jq38_5 ?_
        refine jiL2 (p := 7) rfl jM38 jq38_6 ?_
        refine jw_iconst (p := 8) rfl jM38 jq38_7 ?_
        refine jw_ic (p := 11) rfl jM38 jq38_8 (jc_ne (jb_r_i _ _ _) (jb_rn rfl)) (fun c5 => ?_) (fun c5 => ?_)
        · have h5 := h4.1 c5
          refine jaL0 (p := 14) rfl jM38 jq38_13 ?_
          refine jw_getI (p := 17) (i := 0) rfl jM38 jq38_14 rfl hl0.ob jn_4_0 ?_
          refine jw_iconst (p := 18) rfl jM38 jq38_17 ?_
          refine jw_ic (p := 21) rfl jM38 jq38_18 (jc_ne (jb_r_i _ _ _) (jb_rn rfl)) (fun c6 => ?_) (fun c6 => ?_)
          · have h6 := h5.1 c6
            refine jiL2 (p := 29) rfl jM38 jq38_28 ?_
            refine jw_sipush (p := 32) rfl jM38 jq38_29 (by decide) ?_
            obtain ⟨c7, h7⟩ := h6
            refine jw_idiv (p := 33) rfl jM38 jq38_32 c7 (jb_r_i _ _ _) (by decide) (jb_rn rfl) ?_
            exact jw_iret jM38 jq38_33 (fun z => absurd z (by decide)) h7
          · have h6 := h5.2 c6
            refine jiL2 (p := 22) rfl jM38 jq38_21 ?_
            refine jw_bipush (p := 24) rfl jM38 jq38_22 (by decide) ?_
            obtain ⟨c8, h8⟩ := h6
            refine jw_idiv (p := 25) rfl jM38 jq38_24 c8 (jb_r_i _ _ _) (by decide) (jb_rn rfl) ?_
            refine jw_goto jM38 jq38_25 ?_
            exact jw_iret jM38 jq38_33 (fun z => absurd z (by decide)) h8
        · have h5 := h4.2 c5
          refine jw_iconst (p := 12) rfl jM38 jq38_11 ?_
          exact jw_iret jM38 jq38_12 (fun z => absurd z (by decide)) h5
-- 39 PageLoom$Page.childAt(I)I
theorem jk39_0 {d : Nat} {σ : ib_H} {Q : ib_O → Prop} {l0 : Nat} {l1 : Int} (hF : jb_F σ) (hl0 : jb_pg σ l0) (hl1 : jb_r l1)
    (h : (l1 < 0 → Q (.inl (some (jb_v (-1))), σ)) ∧ (¬ (l1 < 0) → (jb_i σ l0 2 ≤ l1 → Q (.inl (some (jb_v (-1))), σ)) ∧ (¬ (jb_i σ l0 2 ≤ l1) → (32 ≤ l1 → Q (.inl (some (jb_v (-1))), σ)) ∧ (¬ (32 ≤ l1) → (0 ≤ l1 ∧ l1 < 32) ∧ ((¬ jb_i σ (l0 + 1) l1 = (-1) → (0 ≤ (jb_i σ (l0 + 1) l1)) ∧ (Q (.inl (some (jb_v ((jb_i σ (l0 + 1) l1) % 100))), σ))) ∧ (¬ (¬ jb_i σ (l0 + 1) l1 = (-1)) → Q (.inl (some (jb_v (-1))), σ))))))) :
    jb_w (d + 1) 39 0 [some (.ref l0), some (jb_v l1), none] [] σ Q := by
  refine jaL0 (p := 1) rfl jM39 jq39_0 ?_
  refine jiL1 (p := 2) rfl jM39 jq39_1 ?_
  refine jw_callV [(jb_v l1)] jM39 jq39_2 rfl rfl hl0.ob rfl jM37 rfl rfl ?_
  show jb_w d 37 0 [some (.ref l0), some (jb_v l1)] [] σ (jb_k (d + 1) 39 2 [some (.ref l0), some (jb_v l1), none] [] Q)
  refine jiL1 (p := 1) rfl jM37 jq37_0 ?_
  refine jw_if (p := 4) rfl jM37 jq37_1 (jc_lt hl1 jb_r0) (fun c1 => ?_) (fun c1 => ?_)
  · have h1 := h.1 c1
    refine jw_iconst (p := 28) rfl jM37 jq37_27 ?_
    refine jw_iret jM37 jq37_28 (fun z => absurd z (by decide)) ?_
    show jb_w (d + 1) 39 5 [some (.ref l0), some (jb_v l1), none] [(jb_v (-1))] σ Q
    refine jiS2 (p := 6) rfl jM39 jq39_5 ?_
    refine jiL2 (p := 7) rfl jM39 jq39_6 ?_
    refine jw_iconst (p := 8) rfl jM39 jq39_7 ?_
    refine jw_ic (p := 11) rfl jM39 jq39_8 (jc_ne (jb_rn rfl) (jb_rn rfl)) (fun z => absurd z (by decide)) (fun _ => ?_)
    refine jw_iconst (p := 12) rfl jM39 jq39_11 ?_
    refine jw_goto jM39 jq39_12 ?_
    exact jw_iret jM39 jq39_19 (fun z => absurd z (by decide)) h1
  · have h1 := h.2 c1
    refine jiL1 (p := 5) rfl jM37 jq37_4 ?_
    refine jaL0 (p := 6) rfl jM37 jq37_5 ?_
    refine jw_getI (p := 9) (i := 2) rfl jM37 jq37_6 rfl hl0.ob jn_4_2 ?_
    refine jw_ic (p := 12) rfl jM37 jq37_9 (jc_ge hl1 (jb_r_i _ _ _)) (fun c2 => ?_) (fun c2 => ?_)
    · have h2 := h1.1 c2
      refine jw_iconst (p := 28) rfl jM37 jq37_27 ?_
      refine jw_iret jM37 jq37_28 (fun z => absurd z (by decide)) ?_
      show jb_w (d + 1) 39 5 [some (.ref l0), some (jb_v l1), none] [(jb_v (-1))] σ Q
      refine jiS2 (p := 6) rfl jM39 jq39_5 ?_
      refine jiL2 (p := 7) rfl jM39 jq39_6 ?_
      refine jw_iconst (p := 8) rfl jM39 jq39_7 ?_
      refine jw_ic (p := 11) rfl jM39 jq39_8 (jc_ne (jb_rn rfl) (jb_rn rfl)) (fun z => absurd z (by decide)) (fun _ => ?_)
      refine jw_iconst (p := 12) rfl jM39 jq39_11 ?_
      refine jw_goto jM39 jq39_12 ?_
      exact jw_iret jM39 jq39_19 (fun z => absurd z (by decide)) h2
    · have h2 := h1.2 c2
      refine jiL1 (p := 13) rfl jM37 jq37_12 ?_
      refine jw_bipush (p := 15) rfl jM37 jq37_13 (by decide) ?_
      refine jw_ic (p := 18) rfl jM37 jq37_15 (jc_ge hl1 (jb_rn rfl)) (fun c3 => ?_) (fun c3 => ?_)
      · have h3 := h2.1 c3
        refine jw_iconst (p := 28) rfl jM37 jq37_27 ?_
        refine jw_iret jM37 jq37_28 (fun z => absurd z (by decide)) ?_
        show jb_w (d + 1) 39 5 [some (.ref l0), some (jb_v l1), none] [(jb_v (-1))] σ Q
        refine jiS2 (p := 6) rfl jM39 jq39_5 ?_
        refine jiL2 (p := 7) rfl jM39 jq39_6 ?_
        refine jw_iconst (p := 8) rfl jM39 jq39_7 ?_
        refine jw_ic (p := 11) rfl jM39 jq39_8 (jc_ne (jb_rn rfl) (jb_rn rfl)) (fun z => absurd z (by decide)) (fun _ => ?_)
        refine jw_iconst (p := 12) rfl jM39 jq39_11 ?_
        refine jw_goto jM39 jq39_12 ?_
        exact jw_iret jM39 jq39_19 (fun z => absurd z (by decide)) h3
      · have h3 := h2.2 c3
        refine jaL0 (p := 19) rfl jM37 jq37_18 ?_
        refine jw_getP (p := 22) (i := 3) rfl jM37 jq37_19 rfl hl0.ob je_4_3 hl0.pc ?_
        refine jiL1 (p := 23) rfl jM37 jq37_22 ?_
        obtain ⟨c4, h4⟩ := h3
        refine jw_iald (p := 24) rfl jM37 jq37_23 hl0.ar c4.1 c4.2 ?_
        refine jw_goto jM37 jq37_24 ?_
        refine jw_iret jM37 jq37_28 (fun z => absurd z (by decide)) ?_
        show jb_w (d + 1) 39 5 [some (.ref l0), some (jb_v l1), none] [(jb_v (jb_i σ (l0 + 1) l1))] σ Q
        refine jiS2 (p := 6) rfl jM39 jq39_5 ?_
        refine jiL2 (p := 7) rfl jM39 jq39_6 ?_
        refine jw_iconst (p := 8) rfl jM39 jq39_7 ?_
        refine jw_ic (p := 11) rfl jM39 jq39_8 (jc_ne (jb_r_i _ _ _) (jb_rn rfl)) (fun c5 => ?_) (fun c5 => ?_)
        · have h5 := h4.1 c5
          refine jiL2 (p := 16) rfl jM39 jq39_15 ?_
          refine jw_bipush (p := 18) rfl jM39 jq39_16 (by decide) ?_
          obtain ⟨c6, h6⟩ := h5
          refine jw_irem (p := 19) rfl jM39 jq39_18 c6 (jb_r_i _ _ _) (by decide) (jb_rn rfl) ?_
          exact jw_iret jM39 jq39_19 (fun z => absurd z (by decide)) h6
        · have h5 := h4.2 c5
          refine jw_iconst (p := 12) rfl jM39 jq39_11 ?_
          refine jw_goto jM39 jq39_12 ?_
          exact jw_iret jM39 jq39_19 (fun z => absurd z (by decide)) h5
-- 40 PageLoom$Page.childFor(I)I
theorem jk40_0 {d : Nat} {σ : ib_H} {Q : ib_O → Prop} {l0 : Nat} {l1 : Int} (hF : jb_F σ) (hl0 : jb_pg σ l0) (hl1 : jb_r l1)
    (h : jb_w d 40 4 [some (.ref l0), some (jb_v l1), some (jb_v 0), some (jb_v 1)] [] σ Q) :
    jb_w d 40 0 [some (.ref l0), some (jb_v l1), none, none] [] σ Q := by
  refine jw_iconst (p := 1) rfl jM40 jq40_0 ?_
  refine jiS2 (p := 2) rfl jM40 jq40_1 ?_
  refine jw_iconst (p := 3) rfl jM40 jq40_2 ?_
  refine jiS3 (p := 4) rfl jM40 jq40_3 ?_
  exact h
theorem jk40_4 {d : Nat} {σ : ib_H} {Q : ib_O → Prop} {l0 : Nat} {l1 : Int} {l2 : Int} {l3 : Int} (hF : jb_F σ) (hl0 : jb_pg σ l0) (hl1 : jb_r l1) (hl2 : jb_r l2) (hl3 : jb_r l3)
    (h : (jb_i σ l0 2 ≤ l3 → (l2 < 0 → Q (.inl (some (jb_v (-1))), σ)) ∧ (¬ (l2 < 0) → (jb_i σ l0 2 ≤ l2 → Q (.inl (some (jb_v (-1))), σ)) ∧ (¬ (jb_i σ l0 2 ≤ l2) → (32 ≤ l2 → Q (.inl (some (jb_v (-1))), σ)) ∧ (¬ (32 ≤ l2) → (0 ≤ l2 ∧ l2 < 32) ∧ ((¬ jb_i σ (l0 + 1) l2 = (-1) → (0 ≤ (jb_i σ (l0 + 1) l2)) ∧ (Q (.inl (some (jb_v ((jb_i σ (l0 + 1) l2) % 100))), σ))) ∧ (¬ (¬ jb_i σ (l0 + 1) l2 = (-1)) → Q (.inl (some (jb_v (-1))), σ))))))) ∧ (¬ (jb_i σ l0 2 ≤ l3) → (32 ≤ l3 → (l2 < 0 → Q (.inl (some (jb_v (-1))), σ)) ∧ (¬ (l2 < 0) → (jb_i σ l0 2 ≤ l2 → Q (.inl (some (jb_v (-1))), σ)) ∧ (¬ (jb_i σ l0 2 ≤ l2) → (32 ≤ l2 → Q (.inl (some (jb_v (-1))), σ)) ∧ (¬ (32 ≤ l2) → (0 ≤ l2 ∧ l2 < 32) ∧ ((¬ jb_i σ (l0 + 1) l2 = (-1) → (0 ≤ (jb_i σ (l0 + 1) l2)) ∧ (Q (.inl (some (jb_v ((jb_i σ (l0 + 1) l2) % 100))), σ))) ∧ (¬ (¬ jb_i σ (l0 + 1) l2 = (-1)) → Q (.inl (some (jb_v (-1))), σ))))))) ∧ (¬ (32 ≤ l3) → (0 ≤ l3 ∧ l3 < 32) ∧ ((0 ≤ (jb_i σ (l0 + 1) l3)) ∧ ((l1 < (jb_i σ (l0 + 1) l3) / 100 → jb_w (d + 2) 40 4 [some (.ref l0), some (jb_v l1), some (jb_v l2), some (jb_v (l3 + 1))] [] σ Q) ∧ (¬ (l1 < (jb_i σ (l0 + 1) l3) / 100) → jb_w (d + 2) 40 4 [some (.ref l0), some (jb_v l1), some (jb_v l3), some (jb_v (l3 + 1))] [] σ Q)))))) :
    jb_w (d + 2) 40 4 [some (.ref l0), some (jb_v l1), some (jb_v l2), some (jb_v l3)] [] σ Q := by
  refine jiL3 (p := 5) rfl jM40 jq40_4 ?_
  refine jaL0 (p := 6) rfl jM40 jq40_5 ?_
  refine jw_getI (p := 9) (i := 2) rfl jM40 jq40_6 rfl hl0.ob jn_4_2 ?_
  refine jw_ic (p := 12) rfl jM40 jq40_9 (jc_ge hl3 (jb_r_i _ _ _)) (fun c1 => ?_) (fun c1 => ?_)
  · have h1 := h.1 c1
    refine jaL0 (p := 40) rfl jM40 jq40_39 ?_
    refine jiL2 (p := 41) rfl jM40 jq40_40 ?_
    refine jw_callV [(jb_v l2)] jM40 jq40_41 rfl rfl hl0.ob rfl jM39 rfl rfl ?_
    show jb_w (d + 1) 39 0 [some (.ref l0), some (jb_v l2), none] [] σ (jb_k (d + 2) 40 41 [some (.ref l0), some (jb_v l1), some (jb_v l2), some (jb_v l3)] [] Q)
    refine jaL0 (p := 1) rfl jM39 jq39_0 ?_
    refine jiL1 (p := 2) rfl jM39 jq39_1 ?_
    refine jw_callV [(jb_v l2)] jM39 jq39_2 rfl rfl hl0.ob rfl jM37 rfl rfl ?_
    show jb_w d 37 0 [some (.ref l0), some (jb_v l2)] [] σ (jb_k (d + 1) 39 2 [some (.ref l0), some (jb_v l2), none] [] (jb_k (d + 2) 40 41 [some (.ref l0), some (jb_v l1), some (jb_v l2), some (jb_v l3)] [] Q))
    refine jiL1 (p := 1) rfl jM37 jq37_0 ?_
    refine jw_if (p := 4) rfl jM37 jq37_1 (jc_lt hl2 jb_r0) (fun c2 => ?_) (fun c2 => ?_)
    · have h2 := h1.1 c2
      refine jw_iconst (p := 28) rfl jM37 jq37_27 ?_
      refine jw_iret jM37 jq37_28 (fun z => absurd z (by decide)) ?_
      show jb_w (d + 1) 39 5 [some (.ref l0), some (jb_v l2), none] [(jb_v (-1))] σ (jb_k (d + 2) 40 41 [some (.ref l0), some (jb_v l1), some (jb_v l2), some (jb_v l3)] [] Q)
      refine jiS2 (p := 6) rfl jM39 jq39_5 ?_
      refine jiL2 (p := 7) rfl jM39 jq39_6 ?_
      refine jw_iconst (p := 8) rfl jM39 jq39_7 ?_
      refine jw_ic (p := 11) rfl jM39 jq39_8 (jc_ne (jb_rn rfl) (jb_rn rfl)) (fun z => absurd z (by decide)) (fun _ => ?_)
      refine jw_iconst (p := 12) rfl jM39 jq39_11 ?_
      refine jw_goto jM39 jq39_12 ?_
      refine jw_iret jM39 jq39_19 (fun z => absurd z (by decide)) ?_
      show jb_w (d + 2) 40 44 [some (.ref l0), some (jb_v l1), some (jb_v l2), some (jb_v l3)] [(jb_v (-1))] σ Q
      exact jw_iret jM40 jq40_44 (fun z => absurd z (by decide)) h2
    · have h2 := h1.2 c2
      refine jiL1 (p := 5) rfl jM37 jq37_4 ?_
      refine jaL0 (p := 6) rfl jM37 jq37_5 ?_
      refine jw_getI (p := 9) (i := 2) rfl jM37 jq37_6 rfl hl0.ob jn_4_2 ?_
      refine jw_ic (p := 12) rfl jM37 jq37_9 (jc_ge hl2 (jb_r_i _ _ _)) (fun c3 => ?_) (fun c3 => ?_)
      · have h3 := h2.1 c3
        refine jw_iconst (p := 28) rfl jM37 jq37_27 ?_
        refine jw_iret jM37 jq37_28 (fun z => absurd z (by decide)) ?_
        show jb_w (d + 1) 39 5 [some (.ref l0), some (jb_v l2), none] [(jb_v (-1))] σ (jb_k (d + 2) 40 41 [some (.ref l0), some (jb_v l1), some (jb_v l2), some (jb_v l3)] [] Q)
        refine jiS2 (p := 6) rfl jM39 jq39_5 ?_
        refine jiL2 (p := 7) rfl jM39 jq39_6 ?_
        refine jw_iconst (p := 8) rfl jM39 jq39_7 ?_
        refine jw_ic (p := 11) rfl jM39 jq39_8 (jc_ne (jb_rn rfl) (jb_rn rfl)) (fun z => absurd z (by decide)) (fun _ => ?_)
        refine jw_iconst (p := 12) rfl jM39 jq39_11 ?_
        refine jw_goto jM39 jq39_12 ?_
        refine jw_iret jM39 jq39_19 (fun z => absurd z (by decide)) ?_
        show jb_w (d + 2) 40 44 [some (.ref l0), some (jb_v l1), some (jb_v l2), some (jb_v l3)] [(jb_v (-1))] σ Q
        exact jw_iret jM40 jq40_44 (fun z => absurd z (by decide)) h3
      · have h3 := h2.2 c3
        refine jiL1 (p := 13) rfl jM37 jq37_12 ?_
        refine jw_bipush (p := 15) rfl jM37 jq37_13 (by decide) ?_
        refine jw_ic (p := 18) rfl jM37 jq37_15 (jc_ge hl2 (jb_rn rfl)) (fun c4 => ?_) (fun c4 => ?_)
        · have h4 := h3.1 c4
          refine jw_iconst (p := 28) rfl jM37 jq37_27 ?_
          refine jw_iret jM37 jq37_28 (fun z => absurd z (by decide)) ?_
          show jb_w (d + 1) 39 5 [some (.ref l0), some (jb_v l2), none] [(jb_v (-1))] σ (jb_k (d + 2) 40 41 [some (.ref l0), some (jb_v l1), some (jb_v l2), some (jb_v l3)] [] Q)
          refine jiS2 (p := 6) rfl jM39 jq39_5 ?_
          refine jiL2 (p := 7) rfl jM39 jq39_6 ?_
          refine jw_iconst (p := 8) rfl jM39 jq39_7 ?_
          refine jw_ic (p := 11) rfl jM39 jq39_8 (jc_ne (jb_rn rfl) (jb_rn rfl)) (fun z => absurd z (by decide)) (fun _ => ?_)
          refine jw_iconst (p := 12) rfl jM39 jq39_11 ?_
          refine jw_goto jM39 jq39_12 ?_
          refine jw_iret jM39 jq39_19 (fun z => absurd z (by decide)) ?_
          show jb_w (d + 2) 40 44 [some (.ref l0), some (jb_v l1), some (jb_v l2), some (jb_v l3)] [(jb_v (-1))] σ Q
          exact jw_iret jM40 jq40_44 (fun z => absurd z (by decide)) h4
        · have h4 := h3.2 c4
          refine jaL0 (p := 19) rfl jM37 jq37_18 ?_
          refine jw_getP (p := 22) (i := 3) rfl jM37 jq37_19 rfl hl0.ob je_4_3 hl0.pc ?_
          refine jiL1 (p := 23) rfl jM37 jq37_22 ?_
          obtain ⟨c5, h5⟩ := h4
          refine jw_iald (p := 24) rfl jM37 jq37_23 hl0.ar c5.1 c5.2 ?_
          refine jw_goto jM37 jq37_24 ?_
          refine jw_iret jM37 jq37_28 (fun z => absurd z (by decide)) ?_
          show jb_w (d + 1) 39 5 [some (.ref l0), some (jb_v l2), none] [(jb_v (jb_i σ (l0 + 1) l2))] σ (jb_k (d + 2) 40 41 [some (.ref l0), some (jb_v l1), some (jb_v l2), some (jb_v l3)] [] Q)
          refine jiS2 (p := 6) rfl jM39 jq39_5 ?_
          refine jiL2 (p := 7) rfl jM39 jq39_6 ?_
          refine jw_iconst (p := 8) rfl jM39 jq39_7 ?_
          refine jw_ic (p := 11) rfl jM39 jq39_8 (jc_ne (jb_r_i _ _ _) (jb_rn rfl)) (fun c6 => ?_) (fun c6 => ?_)
          · have h6 := h5.1 c6
            refine jiL2 (p := 16) rfl jM39 jq39_15 ?_
            refine jw_bipush (p := 18) rfl jM39 jq39_16 (by decide) ?_
            obtain ⟨c7, h7⟩ := h6
            refine jw_irem (p := 19) rfl jM39 jq39_18 c7 (jb_r_i _ _ _) (by decide) (jb_rn rfl) ?_
            refine jw_iret jM39 jq39_19 (fun z => absurd z (by decide)) ?_
            show jb_w (d + 2) 40 44 [some (.ref l0), some (jb_v l1), some (jb_v l2), some (jb_v l3)] [(jb_v ((jb_i σ (l0 + 1) l2) % 100))] σ Q
            exact jw_iret jM40 jq40_44 (fun z => absurd z (by decide)) h7
          · have h6 := h5.2 c6
            refine jw_iconst (p := 12) rfl jM39 jq39_11 ?_
            refine jw_goto jM39 jq39_12 ?_
            refine jw_iret jM39 jq39_19 (fun z => absurd z (by decide)) ?_
            show jb_w (d + 2) 40 44 [some (.ref l0), some (jb_v l1), some (jb_v l2), some (jb_v l3)] [(jb_v (-1))] σ Q
            exact jw_iret jM40 jq40_44 (fun z => absurd z (by decide)) h6
  · have h1 := h.2 c1
    refine jiL3 (p := 13) rfl jM40 jq40_12 ?_
    refine jw_bipush (p := 15) rfl jM40 jq40_13 (by decide) ?_
    refine jw_ic (p := 18) rfl jM40 jq40_15 (jc_ge hl3 (jb_rn rfl)) (fun c8 => ?_) (fun c8 => ?_)
    · have h8 := h1.1 c8
      refine jaL0 (p := 40) rfl jM40 jq40_39 ?_
      refine jiL2 (p := 41) rfl jM40 jq40_40 ?_
      refine jw_callV [(jb_v l2)] jM40 jq40_41 rfl rfl hl0.ob rfl jM39 rfl rfl ?_
      show jb_w (d + 1) 39 0 [some (.ref l0), some (jb_v l2), none] [] σ (jb_k (d + 2) 40 41 [some (.ref l0), some (jb_v l1), some (jb_v l2), some (jb_v l3)] [] Q)
      refine jaL0 (p := 1) rfl jM39 jq39_0 ?_
      refine jiL1 (p := 2) rfl jM39 jq39_1 ?_
      refine jw_callV [(jb_v l2)] jM39 jq39_2 rfl rfl hl0.ob rfl jM37 rfl rfl ?_
      show jb_w d 37 0 [some (.ref l0), some (jb_v l2)] [] σ (jb_k (d + 1) 39 2 [some (.ref l0), some (jb_v l2), none] [] (jb_k (d + 2) 40 41 [some (.ref l0), some (jb_v l1), some (jb_v l2), some (jb_v l3)] [] Q))
      refine jiL1 (p := 1) rfl jM37 jq37_0 ?_
      refine jw_if (p := 4) rfl jM37 jq37_1 (jc_lt hl2 jb_r0) (fun c9 => ?_) (fun c9 => ?_)
      · have h9 := h8.1 c9
        refine jw_iconst (p := 28) rfl jM37 jq37_27 ?_
        refine jw_iret jM37 jq37_28 (fun z => absurd z (by decide)) ?_
        show jb_w (d + 1) 39 5 [some (.ref l0), some (jb_v l2), none] [(jb_v (-1))] σ (jb_k (d + 2) 40 41 [some (.ref l0), some (jb_v l1), some (jb_v l2), some (jb_v l3)] [] Q)
        refine jiS2 (p := 6) rfl jM39 jq39_5 ?_
        refine jiL2 (p := 7) rfl jM39 jq39_6 ?_
        refine jw_iconst (p := 8) rfl jM39 jq39_7 ?_
        refine jw_ic (p := 11) rfl jM39 jq39_8 (jc_ne (jb_rn rfl) (jb_rn rfl)) (fun z => absurd z (by decide)) (fun _ => ?_)
        refine jw_iconst (p := 12) rfl jM39 jq39_11 ?_
        refine jw_goto jM39 jq39_12 ?_
        refine jw_iret jM39 jq39_19 (fun z => absurd z (by decide)) ?_
        show jb_w (d + 2) 40 44 [some (.ref l0), some (jb_v l1), some (jb_v l2), some (jb_v l3)] [(jb_v (-1))] σ Q
        exact jw_iret jM40 jq40_44 (fun z => absurd z (by decide)) h9
      · have h9 := h8.2 c9
        refine jiL1 (p := 5) rfl jM37 jq37_4 ?_
        refine jaL0 (p := 6) rfl jM37 jq37_5 ?_
        refine jw_getI (p := 9) (i := 2) rfl jM37 jq37_6 rfl hl0.ob jn_4_2 ?_
        refine jw_ic (p := 12) rfl jM37 jq37_9 (jc_ge hl2 (jb_r_i _ _ _)) (fun c10 => ?_) (fun c10 => ?_)
        · have h10 := h9.1 c10
          refine jw_iconst (p := 28) rfl jM37 jq37_27 ?_
          refine jw_iret jM37 jq37_28 (fun z => absurd z (by decide)) ?_
          show jb_w (d + 1) 39 5 [some (.ref l0), some (jb_v l2), none] [(jb_v (-1))] σ (jb_k (d + 2) 40 41 [some (.ref l0), some (jb_v l1), some (jb_v l2), some (jb_v l3)] [] Q)
          refine jiS2 (p := 6) rfl jM39 jq39_5 ?_
          refine jiL2 (p := 7) rfl jM39 jq39_6 ?_
          refine jw_iconst (p := 8) rfl jM39 jq39_7 ?_
          refine jw_ic (p := 11) rfl jM39 jq39_8 (jc_ne (jb_rn rfl) (jb_rn rfl)) (fun z => absurd z (by decide)) (fun _ => ?_)
          refine jw_iconst (p := 12) rfl jM39 jq39_11 ?_
          refine jw_goto jM39 jq39_12 ?_
          refine jw_iret jM39 jq39_19 (fun z => absurd z (by decide)) ?_
          show jb_w (d + 2) 40 44 [some (.ref l0), some (jb_v l1), some (jb_v l2), some (jb_v l3)] [(jb_v (-1))] σ Q
          exact jw_iret jM40 jq40_44 (fun z => absurd z (by decide)) h10
        · have h10 := h9.2 c10
          refine jiL1 (p := 13) rfl jM37 jq37_12 ?_
          refine jw_bipush (p := 15) rfl jM37 jq37_13 (by decide) ?_
          refine jw_ic (p := 18) rfl jM37 jq37_15 (jc_ge hl2 (jb_rn rfl)) (fun c11 => ?_) (fun c11 => ?_)
          · have h11 := h10.1 c11
            refine jw_iconst (p := 28) rfl jM37 jq37_27 ?_
            refine jw_iret jM37 jq37_28 (fun z => absurd z (by decide)) ?_
            show jb_w (d + 1) 39 5 [some (.ref l0), some (jb_v l2), none] [(jb_v (-1))] σ (jb_k (d + 2) 40 41 [some (.ref l0), some (jb_v l1), some (jb_v l2), some (jb_v l3)] [] Q)
            refine jiS2 (p := 6) rfl jM39 jq39_5 ?_
            refine jiL2 (p := 7) rfl jM39 jq39_6 ?_
            refine jw_iconst (p := 8) rfl jM39 jq39_7 ?_
            refine jw_ic (p := 11) rfl jM39 jq39_8 (jc_ne (jb_rn rfl) (jb_rn rfl)) (fun z => absurd z (by decide)) (fun _ => ?_)
            refine jw_iconst (p := 12) rfl jM39 jq39_11 ?_
            refine jw_goto jM39 jq39_12 ?_
            refine jw_iret jM39 jq39_19 (fun z => absurd z (by decide)) ?_
            show jb_w (d + 2) 40 44 [some (.ref l0), some (jb_v l1), some (jb_v l2), some (jb_v l3)] [(jb_v (-1))] σ Q
            exact jw_iret jM40 jq40_44 (fun z => absurd z (by decide)) h11
          · have h11 := h10.2 c11
            refine jaL0 (p := 19) rfl jM37 jq37_18 ?_
            refine jw_getP (p := 22) (i := 3) rfl jM37 jq37_19 rfl hl0.ob je_4_3 hl0.pc ?_
            refine jiL1 (p := 23) rfl jM37 jq37_22 ?_
            obtain ⟨c12, h12⟩ := h11
            refine jw_iald (p := 24) rfl jM37 jq37_23 hl0.ar c12.1 c12.2 ?_
            refine jw_goto jM37 jq37_24 ?_
            refine jw_iret jM37 jq37_28 (fun z => absurd z (by decide)) ?_
            show jb_w (d + 1) 39 5 [some (.ref l0), some (jb_v l2), none] [(jb_v (jb_i σ (l0 + 1) l2))] σ (jb_k (d + 2) 40 41 [some (.ref l0), some (jb_v l1), some (jb_v l2), some (jb_v l3)] [] Q)
            refine jiS2 (p := 6) rfl jM39 jq39_5 ?_
            refine jiL2 (p := 7) rfl jM39 jq39_6 ?_
            refine jw_iconst (p := 8) rfl jM39 jq39_7 ?_
            refine jw_ic (p := 11) rfl jM39 jq39_8 (jc_ne (jb_r_i _ _ _) (jb_rn rfl)) (fun c13 => ?_) (fun c13 => ?_)
            · have h13 := h12.1 c13
              refine jiL2 (p := 16) rfl jM39 jq39_15 ?_
              refine jw_bipush (p := 18) rfl jM39 jq39_16 (by decide) ?_
              obtain ⟨c14, h14⟩ := h13
              refine jw_irem (p := 19) rfl jM39 jq39_18 c14 (jb_r_i _ _ _) (by decide) (jb_rn rfl) ?_
              refine jw_iret jM39 jq39_19 (fun z => absurd z (by decide)) ?_
              show jb_w (d + 2) 40 44 [some (.ref l0), some (jb_v l1), some (jb_v l2), some (jb_v l3)] [(jb_v ((jb_i σ (l0 + 1) l2) % 100))] σ Q
              exact jw_iret jM40 jq40_44 (fun z => absurd z (by decide)) h14
            · have h13 := h12.2 c13
              refine jw_iconst (p := 12) rfl jM39 jq39_11 ?_
              refine jw_goto jM39 jq39_12 ?_
              refine jw_iret jM39 jq39_19 (fun z => absurd z (by decide)) ?_
              show jb_w (d + 2) 40 44 [some (.ref l0), some (jb_v l1), some (jb_v l2), some (jb_v l3)] [(jb_v (-1))] σ Q
              exact jw_iret jM40 jq40_44 (fun z => absurd z (by decide)) h13
    · have h8 := h1.2 c8
      refine jaL0 (p := 19) rfl jM40 jq40_18 ?_
      refine jw_getP (p := 22) (i := 3) rfl jM40 jq40_19 rfl hl0.ob je_4_3 hl0.pc ?_
      refine jiL3 (p := 23) rfl jM40 jq40_22 ?_
      obtain ⟨c15, h15⟩ := h8
      refine jw_iald (p := 24) rfl jM40 jq40_23 hl0.ar c15.1 c15.2 ?_
      refine jw_bipush (p := 26) rfl jM40 jq40_24 (by decide) ?_
      obtain ⟨c16, h16⟩ := h15
      refine jw_idiv (p := 27) rfl jM40 jq40_26 c16 (jb_r_i _ _ _) (by decide) (jb_rn rfl) ?_
      refine jiL1 (p := 28) rfl jM40 jq40_27 ?_
      refine jw_ic (p := 31) rfl jM40 jq40_28 (jc_gt (jb_r_div c16 (jb_r_i _ _ _) (by decide)) hl1) (fun c17 => ?_) (fun c17 => ?_)
      · have h17 := h16.1 c17
        refine jiI3 (p := 36) rfl jM40 jq40_33 ?_
        refine jw_goto jM40 jq40_36 ?_
        exact h17
      · have h17 := h16.2 c17
        refine jiL3 (p := 32) rfl jM40 jq40_31 ?_
        refine jiS2 (p := 33) rfl jM40 jq40_32 ?_
        refine jiI3 (p := 36) rfl jM40 jq40_33 ?_
        refine jw_goto jM40 jq40_36 ?_
        exact h17
-- 41 PageLoom$Page.placeOfChild(I)I
theorem jk41_0 {d : Nat} {σ : ib_H} {Q : ib_O → Prop} {l0 : Nat} {l1 : Int} (hF : jb_F σ) (hl0 : jb_pg σ l0) (hl1 : jb_r l1)
    (h : jb_w d 41 2 [some (.ref l0), some (jb_v l1), some (jb_v 0)] [] σ Q) :
    jb_w d 41 0 [some (.ref l0), some (jb_v l1), none] [] σ Q := by
  refine jw_iconst (p := 1) rfl jM41 jq41_0 ?_
  refine jiS2 (p := 2) rfl jM41 jq41_1 ?_
  exact h
theorem jk41_2 {d : Nat} {σ : ib_H} {Q : ib_O → Prop} {l0 : Nat} {l1 : Int} {l2 : Int} (hF : jb_F σ) (hl0 : jb_pg σ l0) (hl1 : jb_r l1) (hl2 : jb_r l2)
    (h : (jb_i σ l0 2 ≤ l2 → Q (.inl (some (jb_v (-1))), σ)) ∧ (¬ (jb_i σ l0 2 ≤ l2) → (32 ≤ l2 → Q (.inl (some (jb_v (-1))), σ)) ∧ (¬ (32 ≤ l2) → (0 ≤ l2 ∧ l2 < 32) ∧ ((0 ≤ (jb_i σ (l0 + 1) l2)) ∧ ((¬ (jb_i σ (l0 + 1) l2) % 100 = l1 → jb_w d 41 2 [some (.ref l0), some (jb_v l1), some (jb_v (l2 + 1))] [] σ Q) ∧ (¬ (¬ (jb_i σ (l0 + 1) l2) % 100 = l1) → Q (.inl (some (jb_v l2)), σ))))))) :
    jb_w d 41 2 [some (.ref l0), some (jb_v l1), some (jb_v l2)] [] σ Q := by
  refine jiL2 (p := 3) rfl jM41 jq41_2 ?_
  refine jaL0 (p := 4) rfl jM41 jq41_3 ?_
  refine jw_getI (p := 7) (i := 2) rfl jM41 jq41_4 rfl hl0.ob jn_4_2 ?_
  refine jw_ic (p := 10) rfl jM41 jq41_7 (jc_ge hl2 (jb_r_i _ _ _)) (fun c1 => ?_) (fun c1 => ?_)
  · have h1 := h.1 c1
    refine jw_iconst (p := 38) rfl jM41 jq41_37 ?_
    exact jw_iret jM41 jq41_38 (fun z => absurd z (by decide)) h1
  · have h1 := h.2 c1
    refine jiL2 (p := 11) rfl jM41 jq41_10 ?_
    refine jw_bipush (p := 13) rfl jM41 jq41_11 (by decide) ?_
    refine jw_ic (p := 16) rfl jM41 jq41_13 (jc_ge hl2 (jb_rn rfl)) (fun c2 => ?_) (fun c2 => ?_)
    · have h2 := h1.1 c2
      refine jw_iconst (p := 38) rfl jM41 jq41_37 ?_
      exact jw_iret jM41 jq41_38 (fun z => absurd z (by decide)) h2
    · have h2 := h1.2 c2
      refine jaL0 (p := 17) rfl jM41 jq41_16 ?_
      refine jw_getP (p := 20) (i := 3) rfl jM41 jq41_17 rfl hl0.ob je_4_3 hl0.pc ?_
      refine jiL2 (p := 21) rfl jM41 jq41_20 ?_
      obtain ⟨c3, h3⟩ := h2
      refine jw_iald (p := 22) rfl jM41 jq41_21 hl0.ar c3.1 c3.2 ?_
      refine jw_bipush (p := 24) rfl jM41 jq41_22 (by decide) ?_
      obtain ⟨c4, h4⟩ := h3
      refine jw_irem (p := 25) rfl jM41 jq41_24 c4 (jb_r_i _ _ _) (by decide) (jb_rn rfl) ?_
      refine jiL1 (p := 26) rfl jM41 jq41_25 ?_
      refine jw_ic (p := 29) rfl jM41 jq41_26 (jc_ne (jb_r_rem c4 (jb_r_i _ _ _) (by decide)) hl1) (fun c5 => ?_) (fun c5 => ?_)
      · have h5 := h4.1 c5
        refine jiI2 (p := 34) rfl jM41 jq41_31 ?_
        refine jw_goto jM41 jq41_34 ?_
        exact h5
      · have h5 := h4.2 c5
        refine jiL2 (p := 30) rfl jM41 jq41_29 ?_
        exact jw_iret jM41 jq41_30 (fun z => absurd z (by decide)) h5
-- 42 PageLoom$Page.valueOf(I)I
theorem jk42_0 {d : Nat} {σ : ib_H} {Q : ib_O → Prop} {l0 : Nat} {l1 : Int} (hF : jb_F σ) (hl0 : jb_pg σ l0) (hl1 : jb_r l1)
    (h : jb_w d 44 0 [some (.ref l0), some (jb_v l1), none] [] σ (jb_k (d + 1) 42 2 [some (.ref l0), some (jb_v l1), none, none] [] Q)) :
    jb_w (d + 1) 42 0 [some (.ref l0), some (jb_v l1), none, none] [] σ Q := by
  refine jaL0 (p := 1) rfl jM42 jq42_0 ?_
  refine jiL1 (p := 2) rfl jM42 jq42_1 ?_
  refine jw_callV [(jb_v l1)] jM42 jq42_2 rfl rfl hl0.ob rfl jM44 rfl rfl ?_
  exact h
theorem jk42_5 {d : Nat} {σ : ib_H} {Q : ib_O → Prop} {l0 : Nat} {l1 : Int} {s0 : Int} (hF : jb_F σ) (hl0 : jb_pg σ l0) (hl1 : jb_r l1) (hs0 : jb_r s0)
    (h : (s0 < 0 → Q (.inl (some (jb_v (-1))), σ)) ∧ (¬ (s0 < 0) → (jb_i σ l0 2 ≤ s0 → Q (.inl (some (jb_v (-1))), σ)) ∧ (¬ (jb_i σ l0 2 ≤ s0) → (32 ≤ s0 → Q (.inl (some (jb_v (-1))), σ)) ∧ (¬ (32 ≤ s0) → (0 ≤ s0 ∧ s0 < 32) ∧ ((jb_i σ (l0 + 1) s0 = (-1) → Q (.inl (some (jb_v (-1))), σ)) ∧ (¬ (jb_i σ (l0 + 1) s0 = (-1)) → (0 ≤ (jb_i σ (l0 + 1) s0)) ∧ ((¬ (jb_i σ (l0 + 1) s0) / 1000 = l1 → Q (.inl (some (jb_v (-1))), σ)) ∧ (¬ (¬ (jb_i σ (l0 + 1) s0) / 1000 = l1) → (0 ≤ (jb_i σ (l0 + 1) s0)) ∧ (Q (.inl (some (jb_v ((jb_i σ (l0 + 1) s0) % 1000))), σ)))))))))) :
    jb_w (d + 1) 42 5 [some (.ref l0), some (jb_v l1), none, none] [(jb_v s0)] σ Q := by
  refine jiS2 (p := 6) rfl jM42 jq42_5 ?_
  refine jaL0 (p := 7) rfl jM42 jq42_6 ?_
  refine jiL2 (p := 8) rfl jM42 jq42_7 ?_
  refine jw_callV [(jb_v s0)] jM42 jq42_8 rfl rfl hl0.ob rfl jM37 rfl rfl ?_
  show jb_w d 37 0 [some (.ref l0), some (jb_v s0)] [] σ (jb_k (d + 1) 42 8 [some (.ref l0), some (jb_v l1), some (jb_v s0), none] [] Q)
  refine jiL1 (p := 1) rfl jM37 jq37_0 ?_
  refine jw_if (p := 4) rfl jM37 jq37_1 (jc_lt hs0 jb_r0) (fun c1 => ?_) (fun c1 => ?_)
  · have h1 := h.1 c1
    refine jw_iconst (p := 28) rfl jM37 jq37_27 ?_
    refine jw_iret jM37 jq37_28 (fun z => absurd z (by decide)) ?_
    show jb_w (d + 1) 42 11 [some (.ref l0), some (jb_v l1), some (jb_v s0), none] [(jb_v (-1))] σ Q
    refine jiS3 (p := 12) rfl jM42 jq42_11 ?_
    refine jiL3 (p := 13) rfl jM42 jq42_12 ?_
    refine jw_iconst (p := 14) rfl jM42 jq42_13 ?_
    refine jw_ic (p := 17) rfl jM42 jq42_14 (jc_eq (jb_rn rfl) (jb_rn rfl)) (fun _ => ?_) (fun z => absurd (by decide) z)
    refine jw_iconst (p := 35) rfl jM42 jq42_34 ?_
    exact jw_iret jM42 jq42_35 (fun z => absurd z (by decide)) h1
  · have h1 := h.2 c1
    refine jiL1 (p := 5) rfl jM37 jq37_4 ?_
    refine jaL0 (p := 6) rfl jM37 jq37_5 ?_
    refine jw_getI (p := 9) (i := 2) rfl jM37 jq37_6 rfl hl0.ob jn_4_2 ?_
    refine jw_ic (p := 12) rfl jM37 jq37_9 (jc_ge hs0 (jb_r_i _ _ _)) (fun c2 => ?_) (fun c2 => ?_)
    · have h2 := h1.1 c2
      refine jw_iconst (p := 28) rfl jM37 jq37_27 ?_
      refine jw_iret jM37 jq37_28 (fun z => absurd z (by decide)) ?_
      show jb_w (d + 1) 42 11 [some (.ref l0), some (jb_v l1), some (jb_v s0), none] [(jb_v (-1))] σ Q
      refine jiS3 (p := 12) rfl jM42 jq42_11 ?_
      refine jiL3 (p := 13) rfl jM42 jq42_12 ?_
      refine jw_iconst (p := 14) rfl jM42 jq42_13 ?_
      refine jw_ic (p := 17) rfl jM42 jq42_14 (jc_eq (jb_rn rfl) (jb_rn rfl)) (fun _ => ?_) (fun z => absurd (by decide) z)
      refine jw_iconst (p := 35) rfl jM42 jq42_34 ?_
      exact jw_iret jM42 jq42_35 (fun z => absurd z (by decide)) h2
    · have h2 := h1.2 c2
      refine jiL1 (p := 13) rfl jM37 jq37_12 ?_
      refine jw_bipush (p := 15) rfl jM37 jq37_13 (by decide) ?_
      refine jw_ic (p := 18) rfl jM37 jq37_15 (jc_ge hs0 (jb_rn rfl)) (fun c3 => ?_) (fun c3 => ?_)
      · have h3 := h2.1 c3
        refine jw_iconst (p := 28) rfl jM37 jq37_27 ?_
        refine jw_iret jM37 jq37_28 (fun z => absurd z (by decide)) ?_
        show jb_w (d + 1) 42 11 [some (.ref l0), some (jb_v l1), some (jb_v s0), none] [(jb_v (-1))] σ Q
        refine jiS3 (p := 12) rfl jM42 jq42_11 ?_
        refine jiL3 (p := 13) rfl jM42 jq42_12 ?_
        refine jw_iconst (p := 14) rfl jM42 jq42_13 ?_
        refine jw_ic (p := 17) rfl jM42 jq42_14 (jc_eq (jb_rn rfl) (jb_rn rfl)) (fun _ => ?_) (fun z => absurd (by decide) z)
        refine jw_iconst (p := 35) rfl jM42 jq42_34 ?_
        exact jw_iret jM42 jq42_35 (fun z => absurd z (by decide)) h3
      · have h3 := h2.2 c3
        refine jaL0 (p := 19) rfl jM37 jq37_18 ?_
        refine jw_getP (p := 22) (i := 3) rfl jM37 jq37_19 rfl hl0.ob je_4_3 hl0.pc ?_
        refine jiL1 (p := 23) rfl jM37 jq37_22 ?_
        obtain ⟨c4, h4⟩ := h3
        refine jw_iald (p := 24) rfl jM37 jq37_23 hl0.ar c4.1 c4.2 ?_
        refine jw_goto jM37 jq37_24 ?_
        refine jw_iret jM37 jq37_28 (fun z => absurd z (by decide)) ?_
        show jb_w (d + 1) 42 11 [some (.ref l0), some (jb_v l1), some (jb_v s0), none] [(jb_v (jb_i σ (l0 + 1) s0))] σ Q
        refine jiS3 (p := 12) rfl jM42 jq42_11 ?_
        refine jiL3 (p := 13) rfl jM42 jq42_12 ?_
        refine jw_iconst (p := 14) rfl jM42 jq42_13 ?_
        refine jw_ic (p := 17) rfl jM42 jq42_14 (jc_eq (jb_r_i _ _ _) (jb_rn rfl)) (fun c5 => ?_) (fun c5 => ?_)
        · have h5 := h4.1 c5
          refine jw_iconst (p := 35) rfl jM42 jq42_34 ?_
          exact jw_iret jM42 jq42_35 (fun z => absurd z (by decide)) h5
        · have h5 := h4.2 c5
          refine jiL3 (p := 18) rfl jM42 jq42_17 ?_
          refine jw_sipush (p := 21) rfl jM42 jq42_18 (by decide) ?_
          obtain ⟨c6, h6⟩ := h5
          refine jw_idiv (p := 22) rfl jM42 jq42_21 c6 (jb_r_i _ _ _) (by decide) (jb_rn rfl) ?_
          refine jiL1 (p := 23) rfl jM42 jq42_22 ?_
          refine jw_ic (p := 26) rfl jM42 jq42_23 (jc_ne (jb_r_div c6 (jb_r_i _ _ _) (by decide)) hl1) (fun c7 => ?_) (fun c7 => ?_)
          · have h7 := h6.1 c7
            refine jw_iconst (p := 35) rfl jM42 jq42_34 ?_
            exact jw_iret jM42 jq42_35 (fun z => absurd z (by decide)) h7
          · have h7 := h6.2 c7
            refine jiL3 (p := 27) rfl jM42 jq42_26 ?_
            refine jw_sipush (p := 30) rfl jM42 jq42_27 (by decide) ?_
            obtain ⟨c8, h8⟩ := h7
            refine jw_irem (p := 31) rfl jM42 jq42_30 c8 (jb_r_i _ _ _) (by decide) (jb_rn rfl) ?_
            refine jw_goto jM42 jq42_31 ?_
            exact jw_iret jM42 jq42_35 (fun z => absurd z (by decide)) h8
-- 43 PageLoom$Page.setValue(II)V
theorem jk43_0 {d : Nat} {σ : ib_H} {Q : ib_O → Prop} {l0 : Nat} {l1 : Int} {l2 : Int} (hF : jb_F σ) (hl0 : jb_pg σ l0) (hl1 : jb_r l1) (hl2 : jb_r l2)
    (h : jb_w d 44 0 [some (.ref l0), some (jb_v l1), none] [] σ (jb_k (d + 1) 43 2 [some (.ref l0), some (jb_v l1), some (jb_v l2), none, none] [] Q)) :
    jb_w (d + 1) 43 0 [some (.ref l0), some (jb_v l1), some (jb_v l2), none, none] [] σ Q := by
  refine jaL0 (p := 1) rfl jM43 jq43_0 ?_
  refine jiL1 (p := 2) rfl jM43 jq43_1 ?_
  refine jw_callV [(jb_v l1)] jM43 jq43_2 rfl rfl hl0.ob rfl jM44 rfl rfl ?_
  exact h
theorem jk43_5 {d : Nat} {σ : ib_H} {Q : ib_O → Prop} {l0 : Nat} {l1 : Int} {l2 : Int} {s0 : Int} (hF : jb_F σ) (hl0 : jb_pg σ l0) (hl1 : jb_r l1) (hl2 : jb_r l2) (hs0 : jb_r s0)
    (h : (jb_i σ l0 2 ≤ s0 → (¬ l2 = (-1) → (l2 = (-1) → (l2 = (-1) → Q (.inl none, σ)) ∧ (¬ (l2 = (-1)) → jb_w d 45 0 [some (.ref l0), some (jb_v s0), some (jb_v ((1000 * l1) + l2)), none] [] σ (jb_k (d + 1) 43 99 [some (.ref l0), some (jb_v l1), some (jb_v l2), some (jb_v s0), some (jb_v 0)] [] Q))) ∧ (¬ (l2 = (-1)) → (l2 = (-1) → Q (.inl none, σ)) ∧ (¬ (l2 = (-1)) → jb_w d 45 0 [some (.ref l0), some (jb_v s0), some (jb_v ((1000 * l1) + l2)), none] [] σ (jb_k (d + 1) 43 99 [some (.ref l0), some (jb_v l1), some (jb_v l2), some (jb_v s0), some (jb_v 0)] [] Q)))) ∧ (¬ (¬ l2 = (-1)) → (l2 = (-1) → (l2 = (-1) → Q (.inl none, σ)) ∧ (¬ (l2 = (-1)) → jb_w d 45 0 [some (.ref l0), some (jb_v s0), some (jb_v ((1000 * l1) + l2)), none] [] σ (jb_k (d + 1) 43 99 [some (.ref l0), some (jb_v l1), some (jb_v l2), some (jb_v s0), some (jb_v 0)] [] Q))) ∧ (¬ (l2 = (-1)) → (l2 = (-1) → Q (.inl none, σ)) ∧ (¬ (l2 = (-1)) → jb_w d 45 0 [some (.ref l0), some (jb_v s0), some (jb_v ((1000 * l1) + l2)), none] [] σ (jb_k (d + 1) 43 99 [some (.ref l0), some (jb_v l1), some (jb_v l2), some (jb_v s0), some (jb_v 0)] [] Q))))) ∧ (¬ (jb_i σ l0 2 ≤ s0) → (32 ≤ s0 → (¬ l2 = (-1) → (l2 = (-1) → (l2 = (-1) → Q (.inl none, σ)) ∧ (¬ (l2 = (-1)) → jb_w d 45 0 [some (.ref l0), some (jb_v s0), some (jb_v ((1000 * l1) + l2)), none] [] σ (jb_k (d + 1) 43 99 [some (.ref l0), some (jb_v l1), some (jb_v l2), some (jb_v s0), some (jb_v 0)] [] Q))) ∧ (¬ (l2 = (-1)) → (l2 = (-1) → Q (.inl none, σ)) ∧ (¬ (l2 = (-1)) → jb_w d 45 0 [some (.ref l0), some (jb_v s0), some (jb_v ((1000 * l1) + l2)), none] [] σ (jb_k (d + 1) 43 99 [some (.ref l0), some (jb_v l1), some (jb_v l2), some (jb_v s0), some (jb_v 0)] [] Q)))) ∧ (¬ (¬ l2 = (-1)) → (l2 = (-1) → (l2 = (-1) → Q (.inl none, σ)) ∧ (¬ (l2 = (-1)) → jb_w d 45 0 [some (.ref l0), some (jb_v s0), some (jb_v ((1000 * l1) + l2)), none] [] σ (jb_k (d + 1) 43 99 [some (.ref l0), some (jb_v l1), some (jb_v l2), some (jb_v s0), some (jb_v 0)] [] Q))) ∧ (¬ (l2 = (-1)) → (l2 = (-1) → Q (.inl none, σ)) ∧ (¬ (l2 = (-1)) → jb_w d 45 0 [some (.ref l0), some (jb_v s0), some (jb_v ((1000 * l1) + l2)), none] [] σ (jb_k (d + 1) 43 99 [some (.ref l0), some (jb_v l1), some (jb_v l2), some (jb_v s0), some (jb_v 0)] [] Q))))) ∧ (¬ (32 ≤ s0) → (0 ≤ s0 ∧ s0 < 32) ∧ ((0 ≤ (jb_i σ (l0 + 1) s0)) ∧ ((¬ (jb_i σ (l0 + 1) s0) / 1000 = l1 → (¬ l2 = (-1) → (l2 = (-1) → (l2 = (-1) → Q (.inl none, σ)) ∧ (¬ (l2 = (-1)) → jb_w d 45 0 [some (.ref l0), some (jb_v s0), some (jb_v ((1000 * l1) + l2)), none] [] σ (jb_k (d + 1) 43 99 [some (.ref l0), some (jb_v l1), some (jb_v l2), some (jb_v s0), some (jb_v 0)] [] Q))) ∧ (¬ (l2 = (-1)) → (l2 = (-1) → Q (.inl none, σ)) ∧ (¬ (l2 = (-1)) → jb_w d 45 0 [some (.ref l0), some (jb_v s0), some (jb_v ((1000 * l1) + l2)), none] [] σ (jb_k (d + 1) 43 99 [some (.ref l0), some (jb_v l1), some (jb_v l2), some (jb_v s0), some (jb_v 0)] [] Q)))) ∧ (¬ (¬ l2 = (-1)) → (l2 = (-1) → (l2 = (-1) → Q (.inl none, σ)) ∧ (¬ (l2 = (-1)) → jb_w d 45 0 [some (.ref l0), some (jb_v s0), some (jb_v ((1000 * l1) + l2)), none] [] σ (jb_k (d + 1) 43 99 [some (.ref l0), some (jb_v l1), some (jb_v l2), some (jb_v s0), some (jb_v 0)] [] Q))) ∧ (¬ (l2 = (-1)) → (l2 = (-1) → Q (.inl none, σ)) ∧ (¬ (l2 = (-1)) → jb_w d 45 0 [some (.ref l0), some (jb_v s0), some (jb_v ((1000 * l1) + l2)), none] [] σ (jb_k (d + 1) 43 99 [some (.ref l0), some (jb_v l1), some (jb_v l2), some (jb_v s0), some (jb_v 0)] [] Q))))) ∧ (¬ (¬ (jb_i σ (l0 + 1) s0) / 1000 = l1) → (¬ l2 = (-1) → (l2 = (-1) → (l2 = (-1) → Q (.inl none, σ)) ∧ (¬ (l2 = (-1)) → jb_w d 45 0 [some (.ref l0), some (jb_v s0), some (jb_v ((1000 * l1) + l2)), none] [] σ (jb_k (d + 1) 43 99 [some (.ref l0), some (jb_v l1), some (jb_v l2), some (jb_v s0), some (jb_v 1)] [] Q))) ∧ (¬ (l2 = (-1)) → Q (.inl none, jb_si σ (l0 + 1) s0 ((1000 * l1) + l2)))) ∧ (¬ (¬ l2 = (-1)) → jb_w d 46 0 [some (.ref l0), some (jb_v s0), none] [] σ (jb_k (d + 1) 43 53 [some (.ref l0), some (jb_v l1), some (jb_v l2), some (jb_v s0), some (jb_v 1)] [] Q)))))))) :
    jb_w (d + 1) 43 5 [some (.ref l0), some (jb_v l1), some (jb_v l2), none, none] [(jb_v s0)] σ Q := by
  refine jiS3 (p := 6) rfl jM43 jq43_5 ?_
  refine jiL3 (p := 7) rfl jM43 jq43_6 ?_
  refine jaL0 (p := 8) rfl jM43 jq43_7 ?_
  refine jw_getI (p := 11) (i := 2) rfl jM43 jq43_8 rfl hl0.ob jn_4_2 ?_
  refine jw_ic (p := 14) rfl jM43 jq43_11 (jc_ge hs0 (jb_r_i _ _ _)) (fun c1 => ?_) (fun c1 => ?_)
  · have h1 := h.1 c1
    refine jw_iconst (p := 39) rfl jM43 jq43_38 ?_
    refine jiS4 (p := 41) rfl jM43 jq43_39 ?_
    refine jiL2 (p := 42) rfl jM43 jq43_41 ?_
    refine jw_iconst (p := 43) rfl jM43 jq43_42 ?_
    refine jw_ic (p := 46) rfl jM43 jq43_43 (jc_ne hl2 (jb_rn rfl)) (fun c2 => ?_) (fun c2 => ?_)
    · have h2 := h1.1 c2
      refine jiL2 (p := 60) rfl jM43 jq43_59 ?_
      refine jw_iconst (p := 61) rfl jM43 jq43_60 ?_
      refine jw_ic (p := 64) rfl jM43 jq43_61 (jc_eq hl2 (jb_rn rfl)) (fun c3 => ?_) (fun c3 => ?_)
      · have h3 := h2.1 c3
        refine jiL2 (p := 86) rfl jM43 jq43_85 ?_
        refine jw_iconst (p := 87) rfl jM43 jq43_86 ?_
        refine jw_ic (p := 90) rfl jM43 jq43_87 (jc_eq hl2 (jb_rn rfl)) (fun c4 => ?_) (fun c4 => ?_)
        · have h4 := h3.1 c4
          exact jw_vret jM43 jq43_102 h4
        · have h4 := h3.2 c4
          refine jaL0 (p := 91) rfl jM43 jq43_90 ?_
          refine jiL3 (p := 92) rfl jM43 jq43_91 ?_
          refine jw_sipush (p := 95) rfl jM43 jq43_92 (by decide) ?_
          refine jiL1 (p := 96) rfl jM43 jq43_95 ?_
          refine jw_imul (p := 97) rfl jM43 jq43_96 ?_
          refine jiL2 (p := 98) rfl jM43 jq43_97 ?_
          refine jw_iadd (p := 99) rfl jM43 jq43_98 ?_
          refine jw_callV [(jb_v s0), (jb_v ((1000 * l1) + l2))] jM43 jq43_99 rfl rfl hl0.ob rfl jM45 rfl rfl ?_
          exact h4
      · have h3 := h2.2 c3
        refine jiL4 (p := 66) rfl jM43 jq43_64 ?_
        refine jw_if (p := 69) rfl jM43 jq43_66 (jc_eq (jb_rn rfl) jb_r0) (fun _ => ?_) (fun z => absurd (by decide) z)
        refine jiL2 (p := 86) rfl jM43 jq43_85 ?_
        refine jw_iconst (p := 87) rfl jM43 jq43_86 ?_
        refine jw_ic (p := 90) rfl jM43 jq43_87 (jc_eq hl2 (jb_rn rfl)) (fun c5 => ?_) (fun c5 => ?_)
        · have h5 := h3.1 c5
          exact jw_vret jM43 jq43_102 h5
        · have h5 := h3.2 c5
          refine jaL0 (p := 91) rfl jM43 jq43_90 ?_
          refine jiL3 (p := 92) rfl jM43 jq43_91 ?_
          refine jw_sipush (p := 95) rfl jM43 jq43_92 (by decide) ?_
          refine jiL1 (p := 96) rfl jM43 jq43_95 ?_
          refine jw_imul (p := 97) rfl jM43 jq43_96 ?_
          refine jiL2 (p := 98) rfl jM43 jq43_97 ?_
          refine jw_iadd (p := 99) rfl jM43 jq43_98 ?_
          refine jw_callV [(jb_v s0), (jb_v ((1000 * l1) + l2))] jM43 jq43_99 rfl rfl hl0.ob rfl jM45 rfl rfl ?_
          exact h5
    · have h2 := h1.2 c2
      refine jiL4 (p := 48) rfl jM43 jq43_46 ?_
      refine jw_if (p := 51) rfl jM43 jq43_48 (jc_eq (jb_rn rfl) jb_r0) (fun _ => ?_) (fun z => absurd (by decide) z)
      refine jiL2 (p := 60) rfl jM43 jq43_59 ?_
      refine jw_iconst (p := 61) rfl jM43 jq43_60 ?_
      refine jw_ic (p := 64) rfl jM43 jq43_61 (jc_eq hl2 (jb_rn rfl)) (fun c6 => ?_) (fun c6 => ?_)
      · have h6 := h2.1 c6
        refine jiL2 (p := 86) rfl jM43 jq43_85 ?_
        refine jw_iconst (p := 87) rfl jM43 jq43_86 ?_
        refine jw_ic (p := 90) rfl jM43 jq43_87 (jc_eq hl2 (jb_rn rfl)) (fun c7 => ?_) (fun c7 => ?_)
        · have h7 := h6.1 c7
          exact jw_vret jM43 jq43_102 h7
        · have h7 := h6.2 c7
          refine jaL0 (p := 91) rfl jM43 jq43_90 ?_
          refine jiL3 (p := 92) rfl jM43 jq43_91 ?_
          refine jw_sipush (p := 95) rfl jM43 jq43_92 (by decide) ?_
          refine jiL1 (p := 96) rfl jM43 jq43_95 ?_
          refine jw_imul (p := 97) rfl jM43 jq43_96 ?_
          refine jiL2 (p := 98) rfl jM43 jq43_97 ?_
          refine jw_iadd (p := 99) rfl jM43 jq43_98 ?_
          refine jw_callV [(jb_v s0), (jb_v ((1000 * l1) + l2))] jM43 jq43_99 rfl rfl hl0.ob rfl jM45 rfl rfl ?_
          exact h7
      · have h6 := h2.2 c6
        refine jiL4 (p := 66) rfl jM43 jq43_64 ?_
        refine jw_if (p := 69) rfl jM43 jq43_66 (jc_eq (jb_rn rfl) jb_r0) (fun _ => ?_) (fun z => absurd (by decide) z)
        refine jiL2 (p := 86) rfl jM43 jq43_85 ?_
        refine jw_iconst (p := 87) rfl jM43 jq43_86 ?_
        refine jw_ic (p := 90) rfl jM43 jq43_87 (jc_eq hl2 (jb_rn rfl)) (fun c8 => ?_) (fun c8 => ?_)
        · have h8 := h6.1 c8
          exact jw_vret jM43 jq43_102 h8
        · have h8 := h6.2 c8
          refine jaL0 (p := 91) rfl jM43 jq43_90 ?_
          refine jiL3 (p := 92) rfl jM43 jq43_91 ?_
          refine jw_sipush (p := 95) rfl jM43 jq43_92 (by decide) ?_
          refine jiL1 (p := 96) rfl jM43 jq43_95 ?_
          refine jw_imul (p := 97) rfl jM43 jq43_96 ?_
          refine jiL2 (p := 98) rfl jM43 jq43_97 ?_
          refine jw_iadd (p := 99) rfl jM43 jq43_98 ?_
          refine jw_callV [(jb_v s0), (jb_v ((1000 * l1) + l2))] jM43 jq43_99 rfl rfl hl0.ob rfl jM45 rfl rfl ?_
          exact h8
  · have h1 := h.2 c1
    refine jiL3 (p := 15) rfl jM43 jq43_14 ?_
    refine jw_bipush (p := 17) rfl jM43 jq43_15 (by decide) ?_
    refine jw_ic (p := 20) rfl jM43 jq43_17 (jc_ge hs0 (jb_rn rfl)) (fun c9 => ?_) (fun c9 => ?_)
    · have h9 := h1.1 c9
      refine jw_iconst (p := 39) rfl jM43 jq43_38 ?_
      refine jiS4 (p := 41) rfl jM43 jq43_39 ?_
      refine jiL2 (p := 42) rfl jM43 jq43_41 ?_
      refine jw_iconst (p := 43) rfl jM43 jq43_42 ?_
      refine jw_ic (p := 46) rfl jM43 jq43_43 (jc_ne hl2 (jb_rn rfl)) (fun c10 => ?_) (fun c10 => ?_)
      · have h10 := h9.1 c10
        refine jiL2 (p := 60) rfl jM43 jq43_59 ?_
        refine jw_iconst (p := 61) rfl jM43 jq43_60 ?_
        refine jw_ic (p := 64) rfl jM43 jq43_61 (jc_eq hl2 (jb_rn rfl)) (fun c11 => ?_) (fun c11 => ?_)
        · have h11 := h10.1 c11
          refine jiL2 (p := 86) rfl jM43 jq43_85 ?_
          refine jw_iconst (p := 87) rfl jM43 jq43_86 ?_
          refine jw_ic (p := 90) rfl jM43 jq43_87 (jc_eq hl2 (jb_rn rfl)) (fun c12 => ?_) (fun c12 => ?_)
          · have h12 := h11.1 c12
            exact jw_vret jM43 jq43_102 h12
          · have h12 := h11.2 c12
            refine jaL0 (p := 91) rfl jM43 jq43_90 ?_
            refine jiL3 (p := 92) rfl jM43 jq43_91 ?_
            refine jw_sipush (p := 95) rfl jM43 jq43_92 (by decide) ?_
            refine jiL1 (p := 96) rfl jM43 jq43_95 ?_
            refine jw_imul (p := 97) rfl jM43 jq43_96 ?_
            refine jiL2 (p := 98) rfl jM43 jq43_97 ?_
            refine jw_iadd (p := 99) rfl jM43 jq43_98 ?_
            refine jw_callV [(jb_v s0), (jb_v ((1000 * l1) + l2))] jM43 jq43_99 rfl rfl hl0.ob rfl jM45 rfl rfl ?_
            exact h12
        · have h11 := h10.2 c11
          refine jiL4 (p := 66) rfl jM43 jq43_64 ?_
          refine jw_if (p := 69) rfl jM43 jq43_66 (jc_eq (jb_rn rfl) jb_r0) (fun _ => ?_) (fun z => absurd (by decide) z)
          refine jiL2 (p := 86) rfl jM43 jq43_85 ?_
          refine jw_iconst (p := 87) rfl jM43 jq43_86 ?_
          refine jw_ic (p := 90) rfl jM43 jq43_87 (jc_eq hl2 (jb_rn rfl)) (fun c13 => ?_) (fun c13 => ?_)
          · have h13 := h11.1 c13
            exact jw_vret jM43 jq43_102 h13
          · have h13 := h11.2 c13
            refine jaL0 (p := 91) rfl jM43 jq43_90 ?_
            refine jiL3 (p := 92) rfl jM43 jq43_91 ?_
            refine jw_sipush (p := 95) rfl jM43 jq43_92 (by decide) ?_
            refine jiL1 (p := 96) rfl jM43 jq43_95 ?_
            refine jw_imul (p := 97) rfl jM43 jq43_96 ?_
            refine jiL2 (p := 98) rfl jM43 jq43_97 ?_
            refine jw_iadd (p := 99) rfl jM43 jq43_98 ?_
            refine jw_callV [(jb_v s0), (jb_v ((1000 * l1) + l2))] jM43 jq43_99 rfl rfl hl0.ob rfl jM45 rfl rfl ?_
            exact h13
      · have h10 := h9.2 c10
        refine jiL4 (p := 48) rfl jM43 jq43_46 ?_
        refine jw_if (p := 51) rfl jM43 jq43_48 (jc_eq (jb_rn rfl) jb_r0) (fun _ => ?_) (fun z => absurd (by decide) z)
        refine jiL2 (p := 60) rfl jM43 jq43_59 ?_
        refine jw_iconst (p := 61) rfl jM43 jq43_60 ?_
        refine jw_ic (p := 64) rfl jM43 jq43_61 (jc_eq hl2 (jb_rn rfl)) (fun c14 => ?_) (fun c14 => ?_)
        · have h14 := h10.1 c14
          refine jiL2 (p := 86) rfl jM43 jq43_85 ?_
          refine jw_iconst (p := 87) rfl jM43 jq43_86 ?_
          refine jw_ic (p := 90) rfl jM43 jq43_87 (jc_eq hl2 (jb_rn rfl)) (fun c15 => ?_) (fun c15 => ?_)
          · have h15 := h14.1 c15
            exact jw_vret jM43 jq43_102 h15
          · have h15 := h14.2 c15
            refine jaL0 (p := 91) rfl jM43 jq43_90 ?_
            refine jiL3 (p := 92) rfl jM43 jq43_91 ?_
            refine jw_sipush (p := 95) rfl jM43 jq43_92 (by decide) ?_
            refine jiL1 (p := 96) rfl jM43 jq43_95 ?_
            refine jw_imul (p := 97) rfl jM43 jq43_96 ?_
            refine jiL2 (p := 98) rfl jM43 jq43_97 ?_
            refine jw_iadd (p := 99) rfl jM43 jq43_98 ?_
            refine jw_callV [(jb_v s0), (jb_v ((1000 * l1) + l2))] jM43 jq43_99 rfl rfl hl0.ob rfl jM45 rfl rfl ?_
            exact h15
        · have h14 := h10.2 c14
          refine jiL4 (p := 66) rfl jM43 jq43_64 ?_
          refine jw_if (p := 69) rfl jM43 jq43_66 (jc_eq (jb_rn rfl) jb_r0) (fun _ => ?_) (fun z => absurd (by decide) z)
          refine jiL2 (p := 86) rfl jM43 jq43_85 ?_
          refine jw_iconst (p := 87) rfl jM43 jq43_86 ?_
          refine jw_ic (p := 90) rfl jM43 jq43_87 (jc_eq hl2 (jb_rn rfl)) (fun c16 => ?_) (fun c16 => ?_)
          · have h16 := h14.1 c16
            exact jw_vret jM43 jq43_102 h16
          · have h16 := h14.2 c16
            refine jaL0 (p := 91) rfl jM43 jq43_90 ?_
            refine jiL3 (p := 92) rfl jM43 jq43_91 ?_
            refine jw_sipush (p := 95) rfl jM43 jq43_92 (by decide) ?_
            refine jiL1 (p := 96) rfl jM43 jq43_95 ?_
            refine jw_imul (p := 97) rfl jM43 jq43_96 ?_
            refine jiL2 (p := 98) rfl jM43 jq43_97 ?_
            refine jw_iadd (p := 99) rfl jM43 jq43_98 ?_
            refine jw_callV [(jb_v s0), (jb_v ((1000 * l1) + l2))] jM43 jq43_99 rfl rfl hl0.ob rfl jM45 rfl rfl ?_
            exact h16
    · have h9 := h1.2 c9
      refine jaL0 (p := 21) rfl jM43 jq43_20 ?_
      refine jw_getP (p := 24) (i := 3) rfl jM43 jq43_21 rfl hl0.ob je_4_3 hl0.pc ?_
      refine jiL3 (p := 25) rfl jM43 jq43_24 ?_
      obtain ⟨c17, h17⟩ := h9
      refine jw_iald (p := 26) rfl jM43 jq43_25 hl0.ar c17.1 c17.2 ?_
      refine jw_sipush (p := 29) rfl jM43 jq43_26 (by decide) ?_
      obtain ⟨c18, h18⟩ := h17
      refine jw_idiv (p := 30) rfl jM43 jq43_29 c18 (jb_r_i _ _ _) (by decide) (jb_rn rfl) ?_
      refine jiL1 (p := 31) rfl jM43 jq43_30 ?_
      refine jw_ic (p := 34) rfl jM43 jq43_31 (jc_ne (jb_r_div c18 (jb_r_i _ _ _) (by decide)) hl1) (fun c19 => ?_) (fun c19 => ?_)
      · have h19 := h18.1 c19
        refine jw_iconst (p := 39) rfl jM43 jq43_38 ?_
        refine jiS4 (p := 41) rfl jM43 jq43_39 ?_
        refine jiL2 (p := 42) rfl jM43 jq43_41 ?_
        refine jw_iconst (p := 43) rfl jM43 jq43_42 ?_
        refine jw_ic (p := 46) rfl jM43 jq43_43 (jc_ne hl2 (jb_rn rfl)) (fun c20 => ?_) (fun c20 => ?_)
        · have h20 := h19.1 c20
          refine jiL2 (p := 60) rfl jM43 jq43_59 ?_
          refine jw_iconst (p := 61) rfl jM43 jq43_60 ?_
          refine jw_ic (p := 64) rfl jM43 jq43_61 (jc_eq hl2 (jb_rn rfl)) (fun c21 => ?_) (fun c21 => ?_)
          · have h21 := h20.1 c21
            refine jiL2 (p := 86) rfl jM43 jq43_85 ?_
            refine jw_iconst (p := 87) rfl jM43 jq43_86 ?_
            refine jw_ic (p := 90) rfl jM43 jq43_87 (jc_eq hl2 (jb_rn rfl)) (fun c22 => ?_) (fun c22 => ?_)
            · have h22 := h21.1 c22
              exact jw_vret jM43 jq43_102 h22
            · have h22 := h21.2 c22
              refine jaL0 (p := 91) rfl jM43 jq43_90 ?_
              refine jiL3 (p := 92) rfl jM43 jq43_91 ?_
              refine jw_sipush (p := 95) rfl jM43 jq43_92 (by decide) ?_
              refine jiL1 (p := 96) rfl jM43 jq43_95 ?_
              refine jw_imul (p := 97) rfl jM43 jq43_96 ?_
              refine jiL2 (p := 98) rfl jM43 jq43_97 ?_
              refine jw_iadd (p := 99) rfl jM43 jq43_98 ?_
              refine jw_callV [(jb_v s0), (jb_v ((1000 * l1) + l2))] jM43 jq43_99 rfl rfl hl0.ob rfl jM45 rfl rfl ?_
              exact h22
          · have h21 := h20.2 c21
            refine jiL4 (p := 66) rfl jM43 jq43_64 ?_
            refine jw_if (p := 69) rfl jM43 jq43_66 (jc_eq (jb_rn rfl) jb_r0) (fun _ => ?_) (fun z => absurd (by decide) z)
            refine jiL2 (p := 86) rfl jM43 jq43_85 ?_
            refine jw_iconst (p := 87) rfl jM43 jq43_86 ?_
            refine jw_ic (p := 90) rfl jM43 jq43_87 (jc_eq hl2 (jb_rn rfl)) (fun c23 => ?_) (fun c23 => ?_)
            · have h23 := h21.1 c23
              exact jw_vret jM43 jq43_102 h23
            · have h23 := h21.2 c23
              refine jaL0 (p := 91) rfl jM43 jq43_90 ?_
              refine jiL3 (p := 92) rfl jM43 jq43_91 ?_
              refine jw_sipush (p := 95) rfl jM43 jq43_92 (by decide) ?_
              refine jiL1 (p := 96) rfl jM43 jq43_95 ?_
              refine jw_imul (p := 97) rfl jM43 jq43_96 ?_
              refine jiL2 (p := 98) rfl jM43 jq43_97 ?_
              refine jw_iadd (p := 99) rfl jM43 jq43_98 ?_
              refine jw_callV [(jb_v s0), (jb_v ((1000 * l1) + l2))] jM43 jq43_99 rfl rfl hl0.ob rfl jM45 rfl rfl ?_
              exact h23
        · have h20 := h19.2 c20
          refine jiL4 (p := 48) rfl jM43 jq43_46 ?_
          refine jw_if (p := 51) rfl jM43 jq43_48 (jc_eq (jb_rn rfl) jb_r0) (fun _ => ?_) (fun z => absurd (by decide) z)
          refine jiL2 (p := 60) rfl jM43 jq43_59 ?_
          refine jw_iconst (p := 61) rfl jM43 jq43_60 ?_
          refine jw_ic (p := 64) rfl jM43 jq43_61 (jc_eq hl2 (jb_rn rfl)) (fun c24 => ?_) (fun c24 => ?_)
          · have h24 := h20.1 c24
            refine jiL2 (p := 86) rfl jM43 jq43_85 ?_
            refine jw_iconst (p := 87) rfl jM43 jq43_86 ?_
            refine jw_ic (p := 90) rfl jM43 jq43_87 (jc_eq hl2 (jb_rn rfl)) (fun c25 => ?_) (fun c25 => ?_)
            · have h25 := h24.1 c25
              exact jw_vret jM43 jq43_102 h25
            · have h25 := h24.2 c25
              refine jaL0 (p := 91) rfl jM43 jq43_90 ?_
              refine jiL3 (p := 92) rfl jM43 jq43_91 ?_
              refine jw_sipush (p := 95) rfl jM43 jq43_92 (by decide) ?_
              refine jiL1 (p := 96) rfl jM43 jq43_95 ?_
              refine jw_imul (p := 97) rfl jM43 jq43_96 ?_
              refine jiL2 (p := 98) rfl jM43 jq43_97 ?_
              refine jw_iadd (p := 99) rfl jM43 jq43_98 ?_
              refine jw_callV [(jb_v s0), (jb_v ((1000 * l1) + l2))] jM43 jq43_99 rfl rfl hl0.ob rfl jM45 rfl rfl ?_
              exact h25
          · have h24 := h20.2 c24
            refine jiL4 (p := 66) rfl jM43 jq43_64 ?_
            refine jw_if (p := 69) rfl jM43 jq43_66 (jc_eq (jb_rn rfl) jb_r0) (fun _ => ?_) (fun z => absurd (by decide) z)
            refine jiL2 (p := 86) rfl jM43 jq43_85 ?_
            refine jw_iconst (p := 87) rfl jM43 jq43_86 ?_
            refine jw_ic (p := 90) rfl jM43 jq43_87 (jc_eq hl2 (jb_rn rfl)) (fun c26 => ?_) (fun c26 => ?_)
            · have h26 := h24.1 c26
              exact jw_vret jM43 jq43_102 h26
            · have h26 := h24.2 c26
              refine jaL0 (p := 91) rfl jM43 jq43_90 ?_
              refine jiL3 (p := 92) rfl jM43 jq43_91 ?_
              refine jw_sipush (p := 95) rfl jM43 jq43_92 (by decide) ?_
              refine jiL1 (p := 96) rfl jM43 jq43_95 ?_
              refine jw_imul (p := 97) rfl jM43 jq43_96 ?_
              refine jiL2 (p := 98) rfl jM43 jq43_97 ?_
              refine jw_iadd (p := 99) rfl jM43 jq43_98 ?_
              refine jw_callV [(jb_v s0), (jb_v ((1000 * l1) + l2))] jM43 jq43_99 rfl rfl hl0.ob rfl jM45 rfl rfl ?_
              exact h26
      · have h19 := h18.2 c19
        refine jw_iconst (p := 35) rfl jM43 jq43_34 ?_
        refine jw_goto jM43 jq43_35 ?_
        refine jiS4 (p := 41) rfl jM43 jq43_39 ?_
        refine jiL2 (p := 42) rfl jM43 jq43_41 ?_
        refine jw_iconst (p := 43) rfl jM43 jq43_42 ?_
        refine jw_ic (p := 46) rfl jM43 jq43_43 (jc_ne hl2 (jb_rn rfl)) (fun c27 => ?_) (fun c27 => ?_)
        · have h27 := h19.1 c27
          refine jiL2 (p := 60) rfl jM43 jq43_59 ?_
          refine jw_iconst (p := 61) rfl jM43 jq43_60 ?_
          refine jw_ic (p := 64) rfl jM43 jq43_61 (jc_eq hl2 (jb_rn rfl)) (fun c28 => ?_) (fun c28 => ?_)
          · have h28 := h27.1 c28
            refine jiL2 (p := 86) rfl jM43 jq43_85 ?_
            refine jw_iconst (p := 87) rfl jM43 jq43_86 ?_
            refine jw_ic (p := 90) rfl jM43 jq43_87 (jc_eq hl2 (jb_rn rfl)) (fun c29 => ?_) (fun c29 => ?_)
            · have h29 := h28.1 c29
              exact jw_vret jM43 jq43_102 h29
            · have h29 := h28.2 c29
              refine jaL0 (p := 91) rfl jM43 jq43_90 ?_
              refine jiL3 (p := 92) rfl jM43 jq43_91 ?_
              refine jw_sipush (p := 95) rfl jM43 jq43_92 (by decide) ?_
              refine jiL1 (p := 96) rfl jM43 jq43_95 ?_
              refine jw_imul (p := 97) rfl jM43 jq43_96 ?_
              refine jiL2 (p := 98) rfl jM43 jq43_97 ?_
              refine jw_iadd (p := 99) rfl jM43 jq43_98 ?_
              refine jw_callV [(jb_v s0), (jb_v ((1000 * l1) + l2))] jM43 jq43_99 rfl rfl hl0.ob rfl jM45 rfl rfl ?_
              exact h29
          · have h28 := h27.2 c28
            refine jiL4 (p := 66) rfl jM43 jq43_64 ?_
            refine jw_if (p := 69) rfl jM43 jq43_66 (jc_eq (jb_rn rfl) jb_r0) (fun z => absurd z (by decide)) (fun _ => ?_)
            refine jaL0 (p := 70) rfl jM43 jq43_69 ?_
            refine jw_getP (p := 73) (i := 3) rfl jM43 jq43_70 rfl hl0.ob je_4_3 hl0.pc ?_
            refine jiL3 (p := 74) rfl jM43 jq43_73 ?_
            refine jw_sipush (p := 77) rfl jM43 jq43_74 (by decide) ?_
            refine jiL1 (p := 78) rfl jM43 jq43_77 ?_
            refine jw_imul (p := 79) rfl jM43 jq43_78 ?_
            refine jiL2 (p := 80) rfl jM43 jq43_79 ?_
            refine jw_iadd (p := 81) rfl jM43 jq43_80 ?_
            refine jw_iast (p := 82) rfl jM43 jq43_81 hl0.ar c17.1 c17.2 ?_
            refine jw_goto jM43 jq43_82 ?_
            exact jw_vret jM43 jq43_102 h28
        · have h27 := h19.2 c27
          refine jiL4 (p := 48) rfl jM43 jq43_46 ?_
          refine jw_if (p := 51) rfl jM43 jq43_48 (jc_eq (jb_rn rfl) jb_r0) (fun z => absurd z (by decide)) (fun _ => ?_)
          refine jaL0 (p := 52) rfl jM43 jq43_51 ?_
          refine jiL3 (p := 53) rfl jM43 jq43_52 ?_
          refine jw_callV [(jb_v s0)] jM43 jq43_53 rfl rfl hl0.ob rfl jM46 rfl rfl ?_
          exact h27
theorem jk43_102 {d : Nat} {σ : ib_H} {Q : ib_O → Prop} {l0 : Nat} {l1 : Int} {l2 : Int} {l3 : Int} {l4 : Int} (hF : jb_F σ) (hl0 : jb_pg σ l0) (hl1 : jb_r l1) (hl2 : jb_r l2) (hl3 : jb_r l3) (hl4 : jb_r l4)
    (h : Q (.inl none, σ)) :
    jb_w d 43 102 [some (.ref l0), some (jb_v l1), some (jb_v l2), some (jb_v l3), some (jb_v l4)] [] σ Q := by
  exact jw_vret jM43 jq43_102 h
theorem jk43_56 {d : Nat} {σ : ib_H} {Q : ib_O → Prop} {l0 : Nat} {l1 : Int} {l2 : Int} {l3 : Int} {l4 : Int} (hF : jb_F σ) (hl0 : jb_pg σ l0) (hl1 : jb_r l1) (hl2 : jb_r l2) (hl3 : jb_r l3) (hl4 : jb_r l4)
    (h : Q (.inl none, σ)) :
    jb_w d 43 56 [some (.ref l0), some (jb_v l1), some (jb_v l2), some (jb_v l3), some (jb_v l4)] [] σ Q := by
  refine jw_goto jM43 jq43_56 ?_
  exact jw_vret jM43 jq43_102 h
-- 44 PageLoom$Page.placeOfKey(I)I
theorem jk44_0 {d : Nat} {σ : ib_H} {Q : ib_O → Prop} {l0 : Nat} {l1 : Int} (hF : jb_F σ) (hl0 : jb_pg σ l0) (hl1 : jb_r l1)
    (h : jb_w d 44 2 [some (.ref l0), some (jb_v l1), some (jb_v 0)] [] σ Q) :
    jb_w d 44 0 [some (.ref l0), some (jb_v l1), none] [] σ Q := by
  refine jw_iconst (p := 1) rfl jM44 jq44_0 ?_
  refine jiS2 (p := 2) rfl jM44 jq44_1 ?_
  exact h
theorem jk44_2 {d : Nat} {σ : ib_H} {Q : ib_O → Prop} {l0 : Nat} {l1 : Int} {l2 : Int} (hF : jb_F σ) (hl0 : jb_pg σ l0) (hl1 : jb_r l1) (hl2 : jb_r l2)
    (h : (jb_i σ l0 2 ≤ l2 → Q (.inl (some (jb_v l2)), σ)) ∧ (¬ (jb_i σ l0 2 ≤ l2) → (32 ≤ l2 → Q (.inl (some (jb_v l2)), σ)) ∧ (¬ (32 ≤ l2) → (0 ≤ l2 ∧ l2 < 32) ∧ ((0 ≤ (jb_i σ (l0 + 1) l2)) ∧ ((l1 ≤ (jb_i σ (l0 + 1) l2) / 1000 → Q (.inl (some (jb_v l2)), σ)) ∧ (¬ (l1 ≤ (jb_i σ (l0 + 1) l2) / 1000) → jb_w d 44 2 [some (.ref l0), some (jb_v l1), some (jb_v (l2 + 1))] [] σ Q)))))) :
    jb_w d 44 2 [some (.ref l0), some (jb_v l1), some (jb_v l2)] [] σ Q := by
  refine jiL2 (p := 3) rfl jM44 jq44_2 ?_
  refine jaL0 (p := 4) rfl jM44 jq44_3 ?_
  refine jw_getI (p := 7) (i := 2) rfl jM44 jq44_4 rfl hl0.ob jn_4_2 ?_
  refine jw_ic (p := 10) rfl jM44 jq44_7 (jc_ge hl2 (jb_r_i _ _ _)) (fun c1 => ?_) (fun c1 => ?_)
  · have h1 := h.1 c1
    refine jiL2 (p := 37) rfl jM44 jq44_36 ?_
    exact jw_iret jM44 jq44_37 (fun z => absurd z (by decide)) h1
  · have h1 := h.2 c1
    refine jiL2 (p := 11) rfl jM44 jq44_10 ?_
    refine jw_bipush (p := 13) rfl jM44 jq44_11 (by decide) ?_
    refine jw_ic (p := 16) rfl jM44 jq44_13 (jc_ge hl2 (jb_rn rfl)) (fun c2 => ?_) (fun c2 => ?_)
    · have h2 := h1.1 c2
      refine jiL2 (p := 37) rfl jM44 jq44_36 ?_
      exact jw_iret jM44 jq44_37 (fun z => absurd z (by decide)) h2
    · have h2 := h1.2 c2
      refine jaL0 (p := 17) rfl jM44 jq44_16 ?_
      refine jw_getP (p := 20) (i := 3) rfl jM44 jq44_17 rfl hl0.ob je_4_3 hl0.pc ?_
      refine jiL2 (p := 21) rfl jM44 jq44_20 ?_
      obtain ⟨c3, h3⟩ := h2
      refine jw_iald (p := 22) rfl jM44 jq44_21 hl0.ar c3.1 c3.2 ?_
      refine jw_sipush (p := 25) rfl jM44 jq44_22 (by decide) ?_
      obtain ⟨c4, h4⟩ := h3
      refine jw_idiv (p := 26) rfl jM44 jq44_25 c4 (jb_r_i _ _ _) (by decide) (jb_rn rfl) ?_
      refine jiL1 (p := 27) rfl jM44 jq44_26 ?_
      refine jw_ic (p := 30) rfl jM44 jq44_27 (jc_ge (jb_r_div c4 (jb_r_i _ _ _) (by decide)) hl1) (fun c5 => ?_) (fun c5 => ?_)
      · have h5 := h4.1 c5
        refine jiL2 (p := 37) rfl jM44 jq44_36 ?_
        exact jw_iret jM44 jq44_37 (fun z => absurd z (by decide)) h5
      · have h5 := h4.2 c5
        refine jiI2 (p := 33) rfl jM44 jq44_30 ?_
        refine jw_goto jM44 jq44_33 ?_
        exact h5
-- 45 PageLoom$Page.insert(II)V
theorem jk45_0 {d : Nat} {σ : ib_H} {Q : ib_O → Prop} {l0 : Nat} {l1 : Int} {l2 : Int} (hF : jb_F σ) (hl0 : jb_pg σ l0) (hl1 : jb_r l1) (hl2 : jb_r l2)
    (h : (l1 < 0 → Q (.inl none, σ)) ∧ (¬ (l1 < 0) → (jb_i σ l0 2 < l1 → Q (.inl none, σ)) ∧ (¬ (jb_i σ l0 2 < l1) → (jb_i σ l0 2 < 32 → jb_w d 45 27 [some (.ref l0), some (jb_v l1), some (jb_v l2), some (jb_v (jb_i σ l0 2))] [] σ Q) ∧ (¬ (jb_i σ l0 2 < 32) → Q (.inl none, σ))))) :
    jb_w d 45 0 [some (.ref l0), some (jb_v l1), some (jb_v l2), none] [] σ Q := by
  refine jiL1 (p := 1) rfl jM45 jq45_0 ?_
  refine jw_if (p := 4) rfl jM45 jq45_1 (jc_lt hl1 jb_r0) (fun c1 => ?_) (fun c1 => ?_)
  · have h1 := h.1 c1
    exact jw_vret jM45 jq45_21 h1
  · have h1 := h.2 c1
    refine jiL1 (p := 5) rfl jM45 jq45_4 ?_
    refine jaL0 (p := 6) rfl jM45 jq45_5 ?_
    refine jw_getI (p := 9) (i := 2) rfl jM45 jq45_6 rfl hl0.ob jn_4_2 ?_
    refine jw_ic (p := 12) rfl jM45 jq45_9 (jc_gt hl1 (jb_r_i _ _ _)) (fun c2 => ?_) (fun c2 => ?_)
    · have h2 := h1.1 c2
      exact jw_vret jM45 jq45_21 h2
    · have h2 := h1.2 c2
      refine jaL0 (p := 13) rfl jM45 jq45_12 ?_
      refine jw_getI (p := 16) (i := 2) rfl jM45 jq45_13 rfl hl0.ob jn_4_2 ?_
      refine jw_bipush (p := 18) rfl jM45 jq45_16 (by decide) ?_
      refine jw_ic (p := 21) rfl jM45 jq45_18 (jc_lt (jb_r_i _ _ _) (jb_rn rfl)) (fun c3 => ?_) (fun c3 => ?_)
      · have h3 := h2.1 c3
        refine jaL0 (p := 23) rfl jM45 jq45_22 ?_
        refine jw_getI (p := 26) (i := 2) rfl jM45 jq45_23 rfl hl0.ob jn_4_2 ?_
        refine jiS3 (p := 27) rfl jM45 jq45_26 ?_
        exact h3
      · have h3 := h2.2 c3
        exact jw_vret jM45 jq45_21 h3
theorem jk45_27 {d : Nat} {σ : ib_H} {Q : ib_O → Prop} {l0 : Nat} {l1 : Int} {l2 : Int} {l3 : Int} (hF : jb_F σ) (hl0 : jb_pg σ l0) (hl1 : jb_r l1) (hl2 : jb_r l2) (hl3 : jb_r l3)
    (h : (l3 ≤ l1 → (0 ≤ l1 ∧ l1 < 32) ∧ (Q (.inl none, jb_si (jb_si σ (l0 + 1) l1 l2) l0 2 ((jb_i (jb_si σ (l0 + 1) l1 l2) l0 2) + 1)))) ∧ (¬ (l3 ≤ l1) → (0 ≤ (l3 - 1) ∧ (l3 - 1) < 32) ∧ ((0 ≤ l3 ∧ l3 < 32) ∧ (jb_w d 45 27 [some (.ref l0), some (jb_v l1), some (jb_v l2), some (jb_v (l3 + (-1)))] [] (jb_si σ (l0 + 1) l3 (jb_i σ (l0 + 1) (l3 - 1))) Q)))) :
    jb_w d 45 27 [some (.ref l0), some (jb_v l1), some (jb_v l2), some (jb_v l3)] [] σ Q := by
  refine jiL3 (p := 28) rfl jM45 jq45_27 ?_
  refine jiL1 (p := 29) rfl jM45 jq45_28 ?_
  refine jw_ic (p := 32) rfl jM45 jq45_29 (jc_le hl3 hl1) (fun c1 => ?_) (fun c1 => ?_)
  · have h1 := h.1 c1
    refine jaL0 (p := 53) rfl jM45 jq45_52 ?_
    refine jw_getP (p := 56) (i := 3) rfl jM45 jq45_53 rfl hl0.ob je_4_3 hl0.pc ?_
    refine jiL1 (p := 57) rfl jM45 jq45_56 ?_
    refine jiL2 (p := 58) rfl jM45 jq45_57 ?_
    obtain ⟨c2, h2⟩ := h1
    refine jw_iast (p := 59) rfl jM45 jq45_58 hl0.ar c2.1 c2.2 ?_
    refine jaL0 (p := 60) rfl jM45 jq45_59 ?_
    refine jw_dupA (p := 61) rfl jM45 jq45_60 ?_
    refine jw_getI (p := 64) (i := 2) rfl jM45 jq45_61 rfl hl0.ob jn_4_2 ?_
    refine jw_iconst (p := 65) rfl jM45 jq45_64 ?_
    refine jw_iadd (p := 66) rfl jM45 jq45_65 ?_
    refine jw_putI (p := 69) (i := 2) rfl jM45 jq45_66 rfl hl0.ob (Or.inl jz_4_2) ?_
    exact jw_vret jM45 jq45_69 h2
  · have h1 := h.2 c1
    refine jaL0 (p := 33) rfl jM45 jq45_32 ?_
    refine jw_getP (p := 36) (i := 3) rfl jM45 jq45_33 rfl hl0.ob je_4_3 hl0.pc ?_
    refine jiL3 (p := 37) rfl jM45 jq45_36 ?_
    refine jaL0 (p := 38) rfl jM45 jq45_37 ?_
    refine jw_getP (p := 41) (i := 3) rfl jM45 jq45_38 rfl hl0.ob je_4_3 hl0.pc ?_
    refine jiL3 (p := 42) rfl jM45 jq45_41 ?_
    refine jw_iconst (p := 43) rfl jM45 jq45_42 ?_
    refine jw_isub (p := 44) rfl jM45 jq45_43 ?_
    obtain ⟨c3, h3⟩ := h1
    refine jw_iald (p := 45) rfl jM45 jq45_44 hl0.ar c3.1 c3.2 ?_
    obtain ⟨c4, h4⟩ := h3
    refine jw_iast (p := 46) rfl jM45 jq45_45 hl0.ar c4.1 c4.2 ?_
    refine jiI3 (p := 49) rfl jM45 jq45_46 ?_
    refine jw_goto jM45 jq45_49 ?_
    exact h4
-- 46 PageLoom$Page.remove(I)V
theorem jk46_0 {d : Nat} {σ : ib_H} {Q : ib_O → Prop} {l0 : Nat} {l1 : Int} (hF : jb_F σ) (hl0 : jb_pg σ l0) (hl1 : jb_r l1)
    (h : (l1 < 0 → Q (.inl none, σ)) ∧ (¬ (l1 < 0) → (jb_i σ l0 2 ≤ l1 → Q (.inl none, σ)) ∧ (¬ (jb_i σ l0 2 ≤ l1) → (jb_i σ l0 2 ≤ 32 → jb_w d 46 26 [some (.ref l0), some (jb_v l1), some (jb_v (l1 + 1))] [] σ Q) ∧ (¬ (jb_i σ l0 2 ≤ 32) → Q (.inl none, σ))))) :
    jb_w d 46 0 [some (.ref l0), some (jb_v l1), none] [] σ Q := by
  refine jiL1 (p := 1) rfl jM46 jq46_0 ?_
  refine jw_if (p := 4) rfl jM46 jq46_1 (jc_lt hl1 jb_r0) (fun c1 => ?_) (fun c1 => ?_)
  · have h1 := h.1 c1
    exact jw_vret jM46 jq46_21 h1
  · have h1 := h.2 c1
    refine jiL1 (p := 5) rfl jM46 jq46_4 ?_
    refine jaL0 (p := 6) rfl jM46 jq46_5 ?_
    refine jw_getI (p := 9) (i := 2) rfl jM46 jq46_6 rfl hl0.ob jn_4_2 ?_
    refine jw_ic (p := 12) rfl jM46 jq46_9 (jc_ge hl1 (jb_r_i _ _ _)) (fun c2 => ?_) (fun c2 => ?_)
    · have h2 := h1.1 c2
      exact jw_vret jM46 jq46_21 h2
    · have h2 := h1.2 c2
      refine jaL0 (p := 13) rfl jM46 jq46_12 ?_
      refine jw_getI (p := 16) (i := 2) rfl jM46 jq46_13 rfl hl0.ob jn_4_2 ?_
      refine jw_bipush (p := 18) rfl jM46 jq46_16 (by decide) ?_
      refine jw_ic (p := 21) rfl jM46 jq46_18 (jc_le (jb_r_i _ _ _) (jb_rn rfl)) (fun c3 => ?_) (fun c3 => ?_)
      · have h3 := h2.1 c3
        refine jiL1 (p := 23) rfl jM46 jq46_22 ?_
        refine jw_iconst (p := 24) rfl jM46 jq46_23 ?_
        refine jw_iadd (p := 25) rfl jM46 jq46_24 ?_
        refine jiS2 (p := 26) rfl jM46 jq46_25 ?_
        exact h3
      · have h3 := h2.2 c3
        exact jw_vret jM46 jq46_21 h3
theorem jk46_26 {d : Nat} {σ : ib_H} {Q : ib_O → Prop} {l0 : Nat} {l1 : Int} {l2 : Int} (hF : jb_F σ) (hl0 : jb_pg σ l0) (hl1 : jb_r l1) (hl2 : jb_r l2)
    (h : (jb_i σ l0 2 ≤ l2 → Q (.inl none, jb_si σ l0 2 ((jb_i σ l0 2) - 1))) ∧ (¬ (jb_i σ l0 2 ≤ l2) → (0 ≤ l2 ∧ l2 < 32) ∧ ((0 ≤ (l2 - 1) ∧ (l2 - 1) < 32) ∧ (jb_w d 46 26 [some (.ref l0), some (jb_v l1), some (jb_v (l2 + 1))] [] (jb_si σ (l0 + 1) (l2 - 1) (jb_i σ (l0 + 1) l2)) Q)))) :
    jb_w d 46 26 [some (.ref l0), some (jb_v l1), some (jb_v l2)] [] σ Q := by
  refine jiL2 (p := 27) rfl jM46 jq46_26 ?_
  refine jaL0 (p := 28) rfl jM46 jq46_27 ?_
  refine jw_getI (p := 31) (i := 2) rfl jM46 jq46_28 rfl hl0.ob jn_4_2 ?_
  refine jw_ic (p := 34) rfl jM46 jq46_31 (jc_ge hl2 (jb_r_i _ _ _)) (fun c1 => ?_) (fun c1 => ?_)
  · have h1 := h.1 c1
    refine jaL0 (p := 55) rfl jM46 jq46_54 ?_
    refine jw_dupA (p := 56) rfl jM46 jq46_55 ?_
    refine jw_getI (p := 59) (i := 2) rfl jM46 jq46_56 rfl hl0.ob jn_4_2 ?_
    refine jw_iconst (p := 60) rfl jM46 jq46_59 ?_
    refine jw_isub (p := 61) rfl jM46 jq46_60 ?_
    refine jw_putI (p := 64) (i := 2) rfl jM46 jq46_61 rfl hl0.ob (Or.inl jz_4_2) ?_
    exact jw_vret jM46 jq46_64 h1
  · have h1 := h.2 c1
    refine jaL0 (p := 35) rfl jM46 jq46_34 ?_
    refine jw_getP (p := 38) (i := 3) rfl jM46 jq46_35 rfl hl0.ob je_4_3 hl0.pc ?_
    refine jiL2 (p := 39) rfl jM46 jq46_38 ?_
    refine jw_iconst (p := 40) rfl jM46 jq46_39 ?_
    refine jw_isub (p := 41) rfl jM46 jq46_40 ?_
    refine jaL0 (p := 42) rfl jM46 jq46_41 ?_
    refine jw_getP (p := 45) (i := 3) rfl jM46 jq46_42 rfl hl0.ob je_4_3 hl0.pc ?_
    refine jiL2 (p := 46) rfl jM46 jq46_45 ?_
    obtain ⟨c2, h2⟩ := h1
    refine jw_iald (p := 47) rfl jM46 jq46_46 hl0.ar c2.1 c2.2 ?_
    obtain ⟨c3, h3⟩ := h2
    refine jw_iast (p := 48) rfl jM46 jq46_47 hl0.ar c3.1 c3.2 ?_
    refine jiI2 (p := 51) rfl jM46 jq46_48 ?_
    refine jw_goto jM46 jq46_51 ?_
    exact h3
-- 47 PageLoom$Page.becomePart(LPageLoom$Page;II)V
theorem jk47_0 {d : Nat} {σ : ib_H} {Q : ib_O → Prop} {l0 : Nat} {l1 : Nat} {l2 : Int} {l3 : Int} (hF : jb_F σ) (hl0 : jb_pg σ l0) (hl1 : l1 ≠ 0 → jb_pg σ l1) (hl2 : jb_r l2) (hl3 : jb_r l3)
    (h : (l1 ≠ 0) ∧ (jb_w d 47 16 [some (.ref l0), some (.ref l1), some (jb_v l2), some (jb_v l3), some (jb_v l2)] [] (jb_si (jb_si σ l0 0 (jb_i σ l1 0)) l0 2 0) Q)) :
    jb_w d 47 0 [some (.ref l0), some (.ref l1), some (jb_v l2), some (jb_v l3), none] [] σ Q := by
  refine jaL0 (p := 1) rfl jM47 jq47_0 ?_
  refine jaL1 (p := 2) rfl jM47 jq47_1 ?_
  obtain ⟨c1, h1⟩ := h
  refine jw_getI (p := 5) (i := 0) rfl jM47 jq47_2 rfl (hl1 c1).ob jn_4_0 ?_
  refine jw_putI (p := 8) (i := 0) rfl jM47 jq47_5 rfl hl0.ob (Or.inl jz_4_0) ?_
  refine jaL0 (p := 9) rfl jM47 jq47_8 ?_
  refine jw_iconst (p := 10) rfl jM47 jq47_9 ?_
  refine jw_putI (p := 13) (i := 2) rfl jM47 jq47_10 rfl hl0.ob (Or.inl jz_4_2) ?_
  refine jiL2 (p := 14) rfl jM47 jq47_13 ?_
  refine jiS4 (p := 16) rfl jM47 jq47_14 ?_
  exact h1
theorem jk47_16 {d : Nat} {σ : ib_H} {Q : ib_O → Prop} {l0 : Nat} {l1 : Nat} {l2 : Int} {l3 : Int} {l4 : Int} (hF : jb_F σ) (hl0 : jb_pg σ l0) (hl1 : l1 ≠ 0 → jb_pg σ l1) (hl2 : jb_r l2) (hl3 : jb_r l3) (hl4 : jb_r l4)
    (h : (l4 < 0 → jb_w d 49 0 [some (.ref l0)] [] σ (jb_k (d + 1) 47 76 [some (.ref l0), some (.ref l1), some (jb_v l2), some (jb_v l3), some (jb_v l4)] [] Q)) ∧ (¬ (l4 < 0) → (l3 ≤ l4 → jb_w d 49 0 [some (.ref l0)] [] σ (jb_k (d + 1) 47 76 [some (.ref l0), some (.ref l1), some (jb_v l2), some (jb_v l3), some (jb_v l4)] [] Q)) ∧ (¬ (l3 ≤ l4) → (l1 ≠ 0) ∧ ((jb_i σ l1 2 ≤ l4 → jb_w d 49 0 [some (.ref l0)] [] σ (jb_k (d + 1) 47 76 [some (.ref l0), some (.ref l1), some (jb_v l2), some (jb_v l3), some (jb_v l4)] [] Q)) ∧ (¬ (jb_i σ l1 2 ≤ l4) → (32 ≤ l4 → jb_w d 49 0 [some (.ref l0)] [] σ (jb_k (d + 1) 47 76 [some (.ref l0), some (.ref l1), some (jb_v l2), some (jb_v l3), some (jb_v l4)] [] Q)) ∧ (¬ (32 ≤ l4) → (0 ≤ l4 ∧ l4 < 32) ∧ ((0 ≤ (jb_i σ l0 2) ∧ (jb_i σ l0 2) < 32) ∧ (jb_w (d + 1) 47 16 [some (.ref l0), some (.ref l1), some (jb_v l2), some (jb_v l3), some (jb_v (l4 + 1))] [] (jb_si (jb_si σ (l0 + 1) (jb_i σ l0 2) (jb_i σ (l1 + 1) l4)) l0 2 ((jb_i (jb_si σ (l0 + 1) (jb_i σ l0 2) (jb_i σ (l1 + 1) l4)) l0 2) + 1)) Q)))))))) :
    jb_w (d + 1) 47 16 [some (.ref l0), some (.ref l1), some (jb_v l2), some (jb_v l3), some (jb_v l4)] [] σ Q := by
  refine jiL4 (p := 18) rfl jM47 jq47_16 ?_
  refine jw_if (p := 21) rfl jM47 jq47_18 (jc_lt hl4 jb_r0) (fun c1 => ?_) (fun c1 => ?_)
  · have h1 := h.1 c1
    refine jaL0 (p := 76) rfl jM47 jq47_75 ?_
    refine jw_callV [] jM47 jq47_76 rfl rfl hl0.ob rfl jM49 rfl rfl ?_
    exact h1
  · have h1 := h.2 c1
    refine jiL4 (p := 23) rfl jM47 jq47_21 ?_
    refine jiL3 (p := 24) rfl jM47 jq47_23 ?_
    refine jw_ic (p := 27) rfl jM47 jq47_24 (jc_ge hl4 hl3) (fun c2 => ?_) (fun c2 => ?_)
    · have h2 := h1.1 c2
      refine jaL0 (p := 76) rfl jM47 jq47_75 ?_
      refine jw_callV [] jM47 jq47_76 rfl rfl hl0.ob rfl jM49 rfl rfl ?_
      exact h2
    · have h2 := h1.2 c2
      refine jiL4 (p := 29) rfl jM47 jq47_27 ?_
      refine jaL1 (p := 30) rfl jM47 jq47_29 ?_
      obtain ⟨c3, h3⟩ := h2
      refine jw_getI (p := 33) (i := 2) rfl jM47 jq47_30 rfl (hl1 c3).ob jn_4_2 ?_
      refine jw_ic (p := 36) rfl jM47 jq47_33 (jc_ge hl4 (jb_r_i _ _ _)) (fun c4 => ?_) (fun c4 => ?_)
      · have h4 := h3.1 c4
        refine jaL0 (p := 76) rfl jM47 jq47_75 ?_
        refine jw_callV [] jM47 jq47_76 rfl rfl hl0.ob rfl jM49 rfl rfl ?_
        exact h4
      · have h4 := h3.2 c4
        refine jiL4 (p := 38) rfl jM47 jq47_36 ?_
        refine jw_bipush (p := 40) rfl jM47 jq47_38 (by decide) ?_
        refine jw_ic (p := 43) rfl jM47 jq47_40 (jc_ge hl4 (jb_rn rfl)) (fun c5 => ?_) (fun c5 => ?_)
        · have h5 := h4.1 c5
          refine jaL0 (p := 76) rfl jM47 jq47_75 ?_
          refine jw_callV [] jM47 jq47_76 rfl rfl hl0.ob rfl jM49 rfl rfl ?_
          exact h5
        · have h5 := h4.2 c5
          refine jaL0 (p := 44) rfl jM47 jq47_43 ?_
          refine jw_getP (p := 47) (i := 3) rfl jM47 jq47_44 rfl hl0.ob je_4_3 hl0.pc ?_
          refine jaL0 (p := 48) rfl jM47 jq47_47 ?_
          refine jw_getI (p := 51) (i := 2) rfl jM47 jq47_48 rfl hl0.ob jn_4_2 ?_
          refine jaL1 (p := 52) rfl jM47 jq47_51 ?_
          refine jw_getP (p := 55) (i := 3) rfl jM47 jq47_52 rfl (hl1 c3).ob je_4_3 (hl1 c3).pc ?_
          refine jiL4 (p := 57) rfl jM47 jq47_55 ?_
          obtain ⟨c6, h6⟩ := h5
          refine jw_iald (p := 58) rfl jM47 jq47_57 (hl1 c3).ar c6.1 c6.2 ?_
          obtain ⟨c7, h7⟩ := h6
          refine jw_iast (p := 59) rfl jM47 jq47_58 hl0.ar c7.1 c7.2 ?_
          refine jaL0 (p := 60) rfl jM47 jq47_59 ?_
          refine jw_dupA (p := 61) rfl jM47 jq47_60 ?_
          refine jw_getI (p := 64) (i := 2) rfl jM47 jq47_61 rfl hl0.ob jn_4_2 ?_
          refine jw_iconst (p := 65) rfl jM47 jq47_64 ?_
          refine jw_iadd (p := 66) rfl jM47 jq47_65 ?_
          refine jw_putI (p := 69) (i := 2) rfl jM47 jq47_66 rfl hl0.ob (Or.inl jz_4_2) ?_
          refine jiI4 (p := 72) rfl jM47 jq47_69 ?_
          refine jw_goto jM47 jq47_72 ?_
          exact h7
theorem jk47_79 {d : Nat} {σ : ib_H} {Q : ib_O → Prop} {l0 : Nat} {l1 : Nat} {l2 : Int} {l3 : Int} {l4 : Int} (hF : jb_F σ) (hl0 : jb_pg σ l0) (hl1 : l1 ≠ 0 → jb_pg σ l1) (hl2 : jb_r l2) (hl3 : jb_r l3) (hl4 : jb_r l4)
    (h : Q (.inl none, σ)) :
    jb_w d 47 79 [some (.ref l0), some (.ref l1), some (jb_v l2), some (jb_v l3), some (jb_v l4)] [] σ Q := by
  exact jw_vret jM47 jq47_79 h
-- 48 PageLoom$Page.removeChild(I)V
theorem jk48_0 {d : Nat} {σ : ib_H} {Q : ib_O → Prop} {l0 : Nat} {l1 : Int} (hF : jb_F σ) (hl0 : jb_pg σ l0) (hl1 : jb_r l1)
    (h : jb_w d 41 0 [some (.ref l0), some (jb_v l1), none] [] σ (jb_k (d + 1) 48 3 [some (.ref l0), some (jb_v l1)] [(.ref l0)] Q)) :
    jb_w (d + 1) 48 0 [some (.ref l0), some (jb_v l1)] [] σ Q := by
  refine jaL0 (p := 1) rfl jM48 jq48_0 ?_
  refine jaL0 (p := 2) rfl jM48 jq48_1 ?_
  refine jiL1 (p := 3) rfl jM48 jq48_2 ?_
  refine jw_callV [(jb_v l1)] jM48 jq48_3 rfl rfl hl0.ob rfl jM41 rfl rfl ?_
  exact h
theorem jk48_6 {d : Nat} {σ : ib_H} {Q : ib_O → Prop} {l0 : Nat} {l1 : Int} {s0 : Nat} {s1 : Int} (hF : jb_F σ) (hl0 : jb_pg σ l0) (hl1 : jb_r l1) (hs0 : jb_pg σ s0) (hs1 : jb_r s1)
    (h : jb_w d 46 0 [some (.ref s0), some (jb_v s1), none] [] σ (jb_k (d + 1) 48 6 [some (.ref l0), some (jb_v l1)] [] Q)) :
    jb_w (d + 1) 48 6 [some (.ref l0), some (jb_v l1)] [(jb_v s1), (.ref s0)] σ Q := by
  refine jw_callV [(jb_v s1)] jM48 jq48_6 rfl rfl hs0.ob rfl jM46 rfl rfl ?_
  exact h
theorem jk48_9 {d : Nat} {σ : ib_H} {Q : ib_O → Prop} {l0 : Nat} {l1 : Int} (hF : jb_F σ) (hl0 : jb_pg σ l0) (hl1 : jb_r l1)
    (h : jb_w d 49 0 [some (.ref l0)] [] σ (jb_k (d + 1) 48 10 [some (.ref l0), some (jb_v l1)] [] Q)) :
    jb_w (d + 1) 48 9 [some (.ref l0), some (jb_v l1)] [] σ Q := by
  refine jaL0 (p := 10) rfl jM48 jq48_9 ?_
  refine jw_callV [] jM48 jq48_10 rfl rfl hl0.ob rfl jM49 rfl rfl ?_
  exact h
theorem jk48_13 {d : Nat} {σ : ib_H} {Q : ib_O → Prop} {l0 : Nat} {l1 : Int} (hF : jb_F σ) (hl0 : jb_pg σ l0) (hl1 : jb_r l1)
    (h : Q (.inl none, σ)) :
    jb_w d 48 13 [some (.ref l0), some (jb_v l1)] [] σ Q := by
  exact jw_vret jM48 jq48_13 h
-- 49 PageLoom$Page.forgetKeyAheadOfFirst()V
theorem jk49_0 {d : Nat} {σ : ib_H} {Q : ib_O → Prop} {l0 : Nat} (hF : jb_F σ) (hl0 : jb_pg σ l0)
    (h : (¬ jb_i σ l0 0 = 2 → Q (.inl none, σ)) ∧ (¬ (¬ jb_i σ l0 0 = 2) → (jb_i σ l0 2 ≤ 0 → Q (.inl none, σ)) ∧ (¬ (jb_i σ l0 2 ≤ 0) → (0 ≤ (jb_i σ (l0 + 1) 0)) ∧ (Q (.inl none, jb_si σ (l0 + 1) 0 ((jb_i σ (l0 + 1) 0) % 100)))))) :
    jb_w d 49 0 [some (.ref l0)] [] σ Q := by
  refine jaL0 (p := 1) rfl jM49 jq49_0 ?_
  refine jw_getI (p := 4) (i := 0) rfl jM49 jq49_1 rfl hl0.ob jn_4_0 ?_
  refine jw_iconst (p := 5) rfl jM49 jq49_4 ?_
  refine jw_ic (p := 8) rfl jM49 jq49_5 (jc_ne (jb_r_i _ _ _) (jb_rn rfl)) (fun c1 => ?_) (fun c1 => ?_)
  · have h1 := h.1 c1
    exact jw_vret jM49 jq49_30 h1
  · have h1 := h.2 c1
    refine jaL0 (p := 9) rfl jM49 jq49_8 ?_
    refine jw_getI (p := 12) (i := 2) rfl jM49 jq49_9 rfl hl0.ob jn_4_2 ?_
    refine jw_if (p := 15) rfl jM49 jq49_12 (jc_le (jb_r_i _ _ _) jb_r0) (fun c2 => ?_) (fun c2 => ?_)
    · have h2 := h1.1 c2
      exact jw_vret jM49 jq49_30 h2
    · have h2 := h1.2 c2
      refine jaL0 (p := 16) rfl jM49 jq49_15 ?_
      refine jw_getP (p := 19) (i := 3) rfl jM49 jq49_16 rfl hl0.ob je_4_3 hl0.pc ?_
      refine jw_iconst (p := 20) rfl jM49 jq49_19 ?_
      refine jaL0 (p := 21) rfl jM49 jq49_20 ?_
      refine jw_getP (p := 24) (i := 3) rfl jM49 jq49_21 rfl hl0.ob je_4_3 hl0.pc ?_
      refine jw_iconst (p := 25) rfl jM49 jq49_24 ?_
      refine jw_iald (p := 26) rfl jM49 jq49_25 hl0.ar (by decide) (by decide) ?_
      refine jw_bipush (p := 28) rfl jM49 jq49_26 (by decide) ?_
      obtain ⟨c3, h3⟩ := h2
      refine jw_irem (p := 29) rfl jM49 jq49_28 c3 (jb_r_i _ _ _) (by decide) (jb_rn rfl) ?_
      refine jw_iast (p := 30) rfl jM49 jq49_29 hl0.ar (by decide) (by decide) ?_
      exact jw_vret jM49 jq49_30 h3
