/-! the reference, lifted: written by wip/tools/genr.py -/
-- 148 PageLoomModel.copies(II)V need 0
theorem jt148_0 {d : Nat} {σ0 : ib_H} {G : jg_G} {Q : ib_O → Prop} {l1 : Int} {l2 : Int} (hl1 : jb_r l1) (hl2 : jb_r l2)
    (h : jg_W σ0 G d 148 2 [some (.ref 92), some (jb_v l1), some (jb_v l2), some (jb_v 0)] [] Q) :
    jg_W σ0 G d 148 0 [some (.ref 92), some (jb_v l1), some (jb_v l2), none] [] Q := by
  intro σ s
  refine jw_iconst (p := 1) rfl jM148 jq148_0 ?_
  refine jiS3 (p := 2) rfl jM148 jq148_1 ?_
  exact h σ s
theorem jt148_2 {d : Nat} {σ0 : ib_H} {G : jg_G} {Q : ib_O → Prop} {l1 : Int} {l2 : Int} {l3 : Int} (hl1 : jb_r l1) (hl2 : jb_r l2) (hl3 : jb_r l3)
    (h : (67 ≤ l3 → jg_E σ0 G none Q) ∧ (¬ (67 ≤ l3) → (0 ≤ ((67 * l1) + l3) ∧ ((67 * l1) + l3) < 305118) ∧ ((0 ≤ ((67 * l2) + l3) ∧ ((67 * l2) + l3) < 305118) ∧ (jg_W σ0 (jg_u G 93 ((67 * l2) + l3) (G 93 ((67 * l1) + l3))) d 148 2 [some (.ref 92), some (jb_v l1), some (jb_v l2), some (jb_v (l3 + 1))] [] Q)))) :
    jg_W σ0 G d 148 2 [some (.ref 92), some (jb_v l1), some (jb_v l2), some (jb_v l3)] [] Q := by
  intro σ s
  refine jiL3 (p := 3) rfl jM148 jq148_2 ?_
  refine jw_bipush (p := 5) rfl jM148 jq148_3 (by decide) ?_
  refine jw_ic (p := 8) rfl jM148 jq148_5 (jc_ge hl3 (jb_rn rfl)) (fun c1 => ?_) (fun c1 => ?_)
  · have h1 := h.1 c1
    exact jw_vret jM148 jq148_36 (h1 σ s)
  · have h1 := h.2 c1
    refine jaL0 (p := 9) rfl jM148 jq148_8 ?_
    refine jw_getP (p := 12) (i := 1) (q := 93) rfl jM148 jq148_9 rfl (jo_92 s.1) je_11_1 (jp_92_1 s.1) ?_
    refine jw_bipush (p := 14) rfl jM148 jq148_12 (by decide) ?_
    refine jiL2 (p := 15) rfl jM148 jq148_14 ?_
    refine jw_imul (p := 16) rfl jM148 jq148_15 ?_
    refine jiL3 (p := 17) rfl jM148 jq148_16 ?_
    refine jw_iadd (p := 18) rfl jM148 jq148_17 ?_
    refine jaL0 (p := 19) rfl jM148 jq148_18 ?_
    refine jw_getP (p := 22) (i := 1) (q := 93) rfl jM148 jq148_19 rfl (jo_92 s.1) je_11_1 (jp_92_1 s.1) ?_
    refine jw_bipush (p := 24) rfl jM148 jq148_22 (by decide) ?_
    refine jiL1 (p := 25) rfl jM148 jq148_24 ?_
    refine jw_imul (p := 26) rfl jM148 jq148_25 ?_
    refine jiL3 (p := 27) rfl jM148 jq148_26 ?_
    refine jw_iadd (p := 28) rfl jM148 jq148_27 ?_
    obtain ⟨c2, h2⟩ := h1
    refine jg_iald (p := 29) rfl jM148 jq148_28 (ja_93 s.1) c2.1 c2.2 s (by decide) rfl ?_
    obtain ⟨c3, h3⟩ := h2
    refine jg_iast (p := 30) rfl jM148 jq148_29 (ja_93 s.1) c3.1 c3.2 s (by decide) (s.r _ _) ?_
    intro σ4 s4
    refine jiI3 (p := 33) rfl jM148 jq148_30 ?_
    refine jw_goto jM148 jq148_33 ?_
    exact h3 σ4 s4
-- 154 PageLoomModel.empties(II)V need 0
theorem jt154_0 {d : Nat} {σ0 : ib_H} {G : jg_G} {Q : ib_O → Prop} {l1 : Int} {l2 : Int} (hl1 : jb_r l1) (hl2 : jb_r l2)
    (h : jg_W σ0 G d 154 2 [some (.ref 92), some (jb_v l1), some (jb_v l2), some (jb_v 0)] [] Q) :
    jg_W σ0 G d 154 0 [some (.ref 92), some (jb_v l1), some (jb_v l2), none] [] Q := by
  intro σ s
  refine jw_iconst (p := 1) rfl jM154 jq154_0 ?_
  refine jiS3 (p := 2) rfl jM154 jq154_1 ?_
  exact h σ s
theorem jt154_2 {d : Nat} {σ0 : ib_H} {G : jg_G} {Q : ib_O → Prop} {l1 : Int} {l2 : Int} {l3 : Int} (hl1 : jb_r l1) (hl2 : jb_r l2) (hl3 : jb_r l3)
    (h : (67 ≤ l3 → (0 ≤ (67 * l1) ∧ (67 * l1) < 305118) ∧ (jg_E σ0 (jg_u G 93 (67 * l1) l2) none Q)) ∧ (¬ (67 ≤ l3) → (0 ≤ ((67 * l1) + l3) ∧ ((67 * l1) + l3) < 305118) ∧ (jg_W σ0 (jg_u G 93 ((67 * l1) + l3) 0) d 154 2 [some (.ref 92), some (jb_v l1), some (jb_v l2), some (jb_v (l3 + 1))] [] Q))) :
    jg_W σ0 G d 154 2 [some (.ref 92), some (jb_v l1), some (jb_v l2), some (jb_v l3)] [] Q := by
  intro σ s
  refine jiL3 (p := 3) rfl jM154 jq154_2 ?_
  refine jw_bipush (p := 5) rfl jM154 jq154_3 (by decide) ?_
  refine jw_ic (p := 8) rfl jM154 jq154_5 (jc_ge hl3 (jb_rn rfl)) (fun c1 => ?_) (fun c1 => ?_)
  · have h1 := h.1 c1
    refine jaL0 (p := 27) rfl jM154 jq154_26 ?_
    refine jw_getP (p := 30) (i := 1) (q := 93) rfl jM154 jq154_27 rfl (jo_92 s.1) je_11_1 (jp_92_1 s.1) ?_
    refine jw_bipush (p := 32) rfl jM154 jq154_30 (by decide) ?_
    refine jiL1 (p := 33) rfl jM154 jq154_32 ?_
    refine jw_imul (p := 34) rfl jM154 jq154_33 ?_
    refine jiL2 (p := 35) rfl jM154 jq154_34 ?_
    obtain ⟨c2, h2⟩ := h1
    refine jg_iast (p := 36) rfl jM154 jq154_35 (ja_93 s.1) c2.1 c2.2 s (by decide) hl2 ?_
    intro σ3 s3
    exact jw_vret jM154 jq154_36 (h2 σ3 s3)
  · have h1 := h.2 c1
    refine jaL0 (p := 9) rfl jM154 jq154_8 ?_
    refine jw_getP (p := 12) (i := 1) (q := 93) rfl jM154 jq154_9 rfl (jo_92 s.1) je_11_1 (jp_92_1 s.1) ?_
    refine jw_bipush (p := 14) rfl jM154 jq154_12 (by decide) ?_
    refine jiL1 (p := 15) rfl jM154 jq154_14 ?_
    refine jw_imul (p := 16) rfl jM154 jq154_15 ?_
    refine jiL3 (p := 17) rfl jM154 jq154_16 ?_
    refine jw_iadd (p := 18) rfl jM154 jq154_17 ?_
    refine jw_iconst (p := 19) rfl jM154 jq154_18 ?_
    obtain ⟨c4, h4⟩ := h1
    refine jg_iast (p := 20) rfl jM154 jq154_19 (ja_93 s.1) c4.1 c4.2 s (by decide) (jb_rn rfl) ?_
    intro σ5 s5
    refine jiI3 (p := 23) rfl jM154 jq154_20 ?_
    refine jw_goto jM154 jq154_23 ?_
    exact h4 σ5 s5
-- 156 PageLoomModel.puts(IIII)V need 1
theorem jt156_0 {d : Nat} {σ0 : ib_H} {G : jg_G} {Q : ib_O → Prop} {l1 : Int} {l2 : Int} {l3 : Int} {l4 : Int} (hl1 : jb_r l1) (hl2 : jb_r l2) (hl3 : jb_r l3) (hl4 : jb_r l4)
    (h : (0 ≤ ((67 * l1) + 2) ∧ ((67 * l1) + 2) < 305118) ∧ (jg_W σ0 G (d + 1) 156 11 [some (.ref 92), some (jb_v l1), some (jb_v l2), some (jb_v l3), some (jb_v l4), some (jb_v (G 93 ((67 * l1) + 2))), some (jb_v (G 93 ((67 * l1) + 2)))] [] Q)) :
    jg_W σ0 G (d + 1) 156 0 [some (.ref 92), some (jb_v l1), some (jb_v l2), some (jb_v l3), some (jb_v l4), none, none] [] Q := by
  intro σ s
  refine jaL0 (p := 1) rfl jM156 jq156_0 ?_
  refine jiL1 (p := 2) rfl jM156 jq156_1 ?_
  refine jw_callV [(jb_v l1)] jM156 jq156_2 rfl rfl (jo_92 s.1) rfl jM150 rfl rfl ?_
  show jb_w d 150 0 [some (.ref 92), some (jb_v l1)] [] σ (jb_k (d + 1) 156 2 [some (.ref 92), some (jb_v l1), some (jb_v l2), some (jb_v l3), some (jb_v l4), none, none] [] Q)
  refine jaL0 (p := 1) rfl jM150 jq150_0 ?_
  refine jw_getP (p := 4) (i := 1) (q := 93) rfl jM150 jq150_1 rfl (jo_92 s.1) je_11_1 (jp_92_1 s.1) ?_
  refine jw_bipush (p := 6) rfl jM150 jq150_4 (by decide) ?_
  refine jiL1 (p := 7) rfl jM150 jq150_6 ?_
  refine jw_imul (p := 8) rfl jM150 jq150_7 ?_
  refine jw_iconst (p := 9) rfl jM150 jq150_8 ?_
  refine jw_iadd (p := 10) rfl jM150 jq150_9 ?_
  obtain ⟨c1, h1⟩ := h
  refine jg_iald (p := 11) rfl jM150 jq150_10 (ja_93 s.1) c1.1 c1.2 s (by decide) rfl ?_
  refine jw_iret jM150 jq150_11 (fun z => absurd z (by decide)) ?_
  show jb_w (d + 1) 156 5 [some (.ref 92), some (jb_v l1), some (jb_v l2), some (jb_v l3), some (jb_v l4), none, none] [(jb_v (G 93 ((67 * l1) + 2)))] σ Q
  refine jiS5 (p := 7) rfl jM156 jq156_5 ?_
  refine jiL5 (p := 9) rfl jM156 jq156_7 ?_
  refine jiS6 (p := 11) rfl jM156 jq156_9 ?_
  exact h1 σ s
theorem jt156_11 {d : Nat} {σ0 : ib_H} {G : jg_G} {Q : ib_O → Prop} {l1 : Int} {l2 : Int} {l3 : Int} {l4 : Int} {l5 : Int} {l6 : Int} (hl1 : jb_r l1) (hl2 : jb_r l2) (hl3 : jb_r l3) (hl4 : jb_r l4) (hl5 : jb_r l5) (hl6 : jb_r l6)
    (h : (l6 ≤ l2 → (0 ≤ (((67 * l1) + 3) + (2 * l2)) ∧ (((67 * l1) + 3) + (2 * l2)) < 305118) ∧ ((0 ≤ (((67 * l1) + 4) + (2 * l2)) ∧ (((67 * l1) + 4) + (2 * l2)) < 305118) ∧ ((0 ≤ ((67 * l1) + 2) ∧ ((67 * l1) + 2) < 305118) ∧ ((jb_r (l5 + 1)) ∧ (jg_E σ0 (jg_u (jg_u (jg_u G 93 (((67 * l1) + 3) + (2 * l2)) l3) 93 (((67 * l1) + 4) + (2 * l2)) l4) 93 ((67 * l1) + 2) (l5 + 1)) none Q))))) ∧ (¬ (l6 ≤ l2) → (0 ≤ (((67 * l1) + 3) + (2 * (l6 - 1))) ∧ (((67 * l1) + 3) + (2 * (l6 - 1))) < 305118) ∧ ((0 ≤ (((67 * l1) + 4) + (2 * (l6 - 1))) ∧ (((67 * l1) + 4) + (2 * (l6 - 1))) < 305118) ∧ ((0 ≤ (((67 * l1) + 3) + (2 * l6)) ∧ (((67 * l1) + 3) + (2 * l6)) < 305118) ∧ ((0 ≤ (((67 * l1) + 4) + (2 * l6)) ∧ (((67 * l1) + 4) + (2 * l6)) < 305118) ∧ (jg_W σ0 (jg_u (jg_u G 93 (((67 * l1) + 3) + (2 * l6)) (G 93 (((67 * l1) + 3) + (2 * (l6 - 1))))) 93 (((67 * l1) + 4) + (2 * l6)) (G 93 (((67 * l1) + 4) + (2 * (l6 - 1))))) (d + 1) 156 11 [some (.ref 92), some (jb_v l1), some (jb_v l2), some (jb_v l3), some (jb_v l4), some (jb_v l5), some (jb_v (l6 + (-1)))] [] Q)))))) :
    jg_W σ0 G (d + 1) 156 11 [some (.ref 92), some (jb_v l1), some (jb_v l2), some (jb_v l3), some (jb_v l4), some (jb_v l5), some (jb_v l6)] [] Q := by
  intro σ s
  refine jiL6 (p := 13) rfl jM156 jq156_11 ?_
  refine jiL2 (p := 14) rfl jM156 jq156_13 ?_
  refine jw_ic (p := 17) rfl jM156 jq156_14 (jc_le hl6 hl2) (fun c1 => ?_) (fun c1 => ?_)
  · have h1 := h.1 c1
    refine jaL0 (p := 49) rfl jM156 jq156_48 ?_
    refine jiL1 (p := 50) rfl jM156 jq156_49 ?_
    refine jiL2 (p := 51) rfl jM156 jq156_50 ?_
    refine jiL3 (p := 52) rfl jM156 jq156_51 ?_
    refine jiL4 (p := 54) rfl jM156 jq156_52 ?_
    refine jw_callV [(jb_v l1), (jb_v l2), (jb_v l3), (jb_v l4)] jM156 jq156_54 rfl rfl (jo_92 s.1) rfl jM153 rfl rfl ?_
    show jb_w d 153 0 [some (.ref 92), some (jb_v l1), some (jb_v l2), some (jb_v l3), some (jb_v l4)] [] σ (jb_k (d + 1) 156 54 [some (.ref 92), some (jb_v l1), some (jb_v l2), some (jb_v l3), some (jb_v l4), some (jb_v l5), some (jb_v l6)] [] Q)
    refine jaL0 (p := 1) rfl jM153 jq153_0 ?_
    refine jw_getP (p := 4) (i := 1) (q := 93) rfl jM153 jq153_1 rfl (jo_92 s.1) je_11_1 (jp_92_1 s.1) ?_
    refine jw_bipush (p := 6) rfl jM153 jq153_4 (by decide) ?_
    refine jiL1 (p := 7) rfl jM153 jq153_6 ?_
    refine jw_imul (p := 8) rfl jM153 jq153_7 ?_
    refine jw_iconst (p := 9) rfl jM153 jq153_8 ?_
    refine jw_iadd (p := 10) rfl jM153 jq153_9 ?_
    refine jw_iconst (p := 11) rfl jM153 jq153_10 ?_
    refine jiL2 (p := 12) rfl jM153 jq153_11 ?_
    refine jw_imul (p := 13) rfl jM153 jq153_12 ?_
    refine jw_iadd (p := 14) rfl jM153 jq153_13 ?_
    refine jiL3 (p := 15) rfl jM153 jq153_14 ?_
    obtain ⟨c2, h2⟩ := h1
    refine jg_iast (p := 16) rfl jM153 jq153_15 (ja_93 s.1) c2.1 c2.2 s (by decide) hl3 ?_
    intro σ3 s3
    refine jaL0 (p := 17) rfl jM153 jq153_16 ?_
    refine jw_getP (p := 20) (i := 1) (q := 93) rfl jM153 jq153_17 rfl (jo_92 s3.1) je_11_1 (jp_92_1 s3.1) ?_
    refine jw_bipush (p := 22) rfl jM153 jq153_20 (by decide) ?_
    refine jiL1 (p := 23) rfl jM153 jq153_22 ?_
    refine jw_imul (p := 24) rfl jM153 jq153_23 ?_
    refine jw_iconst (p := 25) rfl jM153 jq153_24 ?_
    refine jw_iadd (p := 26) rfl jM153 jq153_25 ?_
    refine jw_iconst (p := 27) rfl jM153 jq153_26 ?_
    refine jiL2 (p := 28) rfl jM153 jq153_27 ?_
    refine jw_imul (p := 29) rfl jM153 jq153_28 ?_
    refine jw_iadd (p := 30) rfl jM153 jq153_29 ?_
    refine jiL4 (p := 32) rfl jM153 jq153_30 ?_
    obtain ⟨c4, h4⟩ := h2
    refine jg_iast (p := 33) rfl jM153 jq153_32 (ja_93 s3.1) c4.1 c4.2 s3 (by decide) hl4 ?_
    intro σ5 s5
    refine jw_vret jM153 jq153_33 ?_
    show jb_w (d + 1) 156 57 [some (.ref 92), some (jb_v l1), some (jb_v l2), some (jb_v l3), some (jb_v l4), some (jb_v l5), some (jb_v l6)] [] σ5 Q
    refine jaL0 (p := 58) rfl jM156 jq156_57 ?_
    refine jw_getP (p := 61) (i := 1) (q := 93) rfl jM156 jq156_58 rfl (jo_92 s5.1) je_11_1 (jp_92_1 s5.1) ?_
    refine jw_bipush (p := 63) rfl jM156 jq156_61 (by decide) ?_
    refine jiL1 (p := 64) rfl jM156 jq156_63 ?_
    refine jw_imul (p := 65) rfl jM156 jq156_64 ?_
    refine jw_iconst (p := 66) rfl jM156 jq156_65 ?_
    refine jw_iadd (p := 67) rfl jM156 jq156_66 ?_
    refine jiL5 (p := 69) rfl jM156 jq156_67 ?_
    refine jw_iconst (p := 70) rfl jM156 jq156_69 ?_
    refine jw_iadd (p := 71) rfl jM156 jq156_70 ?_
    obtain ⟨c6, h6⟩ := h4
    obtain ⟨c7, h7⟩ := h6
    refine jg_iast (p := 72) rfl jM156 jq156_71 (ja_93 s5.1) c6.1 c6.2 s5 (by decide) c7 ?_
    intro σ8 s8
    exact jw_vret jM156 jq156_72 (h7 σ8 s8)
  · have h1 := h.2 c1
    refine jaL0 (p := 18) rfl jM156 jq156_17 ?_
    refine jiL1 (p := 19) rfl jM156 jq156_18 ?_
    refine jiL6 (p := 21) rfl jM156 jq156_19 ?_
    refine jaL0 (p := 22) rfl jM156 jq156_21 ?_
    refine jiL1 (p := 23) rfl jM156 jq156_22 ?_
    refine jiL6 (p := 25) rfl jM156 jq156_23 ?_
    refine jw_iconst (p := 26) rfl jM156 jq156_25 ?_
    refine jw_isub (p := 27) rfl jM156 jq156_26 ?_
    refine jw_callV [(jb_v l1), (jb_v (l6 - 1))] jM156 jq156_27 rfl rfl (jo_92 s.1) rfl jM151 rfl rfl ?_
    show jb_w d 151 0 [some (.ref 92), some (jb_v l1), some (jb_v (l6 - 1))] [] σ (jb_k (d + 1) 156 27 [some (.ref 92), some (jb_v l1), some (jb_v l2), some (jb_v l3), some (jb_v l4), some (jb_v l5), some (jb_v l6)] [(jb_v l6), (jb_v l1), (.ref 92)] Q)
    refine jaL0 (p := 1) rfl jM151 jq151_0 ?_
    refine jw_getP (p := 4) (i := 1) (q := 93) rfl jM151 jq151_1 rfl (jo_92 s.1) je_11_1 (jp_92_1 s.1) ?_
    refine jw_bipush (p := 6) rfl jM151 jq151_4 (by decide) ?_
    refine jiL1 (p := 7) rfl jM151 jq151_6 ?_
    refine jw_imul (p := 8) rfl jM151 jq151_7 ?_
    refine jw_iconst (p := 9) rfl jM151 jq151_8 ?_
    refine jw_iadd (p := 10) rfl jM151 jq151_9 ?_
    refine jw_iconst (p := 11) rfl jM151 jq151_10 ?_
    refine jiL2 (p := 12) rfl jM151 jq151_11 ?_
    refine jw_imul (p := 13) rfl jM151 jq151_12 ?_
    refine jw_iadd (p := 14) rfl jM151 jq151_13 ?_
    obtain ⟨c9, h9⟩ := h1
    refine jg_iald (p := 15) rfl jM151 jq151_14 (ja_93 s.1) c9.1 c9.2 s (by decide) rfl ?_
    refine jw_iret jM151 jq151_15 (fun z => absurd z (by decide)) ?_
    show jb_w (d + 1) 156 30 [some (.ref 92), some (jb_v l1), some (jb_v l2), some (jb_v l3), some (jb_v l4), some (jb_v l5), some (jb_v l6)] [(jb_v (G 93 (((67 * l1) + 3) + (2 * (l6 - 1))))), (jb_v l6), (jb_v l1), (.ref 92)] σ Q
    refine jaL0 (p := 31) rfl jM156 jq156_30 ?_
    refine jiL1 (p := 32) rfl jM156 jq156_31 ?_
    refine jiL6 (p := 34) rfl jM156 jq156_32 ?_
    refine jw_iconst (p := 35) rfl jM156 jq156_34 ?_
    refine jw_isub (p := 36) rfl jM156 jq156_35 ?_
    refine jw_callV [(jb_v l1), (jb_v (l6 - 1))] jM156 jq156_36 rfl rfl (jo_92 s.1) rfl jM152 rfl rfl ?_
    show jb_w d 152 0 [some (.ref 92), some (jb_v l1), some (jb_v (l6 - 1))] [] σ (jb_k (d + 1) 156 36 [some (.ref 92), some (jb_v l1), some (jb_v l2), some (jb_v l3), some (jb_v l4), some (jb_v l5), some (jb_v l6)] [(jb_v (G 93 (((67 * l1) + 3) + (2 * (l6 - 1))))), (jb_v l6), (jb_v l1), (.ref 92)] Q)
    refine jaL0 (p := 1) rfl jM152 jq152_0 ?_
    refine jw_getP (p := 4) (i := 1) (q := 93) rfl jM152 jq152_1 rfl (jo_92 s.1) je_11_1 (jp_92_1 s.1) ?_
    refine jw_bipush (p := 6) rfl jM152 jq152_4 (by decide) ?_
    refine jiL1 (p := 7) rfl jM152 jq152_6 ?_
    refine jw_imul (p := 8) rfl jM152 jq152_7 ?_
    refine jw_iconst (p := 9) rfl jM152 jq152_8 ?_
    refine jw_iadd (p := 10) rfl jM152 jq152_9 ?_
    refine jw_iconst (p := 11) rfl jM152 jq152_10 ?_
    refine jiL2 (p := 12) rfl jM152 jq152_11 ?_
    refine jw_imul (p := 13) rfl jM152 jq152_12 ?_
    refine jw_iadd (p := 14) rfl jM152 jq152_13 ?_
    obtain ⟨c10, h10⟩ := h9
    refine jg_iald (p := 15) rfl jM152 jq152_14 (ja_93 s.1) c10.1 c10.2 s (by decide) rfl ?_
    refine jw_iret jM152 jq152_15 (fun z => absurd z (by decide)) ?_
    show jb_w (d + 1) 156 39 [some (.ref 92), some (jb_v l1), some (jb_v l2), some (jb_v l3), some (jb_v l4), some (jb_v l5), some (jb_v l6)] [(jb_v (G 93 (((67 * l1) + 4) + (2 * (l6 - 1))))), (jb_v (G 93 (((67 * l1) + 3) + (2 * (l6 - 1))))), (jb_v l6), (jb_v l1), (.ref 92)] σ Q
    refine jw_callV [(jb_v l1), (jb_v l6), (jb_v (G 93 (((67 * l1) + 3) + (2 * (l6 - 1))))), (jb_v (G 93 (((67 * l1) + 4) + (2 * (l6 - 1)))))] jM156 jq156_39 rfl rfl (jo_92 s.1) rfl jM153 rfl rfl ?_
    show jb_w d 153 0 [some (.ref 92), some (jb_v l1), some (jb_v l6), some (jb_v (G 93 (((67 * l1) + 3) + (2 * (l6 - 1))))), some (jb_v (G 93 (((67 * l1) + 4) + (2 * (l6 - 1)))))] [] σ (jb_k (d + 1) 156 39 [some (.ref 92), some (jb_v l1), some (jb_v l2), some (jb_v l3), some (jb_v l4), some (jb_v l5), some (jb_v l6)] [] Q)
    refine jaL0 (p := 1) rfl jM153 jq153_0 ?_
    refine jw_getP (p := 4) (i := 1) (q := 93) rfl jM153 jq153_1 rfl (jo_92 s.1) je_11_1 (jp_92_1 s.1) ?_
    refine jw_bipush (p := 6) rfl jM153 jq153_4 (by decide) ?_
    refine jiL1 (p := 7) rfl jM153 jq153_6 ?_
    refine jw_imul (p := 8) rfl jM153 jq153_7 ?_
    refine jw_iconst (p := 9) rfl jM153 jq153_8 ?_
    refine jw_iadd (p := 10) rfl jM153 jq153_9 ?_
    refine jw_iconst (p := 11) rfl jM153 jq153_10 ?_
    refine jiL2 (p := 12) rfl jM153 jq153_11 ?_
    refine jw_imul (p := 13) rfl jM153 jq153_12 ?_
    refine jw_iadd (p := 14) rfl jM153 jq153_13 ?_
    refine jiL3 (p := 15) rfl jM153 jq153_14 ?_
    obtain ⟨c11, h11⟩ := h10
    refine jg_iast (p := 16) rfl jM153 jq153_15 (ja_93 s.1) c11.1 c11.2 s (by decide) (s.r _ _) ?_
    intro σ12 s12
    refine jaL0 (p := 17) rfl jM153 jq153_16 ?_
    refine jw_getP (p := 20) (i := 1) (q := 93) rfl jM153 jq153_17 rfl (jo_92 s12.1) je_11_1 (jp_92_1 s12.1) ?_
    refine jw_bipush (p := 22) rfl jM153 jq153_20 (by decide) ?_
    refine jiL1 (p := 23) rfl jM153 jq153_22 ?_
    refine jw_imul (p := 24) rfl jM153 jq153_23 ?_
    refine jw_iconst (p := 25) rfl jM153 jq153_24 ?_
    refine jw_iadd (p := 26) rfl jM153 jq153_25 ?_
    refine jw_iconst (p := 27) rfl jM153 jq153_26 ?_
    refine jiL2 (p := 28) rfl jM153 jq153_27 ?_
    refine jw_imul (p := 29) rfl jM153 jq153_28 ?_
    refine jw_iadd (p := 30) rfl jM153 jq153_29 ?_
    refine jiL4 (p := 32) rfl jM153 jq153_30 ?_
    obtain ⟨c13, h13⟩ := h11
    refine jg_iast (p := 33) rfl jM153 jq153_32 (ja_93 s12.1) c13.1 c13.2 s12 (by decide) (s.r _ _) ?_
    intro σ14 s14
    refine jw_vret jM153 jq153_33 ?_
    show jb_w (d + 1) 156 42 [some (.ref 92), some (jb_v l1), some (jb_v l2), some (jb_v l3), some (jb_v l4), some (jb_v l5), some (jb_v l6)] [] σ14 Q
    refine jiI6 (p := 45) rfl jM156 jq156_42 ?_
    refine jw_goto jM156 jq156_45 ?_
    exact h13 σ14 s14
-- 157 PageLoomModel.drops(II)V need 1
theorem jt157_0 {d : Nat} {σ0 : ib_H} {G : jg_G} {Q : ib_O → Prop} {l1 : Int} {l2 : Int} (hl1 : jb_r l1) (hl2 : jb_r l2)
    (h : (0 ≤ ((67 * l1) + 2) ∧ ((67 * l1) + 2) < 305118) ∧ (jg_W σ0 G (d + 1) 157 11 [some (.ref 92), some (jb_v l1), some (jb_v l2), some (jb_v ((G 93 ((67 * l1) + 2)) - 1)), some (jb_v l2)] [] Q)) :
    jg_W σ0 G (d + 1) 157 0 [some (.ref 92), some (jb_v l1), some (jb_v l2), none, none] [] Q := by
  intro σ s
  refine jaL0 (p := 1) rfl jM157 jq157_0 ?_
  refine jiL1 (p := 2) rfl jM157 jq157_1 ?_
  refine jw_callV [(jb_v l1)] jM157 jq157_2 rfl rfl (jo_92 s.1) rfl jM150 rfl rfl ?_
  show jb_w d 150 0 [some (.ref 92), some (jb_v l1)] [] σ (jb_k (d + 1) 157 2 [some (.ref 92), some (jb_v l1), some (jb_v l2), none, none] [] Q)
  refine jaL0 (p := 1) rfl jM150 jq150_0 ?_
  refine jw_getP (p := 4) (i := 1) (q := 93) rfl jM150 jq150_1 rfl (jo_92 s.1) je_11_1 (jp_92_1 s.1) ?_
  refine jw_bipush (p := 6) rfl jM150 jq150_4 (by decide) ?_
  refine jiL1 (p := 7) rfl jM150 jq150_6 ?_
  refine jw_imul (p := 8) rfl jM150 jq150_7 ?_
  refine jw_iconst (p := 9) rfl jM150 jq150_8 ?_
  refine jw_iadd (p := 10) rfl jM150 jq150_9 ?_
  obtain ⟨c1, h1⟩ := h
  refine jg_iald (p := 11) rfl jM150 jq150_10 (ja_93 s.1) c1.1 c1.2 s (by decide) rfl ?_
  refine jw_iret jM150 jq150_11 (fun z => absurd z (by decide)) ?_
  show jb_w (d + 1) 157 5 [some (.ref 92), some (jb_v l1), some (jb_v l2), none, none] [(jb_v (G 93 ((67 * l1) + 2)))] σ Q
  refine jw_iconst (p := 6) rfl jM157 jq157_5 ?_
  refine jw_isub (p := 7) rfl jM157 jq157_6 ?_
  refine jiS3 (p := 8) rfl jM157 jq157_7 ?_
  refine jiL2 (p := 9) rfl jM157 jq157_8 ?_
  refine jiS4 (p := 11) rfl jM157 jq157_9 ?_
  exact h1 σ s
theorem jt157_11 {d : Nat} {σ0 : ib_H} {G : jg_G} {Q : ib_O → Prop} {l1 : Int} {l2 : Int} {l3 : Int} {l4 : Int} (hl1 : jb_r l1) (hl2 : jb_r l2) (hl3 : jb_r l3) (hl4 : jb_r l4)
    (h : (l3 ≤ l4 → (0 ≤ (((67 * l1) + 3) + (2 * l3)) ∧ (((67 * l1) + 3) + (2 * l3)) < 305118) ∧ ((0 ≤ (((67 * l1) + 4) + (2 * l3)) ∧ (((67 * l1) + 4) + (2 * l3)) < 305118) ∧ ((0 ≤ ((67 * l1) + 2) ∧ ((67 * l1) + 2) < 305118) ∧ (jg_E σ0 (jg_u (jg_u (jg_u G 93 (((67 * l1) + 3) + (2 * l3)) 0) 93 (((67 * l1) + 4) + (2 * l3)) 0) 93 ((67 * l1) + 2) l3) none Q)))) ∧ (¬ (l3 ≤ l4) → (0 ≤ (((67 * l1) + 3) + (2 * (l4 + 1))) ∧ (((67 * l1) + 3) + (2 * (l4 + 1))) < 305118) ∧ ((0 ≤ (((67 * l1) + 4) + (2 * (l4 + 1))) ∧ (((67 * l1) + 4) + (2 * (l4 + 1))) < 305118) ∧ ((0 ≤ (((67 * l1) + 3) + (2 * l4)) ∧ (((67 * l1) + 3) + (2 * l4)) < 305118) ∧ ((0 ≤ (((67 * l1) + 4) + (2 * l4)) ∧ (((67 * l1) + 4) + (2 * l4)) < 305118) ∧ (jg_W σ0 (jg_u (jg_u G 93 (((67 * l1) + 3) + (2 * l4)) (G 93 (((67 * l1) + 3) + (2 * (l4 + 1))))) 93 (((67 * l1) + 4) + (2 * l4)) (G 93 (((67 * l1) + 4) + (2 * (l4 + 1))))) (d + 1) 157 11 [some (.ref 92), some (jb_v l1), some (jb_v l2), some (jb_v l3), some (jb_v (l4 + 1))] [] Q)))))) :
    jg_W σ0 G (d + 1) 157 11 [some (.ref 92), some (jb_v l1), some (jb_v l2), some (jb_v l3), some (jb_v l4)] [] Q := by
  intro σ s
  refine jiL4 (p := 13) rfl jM157 jq157_11 ?_
  refine jiL3 (p := 14) rfl jM157 jq157_13 ?_
  refine jw_ic (p := 17) rfl jM157 jq157_14 (jc_ge hl4 hl3) (fun c1 => ?_) (fun c1 => ?_)
  · have h1 := h.1 c1
    refine jaL0 (p := 49) rfl jM157 jq157_48 ?_
    refine jiL1 (p := 50) rfl jM157 jq157_49 ?_
    refine jiL3 (p := 51) rfl jM157 jq157_50 ?_
    refine jw_iconst (p := 52) rfl jM157 jq157_51 ?_
    refine jw_iconst (p := 53) rfl jM157 jq157_52 ?_
    refine jw_callV [(jb_v l1), (jb_v l3), (jb_v 0), (jb_v 0)] jM157 jq157_53 rfl rfl (jo_92 s.1) rfl jM153 rfl rfl ?_
    show jb_w d 153 0 [some (.ref 92), some (jb_v l1), some (jb_v l3), some (jb_v 0), some (jb_v 0)] [] σ (jb_k (d + 1) 157 53 [some (.ref 92), some (jb_v l1), some (jb_v l2), some (jb_v l3), some (jb_v l4)] [] Q)
    refine jaL0 (p := 1) rfl jM153 jq153_0 ?_
    refine jw_getP (p := 4) (i := 1) (q := 93) rfl jM153 jq153_1 rfl (jo_92 s.1) je_11_1 (jp_92_1 s.1) ?_
    refine jw_bipush (p := 6) rfl jM153 jq153_4 (by decide) ?_
    refine jiL1 (p := 7) rfl jM153 jq153_6 ?_
    refine jw_imul (p := 8) rfl jM153 jq153_7 ?_
    refine jw_iconst (p := 9) rfl jM153 jq153_8 ?_
    refine jw_iadd (p := 10) rfl jM153 jq153_9 ?_
    refine jw_iconst (p := 11) rfl jM153 jq153_10 ?_
    refine jiL2 (p := 12) rfl jM153 jq153_11 ?_
    refine jw_imul (p := 13) rfl jM153 jq153_12 ?_
    refine jw_iadd (p := 14) rfl jM153 jq153_13 ?_
    refine jiL3 (p := 15) rfl jM153 jq153_14 ?_
    obtain ⟨c2, h2⟩ := h1
    refine jg_iast (p := 16) rfl jM153 jq153_15 (ja_93 s.1) c2.1 c2.2 s (by decide) (jb_rn rfl) ?_
    intro σ3 s3
    refine jaL0 (p := 17) rfl jM153 jq153_16 ?_
    refine jw_getP (p := 20) (i := 1) (q := 93) rfl jM153 jq153_17 rfl (jo_92 s3.1) je_11_1 (jp_92_1 s3.1) ?_
    refine jw_bipush (p := 22) rfl jM153 jq153_20 (by decide) ?_
    refine jiL1 (p := 23) rfl jM153 jq153_22 ?_
    refine jw_imul (p := 24) rfl jM153 jq153_23 ?_
    refine jw_iconst (p := 25) rfl jM153 jq153_24 ?_
    refine jw_iadd (p := 26) rfl jM153 jq153_25 ?_
    refine jw_iconst (p := 27) rfl jM153 jq153_26 ?_
    refine jiL2 (p := 28) rfl jM153 jq153_27 ?_
    refine jw_imul (p := 29) rfl jM153 jq153_28 ?_
    refine jw_iadd (p := 30) rfl jM153 jq153_29 ?_
    refine jiL4 (p := 32) rfl jM153 jq153_30 ?_
    obtain ⟨c4, h4⟩ := h2
    refine jg_iast (p := 33) rfl jM153 jq153_32 (ja_93 s3.1) c4.1 c4.2 s3 (by decide) (jb_rn rfl) ?_
    intro σ5 s5
    refine jw_vret jM153 jq153_33 ?_
    show jb_w (d + 1) 157 56 [some (.ref 92), some (jb_v l1), some (jb_v l2), some (jb_v l3), some (jb_v l4)] [] σ5 Q
    refine jaL0 (p := 57) rfl jM157 jq157_56 ?_
    refine jw_getP (p := 60) (i := 1) (q := 93) rfl jM157 jq157_57 rfl (jo_92 s5.1) je_11_1 (jp_92_1 s5.1) ?_
    refine jw_bipush (p := 62) rfl jM157 jq157_60 (by decide) ?_
    refine jiL1 (p := 63) rfl jM157 jq157_62 ?_
    refine jw_imul (p := 64) rfl jM157 jq157_63 ?_
    refine jw_iconst (p := 65) rfl jM157 jq157_64 ?_
    refine jw_iadd (p := 66) rfl jM157 jq157_65 ?_
    refine jiL3 (p := 67) rfl jM157 jq157_66 ?_
    obtain ⟨c6, h6⟩ := h4
    refine jg_iast (p := 68) rfl jM157 jq157_67 (ja_93 s5.1) c6.1 c6.2 s5 (by decide) hl3 ?_
    intro σ7 s7
    exact jw_vret jM157 jq157_68 (h6 σ7 s7)
  · have h1 := h.2 c1
    refine jaL0 (p := 18) rfl jM157 jq157_17 ?_
    refine jiL1 (p := 19) rfl jM157 jq157_18 ?_
    refine jiL4 (p := 21) rfl jM157 jq157_19 ?_
    refine jaL0 (p := 22) rfl jM157 jq157_21 ?_
    refine jiL1 (p := 23) rfl jM157 jq157_22 ?_
    refine jiL4 (p := 25) rfl jM157 jq157_23 ?_
    refine jw_iconst (p := 26) rfl jM157 jq157_25 ?_
    refine jw_iadd (p := 27) rfl jM157 jq157_26 ?_
    refine jw_callV [(jb_v l1), (jb_v (l4 + 1))] jM157 jq157_27 rfl rfl (jo_92 s.1) rfl jM151 rfl rfl ?_
    show jb_w d 151 0 [some (.ref 92), some (jb_v l1), some (jb_v (l4 + 1))] [] σ (jb_k (d + 1) 157 27 [some (.ref 92), some (jb_v l1), some (jb_v l2), some (jb_v l3), some (jb_v l4)] [(jb_v l4), (jb_v l1), (.ref 92)] Q)
    refine jaL0 (p := 1) rfl jM151 jq151_0 ?_
    refine jw_getP (p := 4) (i := 1) (q := 93) rfl jM151 jq151_1 rfl (jo_92 s.1) je_11_1 (jp_92_1 s.1) ?_
    refine jw_bipush (p := 6) rfl jM151 jq151_4 (by decide) ?_
    refine jiL1 (p := 7) rfl jM151 jq151_6 ?_
    refine jw_imul (p := 8) rfl jM151 jq151_7 ?_
    refine jw_iconst (p := 9) rfl jM151 jq151_8 ?_
    refine jw_iadd (p := 10) rfl jM151 jq151_9 ?_
    refine jw_iconst (p := 11) rfl jM151 jq151_10 ?_
    refine jiL2 (p := 12) rfl jM151 jq151_11 ?_
    refine jw_imul (p := 13) rfl jM151 jq151_12 ?_
    refine jw_iadd (p := 14) rfl jM151 jq151_13 ?_
    obtain ⟨c8, h8⟩ := h1
    refine jg_iald (p := 15) rfl jM151 jq151_14 (ja_93 s.1) c8.1 c8.2 s (by decide) rfl ?_
    refine jw_iret jM151 jq151_15 (fun z => absurd z (by decide)) ?_
    show jb_w (d + 1) 157 30 [some (.ref 92), some (jb_v l1), some (jb_v l2), some (jb_v l3), some (jb_v l4)] [(jb_v (G 93 (((67 * l1) + 3) + (2 * (l4 + 1))))), (jb_v l4), (jb_v l1), (.ref 92)] σ Q
    refine jaL0 (p := 31) rfl jM157 jq157_30 ?_
    refine jiL1 (p := 32) rfl jM157 jq157_31 ?_
    refine jiL4 (p := 34) rfl jM157 jq157_32 ?_
    refine jw_iconst (p := 35) rfl jM157 jq157_34 ?_
    refine jw_iadd (p := 36) rfl jM157 jq157_35 ?_
    refine jw_callV [(jb_v l1), (jb_v (l4 + 1))] jM157 jq157_36 rfl rfl (jo_92 s.1) rfl jM152 rfl rfl ?_
    show jb_w d 152 0 [some (.ref 92), some (jb_v l1), some (jb_v (l4 + 1))] [] σ (jb_k (d + 1) 157 36 [some (.ref 92), some (jb_v l1), some (jb_v l2), some (jb_v l3), some (jb_v l4)] [(jb_v (G 93 (((67 * l1) + 3) + (2 * (l4 + 1))))), (jb_v l4), (jb_v l1), (.ref 92)] Q)
    refine jaL0 (p := 1) rfl jM152 jq152_0 ?_
    refine jw_getP (p := 4) (i := 1) (q := 93) rfl jM152 jq152_1 rfl (jo_92 s.1) je_11_1 (jp_92_1 s.1) ?_
    refine jw_bipush (p := 6) rfl jM152 jq152_4 (by decide) ?_
    refine jiL1 (p := 7) rfl jM152 jq152_6 ?_
    refine jw_imul (p := 8) rfl jM152 jq152_7 ?_
    refine jw_iconst (p := 9) rfl jM152 jq152_8 ?_
    refine jw_iadd (p := 10) rfl jM152 jq152_9 ?_
    refine jw_iconst (p := 11) rfl jM152 jq152_10 ?_
    refine jiL2 (p := 12) rfl jM152 jq152_11 ?_
    refine jw_imul (p := 13) rfl jM152 jq152_12 ?_
    refine jw_iadd (p := 14) rfl jM152 jq152_13 ?_
    obtain ⟨c9, h9⟩ := h8
    refine jg_iald (p := 15) rfl jM152 jq152_14 (ja_93 s.1) c9.1 c9.2 s (by decide) rfl ?_
    refine jw_iret jM152 jq152_15 (fun z => absurd z (by decide)) ?_
    show jb_w (d + 1) 157 39 [some (.ref 92), some (jb_v l1), some (jb_v l2), some (jb_v l3), some (jb_v l4)] [(jb_v (G 93 (((67 * l1) + 4) + (2 * (l4 + 1))))), (jb_v (G 93 (((67 * l1) + 3) + (2 * (l4 + 1))))), (jb_v l4), (jb_v l1), (.ref 92)] σ Q
    refine jw_callV [(jb_v l1), (jb_v l4), (jb_v (G 93 (((67 * l1) + 3) + (2 * (l4 + 1))))), (jb_v (G 93 (((67 * l1) + 4) + (2 * (l4 + 1)))))] jM157 jq157_39 rfl rfl (jo_92 s.1) rfl jM153 rfl rfl ?_
    show jb_w d 153 0 [some (.ref 92), some (jb_v l1), some (jb_v l4), some (jb_v (G 93 (((67 * l1) + 3) + (2 * (l4 + 1))))), some (jb_v (G 93 (((67 * l1) + 4) + (2 * (l4 + 1)))))] [] σ (jb_k (d + 1) 157 39 [some (.ref 92), some (jb_v l1), some (jb_v l2), some (jb_v l3), some (jb_v l4)] [] Q)
    refine jaL0 (p := 1) rfl jM153 jq153_0 ?_
    refine jw_getP (p := 4) (i := 1) (q := 93) rfl jM153 jq153_1 rfl (jo_92 s.1) je_11_1 (jp_92_1 s.1) ?_
    refine jw_bipush (p := 6) rfl jM153 jq153_4 (by decide) ?_
    refine jiL1 (p := 7) rfl jM153 jq153_6 ?_
    refine jw_imul (p := 8) rfl jM153 jq153_7 ?_
    refine jw_iconst (p := 9) rfl jM153 jq153_8 ?_
    refine jw_iadd (p := 10) rfl jM153 jq153_9 ?_
    refine jw_iconst (p := 11) rfl jM153 jq153_10 ?_
    refine jiL2 (p := 12) rfl jM153 jq153_11 ?_
    refine jw_imul (p := 13) rfl jM153 jq153_12 ?_
    refine jw_iadd (p := 14) rfl jM153 jq153_13 ?_
    refine jiL3 (p := 15) rfl jM153 jq153_14 ?_
    obtain ⟨c10, h10⟩ := h9
    refine jg_iast (p := 16) rfl jM153 jq153_15 (ja_93 s.1) c10.1 c10.2 s (by decide) (s.r _ _) ?_
    intro σ11 s11
    refine jaL0 (p := 17) rfl jM153 jq153_16 ?_
    refine jw_getP (p := 20) (i := 1) (q := 93) rfl jM153 jq153_17 rfl (jo_92 s11.1) je_11_1 (jp_92_1 s11.1) ?_
    refine jw_bipush (p := 22) rfl jM153 jq153_20 (by decide) ?_
    refine jiL1 (p := 23) rfl jM153 jq153_22 ?_
    refine jw_imul (p := 24) rfl jM153 jq153_23 ?_
    refine jw_iconst (p := 25) rfl jM153 jq153_24 ?_
    refine jw_iadd (p := 26) rfl jM153 jq153_25 ?_
    refine jw_iconst (p := 27) rfl jM153 jq153_26 ?_
    refine jiL2 (p := 28) rfl jM153 jq153_27 ?_
    refine jw_imul (p := 29) rfl jM153 jq153_28 ?_
    refine jw_iadd (p := 30) rfl jM153 jq153_29 ?_
    refine jiL4 (p := 32) rfl jM153 jq153_30 ?_
    obtain ⟨c12, h12⟩ := h10
    refine jg_iast (p := 33) rfl jM153 jq153_32 (ja_93 s11.1) c12.1 c12.2 s11 (by decide) (s.r _ _) ?_
    intro σ13 s13
    refine jw_vret jM153 jq153_33 ?_
    show jb_w (d + 1) 157 42 [some (.ref 92), some (jb_v l1), some (jb_v l2), some (jb_v l3), some (jb_v l4)] [] σ13 Q
    refine jiI4 (p := 45) rfl jM157 jq157_42 ?_
    refine jw_goto jM157 jq157_45 ?_
    exact h12 σ13 s13
-- 158 PageLoomModel.placeOf(II)I need 1
theorem jt158_0 {d : Nat} {σ0 : ib_H} {G : jg_G} {Q : ib_O → Prop} {l1 : Int} {l2 : Int} (hl1 : jb_r l1) (hl2 : jb_r l2)
    (h : jg_W σ0 G d 158 2 [some (.ref 92), some (jb_v l1), some (jb_v l2), some (jb_v 0)] [] Q) :
    jg_W σ0 G d 158 0 [some (.ref 92), some (jb_v l1), some (jb_v l2), none] [] Q := by
  intro σ s
  refine jw_iconst (p := 1) rfl jM158 jq158_0 ?_
  refine jiS3 (p := 2) rfl jM158 jq158_1 ?_
  exact h σ s
theorem jt158_2 {d : Nat} {σ0 : ib_H} {G : jg_G} {Q : ib_O → Prop} {l1 : Int} {l2 : Int} {l3 : Int} (hl1 : jb_r l1) (hl2 : jb_r l2) (hl3 : jb_r l3)
    (h : (0 ≤ ((67 * l1) + 2) ∧ ((67 * l1) + 2) < 305118) ∧ ((G 93 ((67 * l1) + 2) ≤ l3 → jg_E σ0 G (some (jb_v ((-1) - l3))) Q) ∧ (¬ (G 93 ((67 * l1) + 2) ≤ l3) → (0 ≤ (((67 * l1) + 3) + (2 * l3)) ∧ (((67 * l1) + 3) + (2 * l3)) < 305118) ∧ ((l2 ≤ G 93 (((67 * l1) + 3) + (2 * l3)) → (¬ G 93 (((67 * l1) + 3) + (2 * l3)) = l2 → jg_E σ0 G (some (jb_v ((-1) - l3))) Q) ∧ (¬ (¬ G 93 (((67 * l1) + 3) + (2 * l3)) = l2) → jg_E σ0 G (some (jb_v l3)) Q)) ∧ (¬ (l2 ≤ G 93 (((67 * l1) + 3) + (2 * l3))) → jg_W σ0 G (d + 1) 158 2 [some (.ref 92), some (jb_v l1), some (jb_v l2), some (jb_v (l3 + 1))] [] Q))))) :
    jg_W σ0 G (d + 1) 158 2 [some (.ref 92), some (jb_v l1), some (jb_v l2), some (jb_v l3)] [] Q := by
  intro σ s
  refine jiL3 (p := 3) rfl jM158 jq158_2 ?_
  refine jaL0 (p := 4) rfl jM158 jq158_3 ?_
  refine jiL1 (p := 5) rfl jM158 jq158_4 ?_
  refine jw_callV [(jb_v l1)] jM158 jq158_5 rfl rfl (jo_92 s.1) rfl jM150 rfl rfl ?_
  show jb_w d 150 0 [some (.ref 92), some (jb_v l1)] [] σ (jb_k (d + 1) 158 5 [some (.ref 92), some (jb_v l1), some (jb_v l2), some (jb_v l3)] [(jb_v l3)] Q)
  refine jaL0 (p := 1) rfl jM150 jq150_0 ?_
  refine jw_getP (p := 4) (i := 1) (q := 93) rfl jM150 jq150_1 rfl (jo_92 s.1) je_11_1 (jp_92_1 s.1) ?_
  refine jw_bipush (p := 6) rfl jM150 jq150_4 (by decide) ?_
  refine jiL1 (p := 7) rfl jM150 jq150_6 ?_
  refine jw_imul (p := 8) rfl jM150 jq150_7 ?_
  refine jw_iconst (p := 9) rfl jM150 jq150_8 ?_
  refine jw_iadd (p := 10) rfl jM150 jq150_9 ?_
  obtain ⟨c1, h1⟩ := h
  refine jg_iald (p := 11) rfl jM150 jq150_10 (ja_93 s.1) c1.1 c1.2 s (by decide) rfl ?_
  refine jw_iret jM150 jq150_11 (fun z => absurd z (by decide)) ?_
  show jb_w (d + 1) 158 8 [some (.ref 92), some (jb_v l1), some (jb_v l2), some (jb_v l3)] [(jb_v (G 93 ((67 * l1) + 2))), (jb_v l3)] σ Q
  refine jw_ic (p := 11) rfl jM158 jq158_8 (jc_ge hl3 (s.r _ _)) (fun c2 => ?_) (fun c2 => ?_)
  · have h2 := h1.1 c2
    refine jiL3 (p := 28) rfl jM158 jq158_27 ?_
    refine jaL0 (p := 29) rfl jM158 jq158_28 ?_
    refine jiL1 (p := 30) rfl jM158 jq158_29 ?_
    refine jw_callV [(jb_v l1)] jM158 jq158_30 rfl rfl (jo_92 s.1) rfl jM150 rfl rfl ?_
    show jb_w d 150 0 [some (.ref 92), some (jb_v l1)] [] σ (jb_k (d + 1) 158 30 [some (.ref 92), some (jb_v l1), some (jb_v l2), some (jb_v l3)] [(jb_v l3)] Q)
    refine jaL0 (p := 1) rfl jM150 jq150_0 ?_
    refine jw_getP (p := 4) (i := 1) (q := 93) rfl jM150 jq150_1 rfl (jo_92 s.1) je_11_1 (jp_92_1 s.1) ?_
    refine jw_bipush (p := 6) rfl jM150 jq150_4 (by decide) ?_
    refine jiL1 (p := 7) rfl jM150 jq150_6 ?_
    refine jw_imul (p := 8) rfl jM150 jq150_7 ?_
    refine jw_iconst (p := 9) rfl jM150 jq150_8 ?_
    refine jw_iadd (p := 10) rfl jM150 jq150_9 ?_
    refine jg_iald (p := 11) rfl jM150 jq150_10 (ja_93 s.1) c1.1 c1.2 s (by decide) rfl ?_
    refine jw_iret jM150 jq150_11 (fun z => absurd z (by decide)) ?_
    show jb_w (d + 1) 158 33 [some (.ref 92), some (jb_v l1), some (jb_v l2), some (jb_v l3)] [(jb_v (G 93 ((67 * l1) + 2))), (jb_v l3)] σ Q
    refine jw_ic (p := 36) rfl jM158 jq158_33 (jc_ge hl3 (s.r _ _)) (fun _ => ?_) (fun z => absurd c2 z)
    refine jw_iconst (p := 51) rfl jM158 jq158_50 ?_
    refine jiL3 (p := 52) rfl jM158 jq158_51 ?_
    refine jw_isub (p := 53) rfl jM158 jq158_52 ?_
    exact jw_iret jM158 jq158_53 (fun z => absurd z (by decide)) (h2 σ s)
  · have h2 := h1.2 c2
    refine jaL0 (p := 12) rfl jM158 jq158_11 ?_
    refine jiL1 (p := 13) rfl jM158 jq158_12 ?_
    refine jiL3 (p := 14) rfl jM158 jq158_13 ?_
    refine jw_callV [(jb_v l1), (jb_v l3)] jM158 jq158_14 rfl rfl (jo_92 s.1) rfl jM151 rfl rfl ?_
    show jb_w d 151 0 [some (.ref 92), some (jb_v l1), some (jb_v l3)] [] σ (jb_k (d + 1) 158 14 [some (.ref 92), some (jb_v l1), some (jb_v l2), some (jb_v l3)] [] Q)
    refine jaL0 (p := 1) rfl jM151 jq151_0 ?_
    refine jw_getP (p := 4) (i := 1) (q := 93) rfl jM151 jq151_1 rfl (jo_92 s.1) je_11_1 (jp_92_1 s.1) ?_
    refine jw_bipush (p := 6) rfl jM151 jq151_4 (by decide) ?_
    refine jiL1 (p := 7) rfl jM151 jq151_6 ?_
    refine jw_imul (p := 8) rfl jM151 jq151_7 ?_
    refine jw_iconst (p := 9) rfl jM151 jq151_8 ?_
    refine jw_iadd (p := 10) rfl jM151 jq151_9 ?_
    refine jw_iconst (p := 11) rfl jM151 jq151_10 ?_
    refine jiL2 (p := 12) rfl jM151 jq151_11 ?_
    refine jw_imul (p := 13) rfl jM151 jq151_12 ?_
    refine jw_iadd (p := 14) rfl jM151 jq151_13 ?_
    obtain ⟨c3, h3⟩ := h2
    refine jg_iald (p := 15) rfl jM151 jq151_14 (ja_93 s.1) c3.1 c3.2 s (by decide) rfl ?_
    refine jw_iret jM151 jq151_15 (fun z => absurd z (by decide)) ?_
    show jb_w (d + 1) 158 17 [some (.ref 92), some (jb_v l1), some (jb_v l2), some (jb_v l3)] [(jb_v (G 93 (((67 * l1) + 3) + (2 * l3))))] σ Q
    refine jiL2 (p := 18) rfl jM158 jq158_17 ?_
    refine jw_ic (p := 21) rfl jM158 jq158_18 (jc_ge (s.r _ _) hl2) (fun c4 => ?_) (fun c4 => ?_)
    · have h4 := h3.1 c4
      refine jiL3 (p := 28) rfl jM158 jq158_27 ?_
      refine jaL0 (p := 29) rfl jM158 jq158_28 ?_
      refine jiL1 (p := 30) rfl jM158 jq158_29 ?_
      refine jw_callV [(jb_v l1)] jM158 jq158_30 rfl rfl (jo_92 s.1) rfl jM150 rfl rfl ?_
      show jb_w d 150 0 [some (.ref 92), some (jb_v l1)] [] σ (jb_k (d + 1) 158 30 [some (.ref 92), some (jb_v l1), some (jb_v l2), some (jb_v l3)] [(jb_v l3)] Q)
      refine jaL0 (p := 1) rfl jM150 jq150_0 ?_
      refine jw_getP (p := 4) (i := 1) (q := 93) rfl jM150 jq150_1 rfl (jo_92 s.1) je_11_1 (jp_92_1 s.1) ?_
      refine jw_bipush (p := 6) rfl jM150 jq150_4 (by decide) ?_
      refine jiL1 (p := 7) rfl jM150 jq150_6 ?_
      refine jw_imul (p := 8) rfl jM150 jq150_7 ?_
      refine jw_iconst (p := 9) rfl jM150 jq150_8 ?_
      refine jw_iadd (p := 10) rfl jM150 jq150_9 ?_
      refine jg_iald (p := 11) rfl jM150 jq150_10 (ja_93 s.1) c1.1 c1.2 s (by decide) rfl ?_
      refine jw_iret jM150 jq150_11 (fun z => absurd z (by decide)) ?_
      show jb_w (d + 1) 158 33 [some (.ref 92), some (jb_v l1), some (jb_v l2), some (jb_v l3)] [(jb_v (G 93 ((67 * l1) + 2))), (jb_v l3)] σ Q
      refine jw_ic (p := 36) rfl jM158 jq158_33 (jc_ge hl3 (s.r _ _)) (fun z => absurd z c2) (fun _ => ?_)
      refine jaL0 (p := 37) rfl jM158 jq158_36 ?_
      refine jiL1 (p := 38) rfl jM158 jq158_37 ?_
      refine jiL3 (p := 39) rfl jM158 jq158_38 ?_
      refine jw_callV [(jb_v l1), (jb_v l3)] jM158 jq158_39 rfl rfl (jo_92 s.1) rfl jM151 rfl rfl ?_
      show jb_w d 151 0 [some (.ref 92), some (jb_v l1), some (jb_v l3)] [] σ (jb_k (d + 1) 158 39 [some (.ref 92), some (jb_v l1), some (jb_v l2), some (jb_v l3)] [] Q)
      refine jaL0 (p := 1) rfl jM151 jq151_0 ?_
      refine jw_getP (p := 4) (i := 1) (q := 93) rfl jM151 jq151_1 rfl (jo_92 s.1) je_11_1 (jp_92_1 s.1) ?_
      refine jw_bipush (p := 6) rfl jM151 jq151_4 (by decide) ?_
      refine jiL1 (p := 7) rfl jM151 jq151_6 ?_
      refine jw_imul (p := 8) rfl jM151 jq151_7 ?_
      refine jw_iconst (p := 9) rfl jM151 jq151_8 ?_
      refine jw_iadd (p := 10) rfl jM151 jq151_9 ?_
      refine jw_iconst (p := 11) rfl jM151 jq151_10 ?_
      refine jiL2 (p := 12) rfl jM151 jq151_11 ?_
      refine jw_imul (p := 13) rfl jM151 jq151_12 ?_
      refine jw_iadd (p := 14) rfl jM151 jq151_13 ?_
      refine jg_iald (p := 15) rfl jM151 jq151_14 (ja_93 s.1) c3.1 c3.2 s (by decide) rfl ?_
      refine jw_iret jM151 jq151_15 (fun z => absurd z (by decide)) ?_
      show jb_w (d + 1) 158 42 [some (.ref 92), some (jb_v l1), some (jb_v l2), some (jb_v l3)] [(jb_v (G 93 (((67 * l1) + 3) + (2 * l3))))] σ Q
      refine jiL2 (p := 43) rfl jM158 jq158_42 ?_
      refine jw_ic (p := 46) rfl jM158 jq158_43 (jc_ne (s.r _ _) hl2) (fun c5 => ?_) (fun c5 => ?_)
      · have h5 := h4.1 c5
        refine jw_iconst (p := 51) rfl jM158 jq158_50 ?_
        refine jiL3 (p := 52) rfl jM158 jq158_51 ?_
        refine jw_isub (p := 53) rfl jM158 jq158_52 ?_
        exact jw_iret jM158 jq158_53 (fun z => absurd z (by decide)) (h5 σ s)
      · have h5 := h4.2 c5
        refine jiL3 (p := 47) rfl jM158 jq158_46 ?_
        refine jw_goto jM158 jq158_47 ?_
        exact jw_iret jM158 jq158_53 (fun z => absurd z (by decide)) (h5 σ s)
    · have h4 := h3.2 c4
      refine jiI3 (p := 24) rfl jM158 jq158_21 ?_
      refine jw_goto jM158 jq158_24 ?_
      exact h4 σ s
-- 159 PageLoomModel.childOf(II)I need 1
theorem jt159_0 {d : Nat} {σ0 : ib_H} {G : jg_G} {Q : ib_O → Prop} {l1 : Int} {l2 : Int} (hl1 : jb_r l1) (hl2 : jb_r l2)
    (h : jg_W σ0 G d 159 2 [some (.ref 92), some (jb_v l1), some (jb_v l2), some (jb_v 0)] [] Q) :
    jg_W σ0 G d 159 0 [some (.ref 92), some (jb_v l1), some (jb_v l2), none] [] Q := by
  intro σ s
  refine jw_iconst (p := 1) rfl jM159 jq159_0 ?_
  refine jiS3 (p := 2) rfl jM159 jq159_1 ?_
  exact h σ s
theorem jt159_2 {d : Nat} {σ0 : ib_H} {G : jg_G} {Q : ib_O → Prop} {l1 : Int} {l2 : Int} {l3 : Int} (hl1 : jb_r l1) (hl2 : jb_r l2) (hl3 : jb_r l3)
    (h : (0 ≤ ((67 * l1) + 2) ∧ ((67 * l1) + 2) < 305118) ∧ ((jb_r (l3 + 1)) ∧ ((G 93 ((67 * l1) + 2) ≤ l3 + 1 → (0 ≤ (((67 * l1) + 4) + (2 * l3)) ∧ (((67 * l1) + 4) + (2 * l3)) < 305118) ∧ (jg_E σ0 G (some (jb_v (G 93 (((67 * l1) + 4) + (2 * l3))))) Q)) ∧ (¬ (G 93 ((67 * l1) + 2) ≤ l3 + 1) → (0 ≤ (((67 * l1) + 3) + (2 * (l3 + 1))) ∧ (((67 * l1) + 3) + (2 * (l3 + 1))) < 305118) ∧ ((l2 < G 93 (((67 * l1) + 3) + (2 * (l3 + 1))) → (0 ≤ (((67 * l1) + 4) + (2 * l3)) ∧ (((67 * l1) + 4) + (2 * l3)) < 305118) ∧ (jg_E σ0 G (some (jb_v (G 93 (((67 * l1) + 4) + (2 * l3))))) Q)) ∧ (¬ (l2 < G 93 (((67 * l1) + 3) + (2 * (l3 + 1)))) → jg_W σ0 G (d + 1) 159 2 [some (.ref 92), some (jb_v l1), some (jb_v l2), some (jb_v (l3 + 1))] [] Q)))))) :
    jg_W σ0 G (d + 1) 159 2 [some (.ref 92), some (jb_v l1), some (jb_v l2), some (jb_v l3)] [] Q := by
  intro σ s
  refine jiL3 (p := 3) rfl jM159 jq159_2 ?_
  refine jw_iconst (p := 4) rfl jM159 jq159_3 ?_
  refine jw_iadd (p := 5) rfl jM159 jq159_4 ?_
  refine jaL0 (p := 6) rfl jM159 jq159_5 ?_
  refine jiL1 (p := 7) rfl jM159 jq159_6 ?_
  refine jw_callV [(jb_v l1)] jM159 jq159_7 rfl rfl (jo_92 s.1) rfl jM150 rfl rfl ?_
  show jb_w d 150 0 [some (.ref 92), some (jb_v l1)] [] σ (jb_k (d + 1) 159 7 [some (.ref 92), some (jb_v l1), some (jb_v l2), some (jb_v l3)] [(jb_v (l3 + 1))] Q)
  refine jaL0 (p := 1) rfl jM150 jq150_0 ?_
  refine jw_getP (p := 4) (i := 1) (q := 93) rfl jM150 jq150_1 rfl (jo_92 s.1) je_11_1 (jp_92_1 s.1) ?_
  refine jw_bipush (p := 6) rfl jM150 jq150_4 (by decide) ?_
  refine jiL1 (p := 7) rfl jM150 jq150_6 ?_
  refine jw_imul (p := 8) rfl jM150 jq150_7 ?_
  refine jw_iconst (p := 9) rfl jM150 jq150_8 ?_
  refine jw_iadd (p := 10) rfl jM150 jq150_9 ?_
  obtain ⟨c1, h1⟩ := h
  refine jg_iald (p := 11) rfl jM150 jq150_10 (ja_93 s.1) c1.1 c1.2 s (by decide) rfl ?_
  refine jw_iret jM150 jq150_11 (fun z => absurd z (by decide)) ?_
  show jb_w (d + 1) 159 10 [some (.ref 92), some (jb_v l1), some (jb_v l2), some (jb_v l3)] [(jb_v (G 93 ((67 * l1) + 2))), (jb_v (l3 + 1))] σ Q
  obtain ⟨c2, h2⟩ := h1
  refine jw_ic (p := 13) rfl jM159 jq159_10 (jc_ge c2 (s.r _ _)) (fun c3 => ?_) (fun c3 => ?_)
  · have h3 := h2.1 c3
    refine jaL0 (p := 32) rfl jM159 jq159_31 ?_
    refine jiL1 (p := 33) rfl jM159 jq159_32 ?_
    refine jiL3 (p := 34) rfl jM159 jq159_33 ?_
    refine jw_callV [(jb_v l1), (jb_v l3)] jM159 jq159_34 rfl rfl (jo_92 s.1) rfl jM152 rfl rfl ?_
    show jb_w d 152 0 [some (.ref 92), some (jb_v l1), some (jb_v l3)] [] σ (jb_k (d + 1) 159 34 [some (.ref 92), some (jb_v l1), some (jb_v l2), some (jb_v l3)] [] Q)
    refine jaL0 (p := 1) rfl jM152 jq152_0 ?_
    refine jw_getP (p := 4) (i := 1) (q := 93) rfl jM152 jq152_1 rfl (jo_92 s.1) je_11_1 (jp_92_1 s.1) ?_
    refine jw_bipush (p := 6) rfl jM152 jq152_4 (by decide) ?_
    refine jiL1 (p := 7) rfl jM152 jq152_6 ?_
    refine jw_imul (p := 8) rfl jM152 jq152_7 ?_
    refine jw_iconst (p := 9) rfl jM152 jq152_8 ?_
    refine jw_iadd (p := 10) rfl jM152 jq152_9 ?_
    refine jw_iconst (p := 11) rfl jM152 jq152_10 ?_
    refine jiL2 (p := 12) rfl jM152 jq152_11 ?_
    refine jw_imul (p := 13) rfl jM152 jq152_12 ?_
    refine jw_iadd (p := 14) rfl jM152 jq152_13 ?_
    obtain ⟨c4, h4⟩ := h3
    refine jg_iald (p := 15) rfl jM152 jq152_14 (ja_93 s.1) c4.1 c4.2 s (by decide) rfl ?_
    refine jw_iret jM152 jq152_15 (fun z => absurd z (by decide)) ?_
    show jb_w (d + 1) 159 37 [some (.ref 92), some (jb_v l1), some (jb_v l2), some (jb_v l3)] [(jb_v (G 93 (((67 * l1) + 4) + (2 * l3))))] σ Q
    exact jw_iret jM159 jq159_37 (fun z => absurd z (by decide)) (h4 σ s)
  · have h3 := h2.2 c3
    refine jaL0 (p := 14) rfl jM159 jq159_13 ?_
    refine jiL1 (p := 15) rfl jM159 jq159_14 ?_
    refine jiL3 (p := 16) rfl jM159 jq159_15 ?_
    refine jw_iconst (p := 17) rfl jM159 jq159_16 ?_
    refine jw_iadd (p := 18) rfl jM159 jq159_17 ?_
    refine jw_callV [(jb_v l1), (jb_v (l3 + 1))] jM159 jq159_18 rfl rfl (jo_92 s.1) rfl jM151 rfl rfl ?_
    show jb_w d 151 0 [some (.ref 92), some (jb_v l1), some (jb_v (l3 + 1))] [] σ (jb_k (d + 1) 159 18 [some (.ref 92), some (jb_v l1), some (jb_v l2), some (jb_v l3)] [] Q)
    refine jaL0 (p := 1) rfl jM151 jq151_0 ?_
    refine jw_getP (p := 4) (i := 1) (q := 93) rfl jM151 jq151_1 rfl (jo_92 s.1) je_11_1 (jp_92_1 s.1) ?_
    refine jw_bipush (p := 6) rfl jM151 jq151_4 (by decide) ?_
    refine jiL1 (p := 7) rfl jM151 jq151_6 ?_
    refine jw_imul (p := 8) rfl jM151 jq151_7 ?_
    refine jw_iconst (p := 9) rfl jM151 jq151_8 ?_
    refine jw_iadd (p := 10) rfl jM151 jq151_9 ?_
    refine jw_iconst (p := 11) rfl jM151 jq151_10 ?_
    refine jiL2 (p := 12) rfl jM151 jq151_11 ?_
    refine jw_imul (p := 13) rfl jM151 jq151_12 ?_
    refine jw_iadd (p := 14) rfl jM151 jq151_13 ?_
    obtain ⟨c5, h5⟩ := h3
    refine jg_iald (p := 15) rfl jM151 jq151_14 (ja_93 s.1) c5.1 c5.2 s (by decide) rfl ?_
    refine jw_iret jM151 jq151_15 (fun z => absurd z (by decide)) ?_
    show jb_w (d + 1) 159 21 [some (.ref 92), some (jb_v l1), some (jb_v l2), some (jb_v l3)] [(jb_v (G 93 (((67 * l1) + 3) + (2 * (l3 + 1)))))] σ Q
    refine jiL2 (p := 22) rfl jM159 jq159_21 ?_
    refine jw_ic (p := 25) rfl jM159 jq159_22 (jc_gt (s.r _ _) hl2) (fun c6 => ?_) (fun c6 => ?_)
    · have h6 := h5.1 c6
      refine jaL0 (p := 32) rfl jM159 jq159_31 ?_
      refine jiL1 (p := 33) rfl jM159 jq159_32 ?_
      refine jiL3 (p := 34) rfl jM159 jq159_33 ?_
      refine jw_callV [(jb_v l1), (jb_v l3)] jM159 jq159_34 rfl rfl (jo_92 s.1) rfl jM152 rfl rfl ?_
      show jb_w d 152 0 [some (.ref 92), some (jb_v l1), some (jb_v l3)] [] σ (jb_k (d + 1) 159 34 [some (.ref 92), some (jb_v l1), some (jb_v l2), some (jb_v l3)] [] Q)
      refine jaL0 (p := 1) rfl jM152 jq152_0 ?_
      refine jw_getP (p := 4) (i := 1) (q := 93) rfl jM152 jq152_1 rfl (jo_92 s.1) je_11_1 (jp_92_1 s.1) ?_
      refine jw_bipush (p := 6) rfl jM152 jq152_4 (by decide) ?_
      refine jiL1 (p := 7) rfl jM152 jq152_6 ?_
      refine jw_imul (p := 8) rfl jM152 jq152_7 ?_
      refine jw_iconst (p := 9) rfl jM152 jq152_8 ?_
      refine jw_iadd (p := 10) rfl jM152 jq152_9 ?_
      refine jw_iconst (p := 11) rfl jM152 jq152_10 ?_
      refine jiL2 (p := 12) rfl jM152 jq152_11 ?_
      refine jw_imul (p := 13) rfl jM152 jq152_12 ?_
      refine jw_iadd (p := 14) rfl jM152 jq152_13 ?_
      obtain ⟨c7, h7⟩ := h6
      refine jg_iald (p := 15) rfl jM152 jq152_14 (ja_93 s.1) c7.1 c7.2 s (by decide) rfl ?_
      refine jw_iret jM152 jq152_15 (fun z => absurd z (by decide)) ?_
      show jb_w (d + 1) 159 37 [some (.ref 92), some (jb_v l1), some (jb_v l2), some (jb_v l3)] [(jb_v (G 93 (((67 * l1) + 4) + (2 * l3))))] σ Q
      exact jw_iret jM159 jq159_37 (fun z => absurd z (by decide)) (h7 σ s)
    · have h6 := h5.2 c6
      refine jiI3 (p := 28) rfl jM159 jq159_25 ?_
      refine jw_goto jM159 jq159_28 ?_
      exact h6 σ s
-- 160 PageLoomModel.frameOf(I)I need 0
theorem jt160_0 {d : Nat} {σ0 : ib_H} {G : jg_G} {Q : ib_O → Prop} {l1 : Int} (hl1 : jb_r l1)
    (h : jg_W σ0 G d 160 4 [some (.ref 92), some (jb_v l1), some (jb_v (-1)), some (jb_v 0)] [] Q) :
    jg_W σ0 G d 160 0 [some (.ref 92), some (jb_v l1), none, none] [] Q := by
  intro σ s
  refine jw_iconst (p := 1) rfl jM160 jq160_0 ?_
  refine jiS2 (p := 2) rfl jM160 jq160_1 ?_
  refine jw_iconst (p := 3) rfl jM160 jq160_2 ?_
  refine jiS3 (p := 4) rfl jM160 jq160_3 ?_
  exact h σ s
theorem jt160_4 {d : Nat} {σ0 : ib_H} {G : jg_G} {Q : ib_O → Prop} {l1 : Int} {l2 : Int} {l3 : Int} (hl1 : jb_r l1) (hl2 : jb_r l2) (hl3 : jb_r l3)
    (h : (4 ≤ l3 → jg_E σ0 G (some (jb_v l2)) Q) ∧ (¬ (4 ≤ l3) → (0 ≤ l3 ∧ l3 < 4) ∧ ((¬ G 95 l3 = l1 → jg_W σ0 G d 160 4 [some (.ref 92), some (jb_v l1), some (jb_v l2), some (jb_v (l3 + 1))] [] Q) ∧ (¬ (¬ G 95 l3 = l1) → jg_W σ0 G d 160 4 [some (.ref 92), some (jb_v l1), some (jb_v l3), some (jb_v (l3 + 1))] [] Q)))) :
    jg_W σ0 G d 160 4 [some (.ref 92), some (jb_v l1), some (jb_v l2), some (jb_v l3)] [] Q := by
  intro σ s
  refine jiL3 (p := 5) rfl jM160 jq160_4 ?_
  refine jw_iconst (p := 6) rfl jM160 jq160_5 ?_
  refine jw_ic (p := 9) rfl jM160 jq160_6 (jc_ge hl3 (jb_rn rfl)) (fun c1 => ?_) (fun c1 => ?_)
  · have h1 := h.1 c1
    refine jiL2 (p := 32) rfl jM160 jq160_31 ?_
    exact jw_iret jM160 jq160_32 (fun z => absurd z (by decide)) (h1 σ s)
  · have h1 := h.2 c1
    refine jaL0 (p := 10) rfl jM160 jq160_9 ?_
    refine jw_getP (p := 13) (i := 9) (q := 95) rfl jM160 jq160_10 rfl (jo_92 s.1) je_11_9 (jp_92_9 s.1) ?_
    refine jiL3 (p := 14) rfl jM160 jq160_13 ?_
    obtain ⟨c2, h2⟩ := h1
    refine jg_iald (p := 15) rfl jM160 jq160_14 (ja_95 s.1) c2.1 c2.2 s (by decide) rfl ?_
    refine jiL1 (p := 16) rfl jM160 jq160_15 ?_
    refine jw_ic (p := 19) rfl jM160 jq160_16 (jc_ne (s.r _ _) hl1) (fun c3 => ?_) (fun c3 => ?_)
    · have h3 := h2.1 c3
      refine jiL2 (p := 24) rfl jM160 jq160_23 ?_
      refine jiS2 (p := 25) rfl jM160 jq160_24 ?_
      refine jiI3 (p := 28) rfl jM160 jq160_25 ?_
      refine jw_goto jM160 jq160_28 ?_
      exact h3 σ s
    · have h3 := h2.2 c3
      refine jiL3 (p := 20) rfl jM160 jq160_19 ?_
      refine jw_goto jM160 jq160_20 ?_
      refine jiS2 (p := 25) rfl jM160 jq160_24 ?_
      refine jiI3 (p := 28) rfl jM160 jq160_25 ?_
      refine jw_goto jM160 jq160_28 ?_
      exact h3 σ s
-- 185 PageLoomModel.closes(I)V need 0
theorem jt185_0 {d : Nat} {σ0 : ib_H} {G : jg_G} {Q : ib_O → Prop} {l1 : Int} (hl1 : jb_r l1)
    (h : (0 ≤ l1 ∧ l1 < 4) ∧ (jg_W σ0 (jg_u (jg_u (jg_u (jg_u G 107 l1 0) 108 l1 0) 109 l1 0) 110 l1 (-1)) d 185 30 [some (.ref 92), some (jb_v l1), some (jb_v 0)] [] Q)) :
    jg_W σ0 G d 185 0 [some (.ref 92), some (jb_v l1), none] [] Q := by
  intro σ s
  refine jaL0 (p := 1) rfl jM185 jq185_0 ?_
  refine jw_getP (p := 4) (i := 23) (q := 107) rfl jM185 jq185_1 rfl (jo_92 s.1) je_11_23 (jp_92_23 s.1) ?_
  refine jiL1 (p := 5) rfl jM185 jq185_4 ?_
  refine jw_iconst (p := 6) rfl jM185 jq185_5 ?_
  obtain ⟨c1, h1⟩ := h
  refine jg_bast (p := 7) rfl jM185 jq185_6 (ja_107 s.1) c1.1 c1.2 (Or.inl rfl) s (by decide) ?_
  intro σ2 s2
  refine jaL0 (p := 8) rfl jM185 jq185_7 ?_
  refine jw_getP (p := 11) (i := 24) (q := 108) rfl jM185 jq185_8 rfl (jo_92 s2.1) je_11_24 (jp_92_24 s2.1) ?_
  refine jiL1 (p := 12) rfl jM185 jq185_11 ?_
  refine jw_iconst (p := 13) rfl jM185 jq185_12 ?_
  refine jg_iast (p := 14) rfl jM185 jq185_13 (ja_108 s2.1) c1.1 c1.2 s2 (by decide) (jb_rn rfl) ?_
  intro σ3 s3
  refine jaL0 (p := 15) rfl jM185 jq185_14 ?_
  refine jw_getP (p := 18) (i := 25) (q := 109) rfl jM185 jq185_15 rfl (jo_92 s3.1) je_11_25 (jp_92_25 s3.1) ?_
  refine jiL1 (p := 19) rfl jM185 jq185_18 ?_
  refine jw_iconst (p := 20) rfl jM185 jq185_19 ?_
  refine jg_iast (p := 21) rfl jM185 jq185_20 (ja_109 s3.1) c1.1 c1.2 s3 (by decide) (jb_rn rfl) ?_
  intro σ4 s4
  refine jaL0 (p := 22) rfl jM185 jq185_21 ?_
  refine jw_getP (p := 25) (i := 26) (q := 110) rfl jM185 jq185_22 rfl (jo_92 s4.1) je_11_26 (jp_92_26 s4.1) ?_
  refine jiL1 (p := 26) rfl jM185 jq185_25 ?_
  refine jw_iconst (p := 27) rfl jM185 jq185_26 ?_
  refine jg_iast (p := 28) rfl jM185 jq185_27 (ja_110 s4.1) c1.1 c1.2 s4 (by decide) (jb_rn rfl) ?_
  intro σ5 s5
  refine jw_iconst (p := 29) rfl jM185 jq185_28 ?_
  refine jiS2 (p := 30) rfl jM185 jq185_29 ?_
  exact h1 σ5 s5
theorem jt185_30 {d : Nat} {σ0 : ib_H} {G : jg_G} {Q : ib_O → Prop} {l1 : Int} {l2 : Int} (hl1 : jb_r l1) (hl2 : jb_r l2)
    (h : (32 ≤ l2 → jg_W σ0 G d 185 70 [some (.ref 92), some (jb_v l1), some (jb_v 0)] [] Q) ∧ (¬ (32 ≤ l2) → (0 ≤ l2 ∧ l2 < 32) ∧ ((¬ G 111 l2 = l1 → jg_W σ0 (jg_u G 111 l2 (G 111 l2)) d 185 30 [some (.ref 92), some (jb_v l1), some (jb_v (l2 + 1))] [] Q) ∧ (¬ (¬ G 111 l2 = l1) → jg_W σ0 (jg_u G 111 l2 (-1)) d 185 30 [some (.ref 92), some (jb_v l1), some (jb_v (l2 + 1))] [] Q)))) :
    jg_W σ0 G d 185 30 [some (.ref 92), some (jb_v l1), some (jb_v l2)] [] Q := by
  intro σ s
  refine jiL2 (p := 31) rfl jM185 jq185_30 ?_
  refine jw_bipush (p := 33) rfl jM185 jq185_31 (by decide) ?_
  refine jw_ic (p := 36) rfl jM185 jq185_33 (jc_ge hl2 (jb_rn rfl)) (fun c1 => ?_) (fun c1 => ?_)
  · have h1 := h.1 c1
    refine jw_iconst (p := 69) rfl jM185 jq185_68 ?_
    refine jiS2 (p := 70) rfl jM185 jq185_69 ?_
    exact h1 σ s
  · have h1 := h.2 c1
    refine jaL0 (p := 37) rfl jM185 jq185_36 ?_
    refine jw_getP (p := 40) (i := 27) (q := 111) rfl jM185 jq185_37 rfl (jo_92 s.1) je_11_27 (jp_92_27 s.1) ?_
    refine jiL2 (p := 41) rfl jM185 jq185_40 ?_
    refine jaL0 (p := 42) rfl jM185 jq185_41 ?_
    refine jw_getP (p := 45) (i := 27) (q := 111) rfl jM185 jq185_42 rfl (jo_92 s.1) je_11_27 (jp_92_27 s.1) ?_
    refine jiL2 (p := 46) rfl jM185 jq185_45 ?_
    obtain ⟨c2, h2⟩ := h1
    refine jg_iald (p := 47) rfl jM185 jq185_46 (ja_111 s.1) c2.1 c2.2 s (by decide) rfl ?_
    refine jiL1 (p := 48) rfl jM185 jq185_47 ?_
    refine jw_ic (p := 51) rfl jM185 jq185_48 (jc_ne (s.r _ _) hl1) (fun c3 => ?_) (fun c3 => ?_)
    · have h3 := h2.1 c3
      refine jaL0 (p := 56) rfl jM185 jq185_55 ?_
      refine jw_getP (p := 59) (i := 27) (q := 111) rfl jM185 jq185_56 rfl (jo_92 s.1) je_11_27 (jp_92_27 s.1) ?_
      refine jiL2 (p := 60) rfl jM185 jq185_59 ?_
      refine jg_iald (p := 61) rfl jM185 jq185_60 (ja_111 s.1) c2.1 c2.2 s (by decide) rfl ?_
      refine jg_iast (p := 62) rfl jM185 jq185_61 (ja_111 s.1) c2.1 c2.2 s (by decide) (s.r _ _) ?_
      intro σ4 s4
      refine jiI2 (p := 65) rfl jM185 jq185_62 ?_
      refine jw_goto jM185 jq185_65 ?_
      exact h3 σ4 s4
    · have h3 := h2.2 c3
      refine jw_iconst (p := 52) rfl jM185 jq185_51 ?_
      refine jw_goto jM185 jq185_52 ?_
      refine jg_iast (p := 62) rfl jM185 jq185_61 (ja_111 s.1) c2.1 c2.2 s (by decide) (jb_rn rfl) ?_
      intro σ5 s5
      refine jiI2 (p := 65) rfl jM185 jq185_62 ?_
      refine jw_goto jM185 jq185_65 ?_
      exact h3 σ5 s5
theorem jt185_70 {d : Nat} {σ0 : ib_H} {G : jg_G} {Q : ib_O → Prop} {l1 : Int} {l2 : Int} (hl1 : jb_r l1) (hl2 : jb_r l2)
    (h : (4 ≤ l2 → jg_E σ0 G none Q) ∧ (¬ (4 ≤ l2) → (0 ≤ l2 ∧ l2 < 4) ∧ ((¬ G 110 l2 = l1 → jg_W σ0 (jg_u G 110 l2 (G 110 l2)) d 185 70 [some (.ref 92), some (jb_v l1), some (jb_v (l2 + 1))] [] Q) ∧ (¬ (¬ G 110 l2 = l1) → jg_W σ0 (jg_u G 110 l2 (-1)) d 185 70 [some (.ref 92), some (jb_v l1), some (jb_v (l2 + 1))] [] Q)))) :
    jg_W σ0 G d 185 70 [some (.ref 92), some (jb_v l1), some (jb_v l2)] [] Q := by
  intro σ s
  refine jiL2 (p := 71) rfl jM185 jq185_70 ?_
  refine jw_iconst (p := 72) rfl jM185 jq185_71 ?_
  refine jw_ic (p := 75) rfl jM185 jq185_72 (jc_ge hl2 (jb_rn rfl)) (fun c1 => ?_) (fun c1 => ?_)
  · have h1 := h.1 c1
    exact jw_vret jM185 jq185_107 (h1 σ s)
  · have h1 := h.2 c1
    refine jaL0 (p := 76) rfl jM185 jq185_75 ?_
    refine jw_getP (p := 79) (i := 26) (q := 110) rfl jM185 jq185_76 rfl (jo_92 s.1) je_11_26 (jp_92_26 s.1) ?_
    refine jiL2 (p := 80) rfl jM185 jq185_79 ?_
    refine jaL0 (p := 81) rfl jM185 jq185_80 ?_
    refine jw_getP (p := 84) (i := 26) (q := 110) rfl jM185 jq185_81 rfl (jo_92 s.1) je_11_26 (jp_92_26 s.1) ?_
    refine jiL2 (p := 85) rfl jM185 jq185_84 ?_
    obtain ⟨c2, h2⟩ := h1
    refine jg_iald (p := 86) rfl jM185 jq185_85 (ja_110 s.1) c2.1 c2.2 s (by decide) rfl ?_
    refine jiL1 (p := 87) rfl jM185 jq185_86 ?_
    refine jw_ic (p := 90) rfl jM185 jq185_87 (jc_ne (s.r _ _) hl1) (fun c3 => ?_) (fun c3 => ?_)
    · have h3 := h2.1 c3
      refine jaL0 (p := 95) rfl jM185 jq185_94 ?_
      refine jw_getP (p := 98) (i := 26) (q := 110) rfl jM185 jq185_95 rfl (jo_92 s.1) je_11_26 (jp_92_26 s.1) ?_
      refine jiL2 (p := 99) rfl jM185 jq185_98 ?_
      refine jg_iald (p := 100) rfl jM185 jq185_99 (ja_110 s.1) c2.1 c2.2 s (by decide) rfl ?_
      refine jg_iast (p := 101) rfl jM185 jq185_100 (ja_110 s.1) c2.1 c2.2 s (by decide) (s.r _ _) ?_
      intro σ4 s4
      refine jiI2 (p := 104) rfl jM185 jq185_101 ?_
      refine jw_goto jM185 jq185_104 ?_
      exact h3 σ4 s4
    · have h3 := h2.2 c3
      refine jw_iconst (p := 91) rfl jM185 jq185_90 ?_
      refine jw_goto jM185 jq185_91 ?_
      refine jg_iast (p := 101) rfl jM185 jq185_100 (ja_110 s.1) c2.1 c2.2 s (by decide) (jb_rn rfl) ?_
      intro σ5 s5
      refine jiI2 (p := 104) rfl jM185 jq185_101 ?_
      refine jw_goto jM185 jq185_104 ?_
      exact h3 σ5 s5
-- 179 PageLoomModel.childPlace(II)I need 1
theorem jt179_0 {d : Nat} {σ0 : ib_H} {G : jg_G} {Q : ib_O → Prop} {l1 : Int} {l2 : Int} (hl1 : jb_r l1) (hl2 : jb_r l2)
    (h : jg_W σ0 G d 179 5 [some (.ref 92), some (jb_v l1), some (jb_v l2), some (jb_v 0), some (jb_v 0)] [] Q) :
    jg_W σ0 G d 179 0 [some (.ref 92), some (jb_v l1), some (jb_v l2), none, none] [] Q := by
  intro σ s
  refine jw_iconst (p := 1) rfl jM179 jq179_0 ?_
  refine jiS3 (p := 2) rfl jM179 jq179_1 ?_
  refine jw_iconst (p := 3) rfl jM179 jq179_2 ?_
  refine jiS4 (p := 5) rfl jM179 jq179_3 ?_
  exact h σ s
theorem jt179_5 {d : Nat} {σ0 : ib_H} {G : jg_G} {Q : ib_O → Prop} {l1 : Int} {l2 : Int} {l3 : Int} {l4 : Int} (hl1 : jb_r l1) (hl2 : jb_r l2) (hl3 : jb_r l3) (hl4 : jb_r l4)
    (h : (0 ≤ ((67 * l1) + 2) ∧ ((67 * l1) + 2) < 305118) ∧ ((G 93 ((67 * l1) + 2) ≤ l4 → jg_E σ0 G (some (jb_v l3)) Q) ∧ (¬ (G 93 ((67 * l1) + 2) ≤ l4) → (0 ≤ (((67 * l1) + 4) + (2 * l4)) ∧ (((67 * l1) + 4) + (2 * l4)) < 305118) ∧ ((¬ G 93 (((67 * l1) + 4) + (2 * l4)) = l2 → jg_W σ0 G (d + 1) 179 5 [some (.ref 92), some (jb_v l1), some (jb_v l2), some (jb_v l3), some (jb_v (l4 + 1))] [] Q) ∧ (¬ (¬ G 93 (((67 * l1) + 4) + (2 * l4)) = l2) → jg_W σ0 G (d + 1) 179 5 [some (.ref 92), some (jb_v l1), some (jb_v l2), some (jb_v l4), some (jb_v (l4 + 1))] [] Q))))) :
    jg_W σ0 G (d + 1) 179 5 [some (.ref 92), some (jb_v l1), some (jb_v l2), some (jb_v l3), some (jb_v l4)] [] Q := by
  intro σ s
  refine jiL4 (p := 7) rfl jM179 jq179_5 ?_
  refine jaL0 (p := 8) rfl jM179 jq179_7 ?_
  refine jiL1 (p := 9) rfl jM179 jq179_8 ?_
  refine jw_callV [(jb_v l1)] jM179 jq179_9 rfl rfl (jo_92 s.1) rfl jM150 rfl rfl ?_
  show jb_w d 150 0 [some (.ref 92), some (jb_v l1)] [] σ (jb_k (d + 1) 179 9 [some (.ref 92), some (jb_v l1), some (jb_v l2), some (jb_v l3), some (jb_v l4)] [(jb_v l4)] Q)
  refine jaL0 (p := 1) rfl jM150 jq150_0 ?_
  refine jw_getP (p := 4) (i := 1) (q := 93) rfl jM150 jq150_1 rfl (jo_92 s.1) je_11_1 (jp_92_1 s.1) ?_
  refine jw_bipush (p := 6) rfl jM150 jq150_4 (by decide) ?_
  refine jiL1 (p := 7) rfl jM150 jq150_6 ?_
  refine jw_imul (p := 8) rfl jM150 jq150_7 ?_
  refine jw_iconst (p := 9) rfl jM150 jq150_8 ?_
  refine jw_iadd (p := 10) rfl jM150 jq150_9 ?_
  obtain ⟨c1, h1⟩ := h
  refine jg_iald (p := 11) rfl jM150 jq150_10 (ja_93 s.1) c1.1 c1.2 s (by decide) rfl ?_
  refine jw_iret jM150 jq150_11 (fun z => absurd z (by decide)) ?_
  show jb_w (d + 1) 179 12 [some (.ref 92), some (jb_v l1), some (jb_v l2), some (jb_v l3), some (jb_v l4)] [(jb_v (G 93 ((67 * l1) + 2))), (jb_v l4)] σ Q
  refine jw_ic (p := 15) rfl jM179 jq179_12 (jc_ge hl4 (s.r _ _)) (fun c2 => ?_) (fun c2 => ?_)
  · have h2 := h1.1 c2
    refine jiL3 (p := 40) rfl jM179 jq179_39 ?_
    exact jw_iret jM179 jq179_40 (fun z => absurd z (by decide)) (h2 σ s)
  · have h2 := h1.2 c2
    refine jaL0 (p := 16) rfl jM179 jq179_15 ?_
    refine jiL1 (p := 17) rfl jM179 jq179_16 ?_
    refine jiL4 (p := 19) rfl jM179 jq179_17 ?_
    refine jw_callV [(jb_v l1), (jb_v l4)] jM179 jq179_19 rfl rfl (jo_92 s.1) rfl jM152 rfl rfl ?_
    show jb_w d 152 0 [some (.ref 92), some (jb_v l1), some (jb_v l4)] [] σ (jb_k (d + 1) 179 19 [some (.ref 92), some (jb_v l1), some (jb_v l2), some (jb_v l3), some (jb_v l4)] [] Q)
    refine jaL0 (p := 1) rfl jM152 jq152_0 ?_
    refine jw_getP (p := 4) (i := 1) (q := 93) rfl jM152 jq152_1 rfl (jo_92 s.1) je_11_1 (jp_92_1 s.1) ?_
    refine jw_bipush (p := 6) rfl jM152 jq152_4 (by decide) ?_
    refine jiL1 (p := 7) rfl jM152 jq152_6 ?_
    refine jw_imul (p := 8) rfl jM152 jq152_7 ?_
    refine jw_iconst (p := 9) rfl jM152 jq152_8 ?_
    refine jw_iadd (p := 10) rfl jM152 jq152_9 ?_
    refine jw_iconst (p := 11) rfl jM152 jq152_10 ?_
    refine jiL2 (p := 12) rfl jM152 jq152_11 ?_
    refine jw_imul (p := 13) rfl jM152 jq152_12 ?_
    refine jw_iadd (p := 14) rfl jM152 jq152_13 ?_
    obtain ⟨c3, h3⟩ := h2
    refine jg_iald (p := 15) rfl jM152 jq152_14 (ja_93 s.1) c3.1 c3.2 s (by decide) rfl ?_
    refine jw_iret jM152 jq152_15 (fun z => absurd z (by decide)) ?_
    show jb_w (d + 1) 179 22 [some (.ref 92), some (jb_v l1), some (jb_v l2), some (jb_v l3), some (jb_v l4)] [(jb_v (G 93 (((67 * l1) + 4) + (2 * l4))))] σ Q
    refine jiL2 (p := 23) rfl jM179 jq179_22 ?_
    refine jw_ic (p := 26) rfl jM179 jq179_23 (jc_ne (s.r _ _) hl2) (fun c4 => ?_) (fun c4 => ?_)
    · have h4 := h3.1 c4
      refine jiL3 (p := 32) rfl jM179 jq179_31 ?_
      refine jiS3 (p := 33) rfl jM179 jq179_32 ?_
      refine jiI4 (p := 36) rfl jM179 jq179_33 ?_
      refine jw_goto jM179 jq179_36 ?_
      exact h4 σ s
    · have h4 := h3.2 c4
      refine jiL4 (p := 28) rfl jM179 jq179_26 ?_
      refine jw_goto jM179 jq179_28 ?_
      refine jiS3 (p := 33) rfl jM179 jq179_32 ?_
      refine jiI4 (p := 36) rfl jM179 jq179_33 ?_
      refine jw_goto jM179 jq179_36 ?_
      exact h4 σ s
-- 172 PageLoomModel.rowIn(II)I need 1
theorem jt172_0 {d : Nat} {σ0 : ib_H} {G : jg_G} {Q : ib_O → Prop} {l1 : Int} {l2 : Int} (hl1 : jb_r l1) (hl2 : jb_r l2)
    (h : jg_W σ0 G (d + 1) 172 9 [some (.ref 92), some (jb_v l1), some (jb_v l2), some (jb_v ((54 + (3 * (l1 - 1))) + 0)), some (jb_v 0)] [] Q) :
    jg_W σ0 G (d + 1) 172 0 [some (.ref 92), some (jb_v l1), some (jb_v l2), none, none] [] Q := by
  intro σ s
  refine jiL1 (p := 1) rfl jM172 jq172_0 ?_
  refine jw_iconst (p := 2) rfl jM172 jq172_1 ?_
  refine jw_callS [(jb_v l1), (jb_v 0)] jM172 jq172_2 rfl rfl rfl jM170 rfl rfl ?_
  show jb_w d 170 0 [some (jb_v l1), some (jb_v 0)] [] σ (jb_k (d + 1) 172 2 [some (.ref 92), some (jb_v l1), some (jb_v l2), none, none] [] Q)
  refine jw_bipush (p := 2) rfl jM170 jq170_0 (by decide) ?_
  refine jw_iconst (p := 3) rfl jM170 jq170_2 ?_
  refine jiL0 (p := 4) rfl jM170 jq170_3 ?_
  refine jw_iconst (p := 5) rfl jM170 jq170_4 ?_
  refine jw_isub (p := 6) rfl jM170 jq170_5 ?_
  refine jw_imul (p := 7) rfl jM170 jq170_6 ?_
  refine jw_iadd (p := 8) rfl jM170 jq170_7 ?_
  refine jiL1 (p := 9) rfl jM170 jq170_8 ?_
  refine jw_iadd (p := 10) rfl jM170 jq170_9 ?_
  refine jw_iret jM170 jq170_10 (fun z => absurd z (by decide)) ?_
  show jb_w (d + 1) 172 5 [some (.ref 92), some (jb_v l1), some (jb_v l2), none, none] [(jb_v ((54 + (3 * (l1 - 1))) + 0))] σ Q
  refine jiS3 (p := 6) rfl jM172 jq172_5 ?_
  refine jw_iconst (p := 7) rfl jM172 jq172_6 ?_
  refine jiS4 (p := 9) rfl jM172 jq172_7 ?_
  exact h σ s
theorem jt172_9 {d : Nat} {σ0 : ib_H} {G : jg_G} {Q : ib_O → Prop} {l1 : Int} {l2 : Int} {l3 : Int} {l4 : Int} (hl1 : jb_r l1) (hl2 : jb_r l2) (hl3 : jb_r l3) (hl4 : jb_r l4)
    (h : (0 ≤ l1 ∧ l1 < 1501) ∧ ((G 105 l1 ≤ l4 → jg_E σ0 G (some (jb_v l3)) Q) ∧ (¬ (G 105 l1 ≤ l4) → (0 ≤ ((3 * l1) + l4) ∧ ((3 * l1) + l4) < 4503) ∧ ((¬ G 106 ((3 * l1) + l4) = l2 → jg_W σ0 G (d + 1) 172 9 [some (.ref 92), some (jb_v l1), some (jb_v l2), some (jb_v l3), some (jb_v (l4 + 1))] [] Q) ∧ (¬ (¬ G 106 ((3 * l1) + l4) = l2) → jg_W σ0 G (d + 1) 172 9 [some (.ref 92), some (jb_v l1), some (jb_v l2), some (jb_v ((54 + (3 * (l1 - 1))) + l4)), some (jb_v (l4 + 1))] [] Q))))) :
    jg_W σ0 G (d + 1) 172 9 [some (.ref 92), some (jb_v l1), some (jb_v l2), some (jb_v l3), some (jb_v l4)] [] Q := by
  intro σ s
  refine jiL4 (p := 11) rfl jM172 jq172_9 ?_
  refine jaL0 (p := 12) rfl jM172 jq172_11 ?_
  refine jw_getP (p := 15) (i := 21) (q := 105) rfl jM172 jq172_12 rfl (jo_92 s.1) je_11_21 (jp_92_21 s.1) ?_
  refine jiL1 (p := 16) rfl jM172 jq172_15 ?_
  obtain ⟨c1, h1⟩ := h
  refine jg_iald (p := 17) rfl jM172 jq172_16 (ja_105 s.1) c1.1 c1.2 s (by decide) rfl ?_
  refine jw_ic (p := 20) rfl jM172 jq172_17 (jc_ge hl4 (s.r _ _)) (fun c2 => ?_) (fun c2 => ?_)
  · have h2 := h1.1 c2
    refine jiL3 (p := 53) rfl jM172 jq172_52 ?_
    exact jw_iret jM172 jq172_53 (fun z => absurd z (by decide)) (h2 σ s)
  · have h2 := h1.2 c2
    refine jaL0 (p := 21) rfl jM172 jq172_20 ?_
    refine jw_getP (p := 24) (i := 22) (q := 106) rfl jM172 jq172_21 rfl (jo_92 s.1) je_11_22 (jp_92_22 s.1) ?_
    refine jw_iconst (p := 25) rfl jM172 jq172_24 ?_
    refine jiL1 (p := 26) rfl jM172 jq172_25 ?_
    refine jw_imul (p := 27) rfl jM172 jq172_26 ?_
    refine jiL4 (p := 29) rfl jM172 jq172_27 ?_
    refine jw_iadd (p := 30) rfl jM172 jq172_29 ?_
    obtain ⟨c3, h3⟩ := h2
    refine jg_iald (p := 31) rfl jM172 jq172_30 (ja_106 s.1) c3.1 c3.2 s (by decide) rfl ?_
    refine jiL2 (p := 32) rfl jM172 jq172_31 ?_
    refine jw_ic (p := 35) rfl jM172 jq172_32 (jc_ne (s.r _ _) hl2) (fun c4 => ?_) (fun c4 => ?_)
    · have h4 := h3.1 c4
      refine jiL3 (p := 45) rfl jM172 jq172_44 ?_
      refine jiS3 (p := 46) rfl jM172 jq172_45 ?_
      refine jiI4 (p := 49) rfl jM172 jq172_46 ?_
      refine jw_goto jM172 jq172_49 ?_
      exact h4 σ s
    · have h4 := h3.2 c4
      refine jiL1 (p := 36) rfl jM172 jq172_35 ?_
      refine jiL4 (p := 38) rfl jM172 jq172_36 ?_
      refine jw_callS [(jb_v l1), (jb_v l4)] jM172 jq172_38 rfl rfl rfl jM170 rfl rfl ?_
      show jb_w d 170 0 [some (jb_v l1), some (jb_v l4)] [] σ (jb_k (d + 1) 172 38 [some (.ref 92), some (jb_v l1), some (jb_v l2), some (jb_v l3), some (jb_v l4)] [] Q)
      refine jw_bipush (p := 2) rfl jM170 jq170_0 (by decide) ?_
      refine jw_iconst (p := 3) rfl jM170 jq170_2 ?_
      refine jiL0 (p := 4) rfl jM170 jq170_3 ?_
      refine jw_iconst (p := 5) rfl jM170 jq170_4 ?_
      refine jw_isub (p := 6) rfl jM170 jq170_5 ?_
      refine jw_imul (p := 7) rfl jM170 jq170_6 ?_
      refine jw_iadd (p := 8) rfl jM170 jq170_7 ?_
      refine jiL1 (p := 9) rfl jM170 jq170_8 ?_
      refine jw_iadd (p := 10) rfl jM170 jq170_9 ?_
      refine jw_iret jM170 jq170_10 (fun z => absurd z (by decide)) ?_
      show jb_w (d + 1) 172 41 [some (.ref 92), some (jb_v l1), some (jb_v l2), some (jb_v l3), some (jb_v l4)] [(jb_v ((54 + (3 * (l1 - 1))) + l4))] σ Q
      refine jw_goto jM172 jq172_41 ?_
      refine jiS3 (p := 46) rfl jM172 jq172_45 ?_
      refine jiI4 (p := 49) rfl jM172 jq172_46 ?_
      refine jw_goto jM172 jq172_49 ?_
      exact h4 σ s
-- 169 PageLoomModel.notes(II)I need 0
theorem jt169_0 {d : Nat} {σ0 : ib_H} {G : jg_G} {Q : ib_O → Prop} {l1 : Int} {l2 : Int} (hl1 : jb_r l1) (hl2 : jb_r l2)
    (h : (jb_r ((G 92 12) + 1)) ∧ ((0 ≤ ((G 92 12) + 1) ∧ ((G 92 12) + 1) < 1501) ∧ ((¬ l2 = (-1) → (0 ≤ l2 ∧ l2 < 4) ∧ (jg_E σ0 (jg_u (jg_u (jg_u (jg_u (jg_u (jg_u (jg_u (jg_u (jg_u G 92 12 ((G 92 12) + 1)) 98 ((G 92 12) + 1) l1) 99 ((G 92 12) + 1) l2) 100 ((G 92 12) + 1) (G 108 l2)) 101 ((G 92 12) + 1) (-1)) 104 ((G 92 12) + 1) (-1)) 105 ((G 92 12) + 1) 0) 108 l2 ((G 92 12) + 1)) 109 l2 (jb_m ((G 109 l2) + 1))) (some (jb_v ((G 92 12) + 1))) Q)) ∧ (¬ (¬ l2 = (-1)) → jg_E σ0 (jg_u (jg_u (jg_u (jg_u (jg_u (jg_u (jg_u G 92 12 ((G 92 12) + 1)) 98 ((G 92 12) + 1) l1) 99 ((G 92 12) + 1) l2) 100 ((G 92 12) + 1) 0) 101 ((G 92 12) + 1) (-1)) 104 ((G 92 12) + 1) (-1)) 105 ((G 92 12) + 1) 0) (some (jb_v ((G 92 12) + 1))) Q)))) :
    jg_W σ0 G d 169 0 [some (.ref 92), some (jb_v l1), some (jb_v l2), none] [] Q := by
  intro σ s
  refine jaL0 (p := 1) rfl jM169 jq169_0 ?_
  refine jw_dupA (p := 2) rfl jM169 jq169_1 ?_
  refine jg_getI (p := 5) (i := 12) rfl jM169 jq169_2 rfl (jo_92 s.1) jn_11_12 s (by decide) (by decide) rfl ?_
  refine jw_iconst (p := 6) rfl jM169 jq169_5 ?_
  refine jw_iadd (p := 7) rfl jM169 jq169_6 ?_
  obtain ⟨c1, h1⟩ := h
  refine jg_putI (p := 10) (i := 12) rfl jM169 jq169_7 rfl (jo_92 s.1) (Or.inl jz_11_12) s (by decide) (by decide) c1 ?_
  intro σ2 s2
  refine jaL0 (p := 11) rfl jM169 jq169_10 ?_
  refine jg_getI (p := 14) (i := 12) rfl jM169 jq169_11 rfl (jo_92 s2.1) jn_11_12 s2 (by decide) (by decide) jg_uH ?_
  refine jiS3 (p := 15) rfl jM169 jq169_14 ?_
  refine jaL0 (p := 16) rfl jM169 jq169_15 ?_
  refine jw_getP (p := 19) (i := 14) (q := 98) rfl jM169 jq169_16 rfl (jo_92 s2.1) je_11_14 (jp_92_14 s2.1) ?_
  refine jiL3 (p := 20) rfl jM169 jq169_19 ?_
  refine jiL1 (p := 21) rfl jM169 jq169_20 ?_
  obtain ⟨c3, h3⟩ := h1
  refine jg_iast (p := 22) rfl jM169 jq169_21 (ja_98 s2.1) c3.1 c3.2 s2 (by decide) hl1 ?_
  intro σ4 s4
  refine jaL0 (p := 23) rfl jM169 jq169_22 ?_
  refine jw_getP (p := 26) (i := 15) (q := 99) rfl jM169 jq169_23 rfl (jo_92 s4.1) je_11_15 (jp_92_15 s4.1) ?_
  refine jiL3 (p := 27) rfl jM169 jq169_26 ?_
  refine jiL2 (p := 28) rfl jM169 jq169_27 ?_
  refine jg_iast (p := 29) rfl jM169 jq169_28 (ja_99 s4.1) c3.1 c3.2 s4 (by decide) hl2 ?_
  intro σ5 s5
  refine jaL0 (p := 30) rfl jM169 jq169_29 ?_
  refine jw_getP (p := 33) (i := 16) (q := 100) rfl jM169 jq169_30 rfl (jo_92 s5.1) je_11_16 (jp_92_16 s5.1) ?_
  refine jiL3 (p := 34) rfl jM169 jq169_33 ?_
  refine jiL2 (p := 35) rfl jM169 jq169_34 ?_
  refine jw_iconst (p := 36) rfl jM169 jq169_35 ?_
  refine jw_ic (p := 39) rfl jM169 jq169_36 (jc_ne hl2 (jb_rn rfl)) (fun c6 => ?_) (fun c6 => ?_)
  · have h6 := h3.1 c6
    refine jaL0 (p := 44) rfl jM169 jq169_43 ?_
    refine jw_getP (p := 47) (i := 24) (q := 108) rfl jM169 jq169_44 rfl (jo_92 s5.1) je_11_24 (jp_92_24 s5.1) ?_
    refine jiL2 (p := 48) rfl jM169 jq169_47 ?_
    obtain ⟨c7, h7⟩ := h6
    refine jg_iald (p := 49) rfl jM169 jq169_48 (ja_108 s5.1) c7.1 c7.2 s5 (by decide) ((jg_uN (by decide)).trans ((jg_uN (by decide)).trans (jg_uN (by decide)))) ?_
    refine jg_iast (p := 50) rfl jM169 jq169_49 (ja_100 s5.1) c3.1 c3.2 s5 (by decide) (s.r _ _) ?_
    intro σ8 s8
    refine jaL0 (p := 51) rfl jM169 jq169_50 ?_
    refine jw_getP (p := 54) (i := 17) (q := 101) rfl jM169 jq169_51 rfl (jo_92 s8.1) je_11_17 (jp_92_17 s8.1) ?_
    refine jiL3 (p := 55) rfl jM169 jq169_54 ?_
    refine jw_iconst (p := 56) rfl jM169 jq169_55 ?_
    refine jg_iast (p := 57) rfl jM169 jq169_56 (ja_101 s8.1) c3.1 c3.2 s8 (by decide) (jb_rn rfl) ?_
    intro σ9 s9
    refine jaL0 (p := 58) rfl jM169 jq169_57 ?_
    refine jw_getP (p := 61) (i := 20) (q := 104) rfl jM169 jq169_58 rfl (jo_92 s9.1) je_11_20 (jp_92_20 s9.1) ?_
    refine jiL3 (p := 62) rfl jM169 jq169_61 ?_
    refine jw_iconst (p := 63) rfl jM169 jq169_62 ?_
    refine jg_iast (p := 64) rfl jM169 jq169_63 (ja_104 s9.1) c3.1 c3.2 s9 (by decide) (jb_rn rfl) ?_
    intro σ10 s10
    refine jaL0 (p := 65) rfl jM169 jq169_64 ?_
    refine jw_getP (p := 68) (i := 21) (q := 105) rfl jM169 jq169_65 rfl (jo_92 s10.1) je_11_21 (jp_92_21 s10.1) ?_
    refine jiL3 (p := 69) rfl jM169 jq169_68 ?_
    refine jw_iconst (p := 70) rfl jM169 jq169_69 ?_
    refine jg_iast (p := 71) rfl jM169 jq169_70 (ja_105 s10.1) c3.1 c3.2 s10 (by decide) (jb_rn rfl) ?_
    intro σ11 s11
    refine jiL2 (p := 72) rfl jM169 jq169_71 ?_
    refine jw_iconst (p := 73) rfl jM169 jq169_72 ?_
    refine jw_ic (p := 76) rfl jM169 jq169_73 (jc_eq hl2 (jb_rn rfl)) (fun z => absurd z c6) (fun _ => ?_)
    refine jaL0 (p := 77) rfl jM169 jq169_76 ?_
    refine jw_getP (p := 80) (i := 24) (q := 108) rfl jM169 jq169_77 rfl (jo_92 s11.1) je_11_24 (jp_92_24 s11.1) ?_
    refine jiL2 (p := 81) rfl jM169 jq169_80 ?_
    refine jiL3 (p := 82) rfl jM169 jq169_81 ?_
    refine jg_iast (p := 83) rfl jM169 jq169_82 (ja_108 s11.1) c7.1 c7.2 s11 (by decide) c1 ?_
    intro σ12 s12
    refine jaL0 (p := 84) rfl jM169 jq169_83 ?_
    refine jw_getP (p := 87) (i := 25) (q := 109) rfl jM169 jq169_84 rfl (jo_92 s12.1) je_11_25 (jp_92_25 s12.1) ?_
    refine jiL2 (p := 88) rfl jM169 jq169_87 ?_
    refine jw_dup2 (p := 89) rfl jM169 jq169_88 ?_
    refine jg_iald (p := 90) rfl jM169 jq169_89 (ja_109 s12.1) c7.1 c7.2 s12 (by decide) ((jg_uN (by decide)).trans ((jg_uN (by decide)).trans ((jg_uN (by decide)).trans ((jg_uN (by decide)).trans ((jg_uN (by decide)).trans ((jg_uN (by decide)).trans ((jg_uN (by decide)).trans (jg_uN (by decide))))))))) ?_
    refine jw_iconst (p := 91) rfl jM169 jq169_90 ?_
    refine jw_iadd (p := 92) rfl jM169 jq169_91 ?_
    refine jg_iasM (p := 93) rfl jM169 jq169_92 (ja_109 s12.1) c7.1 c7.2 s12 (by decide) ?_
    intro σ13 s13
    refine jiL3 (p := 94) rfl jM169 jq169_93 ?_
    exact jw_iret jM169 jq169_94 (fun z => absurd z (by decide)) (h7 σ13 s13)
  · have h6 := h3.2 c6
    refine jw_iconst (p := 40) rfl jM169 jq169_39 ?_
    refine jw_goto jM169 jq169_40 ?_
    refine jg_iast (p := 50) rfl jM169 jq169_49 (ja_100 s5.1) c3.1 c3.2 s5 (by decide) (jb_rn rfl) ?_
    intro σ14 s14
    refine jaL0 (p := 51) rfl jM169 jq169_50 ?_
    refine jw_getP (p := 54) (i := 17) (q := 101) rfl jM169 jq169_51 rfl (jo_92 s14.1) je_11_17 (jp_92_17 s14.1) ?_
    refine jiL3 (p := 55) rfl jM169 jq169_54 ?_
    refine jw_iconst (p := 56) rfl jM169 jq169_55 ?_
    refine jg_iast (p := 57) rfl jM169 jq169_56 (ja_101 s14.1) c3.1 c3.2 s14 (by decide) (jb_rn rfl) ?_
    intro σ15 s15
    refine jaL0 (p := 58) rfl jM169 jq169_57 ?_
    refine jw_getP (p := 61) (i := 20) (q := 104) rfl jM169 jq169_58 rfl (jo_92 s15.1) je_11_20 (jp_92_20 s15.1) ?_
    refine jiL3 (p := 62) rfl jM169 jq169_61 ?_
    refine jw_iconst (p := 63) rfl jM169 jq169_62 ?_
    refine jg_iast (p := 64) rfl jM169 jq169_63 (ja_104 s15.1) c3.1 c3.2 s15 (by decide) (jb_rn rfl) ?_
    intro σ16 s16
    refine jaL0 (p := 65) rfl jM169 jq169_64 ?_
    refine jw_getP (p := 68) (i := 21) (q := 105) rfl jM169 jq169_65 rfl (jo_92 s16.1) je_11_21 (jp_92_21 s16.1) ?_
    refine jiL3 (p := 69) rfl jM169 jq169_68 ?_
    refine jw_iconst (p := 70) rfl jM169 jq169_69 ?_
    refine jg_iast (p := 71) rfl jM169 jq169_70 (ja_105 s16.1) c3.1 c3.2 s16 (by decide) (jb_rn rfl) ?_
    intro σ17 s17
    refine jiL2 (p := 72) rfl jM169 jq169_71 ?_
    refine jw_iconst (p := 73) rfl jM169 jq169_72 ?_
    refine jw_ic (p := 76) rfl jM169 jq169_73 (jc_eq hl2 (jb_rn rfl)) (fun _ => ?_) (fun z => absurd (Decidable.byContradiction c6) z)
    refine jiL3 (p := 94) rfl jM169 jq169_93 ?_
    exact jw_iret jM169 jq169_94 (fun z => absurd z (by decide)) (h6 σ17 s17)
