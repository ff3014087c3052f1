/-! the law as functions: written by wip/p30/tools/genl30.py (gl1.py) -/
-- 147 ends need 0
def fl147_56 : Nat → jc_K → jg_G → Int → Int → Option ((jc_K × jg_G) × Int)
  | 0, _, _, _, _ => none
  | m + 1, K, G, l0, l3 => if 32 ≤ l3 then (some ((K, G), 0)) else (if 0 ≤ l3 ∧ l3 < 32 then if G 93 l3 = l0 then (if -2147483648 ≤ (l3 + 1) ∧ (l3 + 1) < 2147483648 then fl147_56 m K (jg_u G 93 l3 (-1)) l0 (l3 + 1) else none) else (if -2147483648 ≤ (l3 + 1) ∧ (l3 + 1) < 2147483648 then fl147_56 m K (jg_u G 93 l3 (G 93 l3)) l0 (l3 + 1) else none) else none)
theorem jy147_56 {d : Nat} {L : Nat} {xs : Nat → Int32} {Q : ib_O → Prop} : ∀ (m : Nat) {K : jc_K} {G : jg_G} {l0 : Int} {l3 : Int} (hl0 : jb_r l0) (hl3 : jb_r l3) {r : (jc_K × jg_G) × Int} (h : fl147_56 m K G l0 l3 = some r) (k : ∀ σ, jy_S L xs r.1.1 r.1.2 σ → Q (.inl none, σ)), jy_W L xs K G d 147 56 [some (jb_v l0), some (.ref 93), some (.ref 94), some (jb_v l3)] [] Q := by
  intro m
  induction m with
  | zero =>
    intro K G l0 l3 hl0 hl3 r h k
    cases h
  | succ m ih =>
    intro K G l0 l3 hl0 hl3 r h k σ s
    unfold fl147_56 at h
    refine jiL3 (p := 57) rfl jM147 jq147_56 ?_
    refine jw_bipush (p := 59) rfl jM147 jq147_57 (by decide) ?_
    refine jw_ic (p := 62) rfl jM147 jq147_59 (jc_ge hl3 (jb_rn rfl)) (fun c1 => ?_) (fun c1 => ?_)
    · have h1 := jo_p c1 h
      cases h1
      exact jw_vret jM147 jq147_85 (k σ s)
    · have h1 := jo_n c1 h
      refine jaL1 (p := 63) rfl jM147 jq147_62 ?_
      refine jiL3 (p := 64) rfl jM147 jq147_63 ?_
      refine jaL1 (p := 65) rfl jM147 jq147_64 ?_
      refine jiL3 (p := 66) rfl jM147 jq147_65 ?_
      obtain ⟨c2, h2⟩ := jo_i h1
      refine jg_iald (p := 67) rfl jM147 jq147_66 (ja_93 s.1) c2.1 c2.2 s.g (by decide) rfl ?_
      refine jiL0 (p := 68) rfl jM147 jq147_67 ?_
      refine jw_ic (p := 71) rfl jM147 jq147_68 (jc_ne (s.r _ _) hl0) (fun c3 => ?_) (fun c3 => ?_)
      · have h3 := jo_n c3 h2
        refine jaL1 (p := 76) rfl jM147 jq147_75 ?_
        refine jiL3 (p := 77) rfl jM147 jq147_76 ?_
        refine jg_iald (p := 78) rfl jM147 jq147_77 (ja_93 s.1) c2.1 c2.2 s.g (by decide) rfl ?_
        refine jg_iast (p := 79) rfl jM147 jq147_78 (ja_93 s.1) c2.1 c2.2 s.g (by decide) (s.r _ _) ?_
        intro σ4 ts4
        have s4 := s.g' ts4
        refine jiI3 (p := 82) rfl jM147 jq147_79 ?_
        refine jw_goto jM147 jq147_82 ?_
        obtain ⟨c5, h5⟩ := jo_i h3
        exact ih hl0 c5 h5 k σ4 s4
      · have h3 := jo_p (Decidable.byContradiction c3) h2
        refine jw_iconst (p := 72) rfl jM147 jq147_71 ?_
        refine jw_goto jM147 jq147_72 ?_
        refine jg_iast (p := 79) rfl jM147 jq147_78 (ja_93 s.1) c2.1 c2.2 s.g (by decide) (jb_rn rfl) ?_
        intro σ6 ts6
        have s6 := s.g' ts6
        refine jiI3 (p := 82) rfl jM147 jq147_79 ?_
        refine jw_goto jM147 jq147_82 ?_
        obtain ⟨c7, h7⟩ := jo_i h3
        exact ih hl0 c7 h7 k σ6 s6
def fl147_26 : Nat → jc_K → jg_G → Int → Int → Option ((jc_K × jg_G) × Int)
  | 0, _, _, _, _ => none
  | m + 1, K, G, l0, l3 => if 4 ≤ l3 then (fl147_56 jo_N K G l0 0) else (if 0 ≤ l3 ∧ l3 < 16 then if G 94 l3 = l0 then (if -2147483648 ≤ (l3 + 1) ∧ (l3 + 1) < 2147483648 then fl147_26 m K (jg_u G 94 l3 (-1)) l0 (l3 + 1) else none) else (if -2147483648 ≤ (l3 + 1) ∧ (l3 + 1) < 2147483648 then fl147_26 m K (jg_u G 94 l3 (G 94 l3)) l0 (l3 + 1) else none) else none)
theorem jy147_26 {d : Nat} {L : Nat} {xs : Nat → Int32} {Q : ib_O → Prop} : ∀ (m : Nat) {K : jc_K} {G : jg_G} {l0 : Int} {l3 : Int} (hl0 : jb_r l0) (hl3 : jb_r l3) {r : (jc_K × jg_G) × Int} (h : fl147_26 m K G l0 l3 = some r) (k : ∀ σ, jy_S L xs r.1.1 r.1.2 σ → Q (.inl none, σ)), jy_W L xs K G d 147 26 [some (jb_v l0), some (.ref 93), some (.ref 94), some (jb_v l3)] [] Q := by
  intro m
  induction m with
  | zero =>
    intro K G l0 l3 hl0 hl3 r h k
    cases h
  | succ m ih =>
    intro K G l0 l3 hl0 hl3 r h k σ s
    unfold fl147_26 at h
    refine jiL3 (p := 27) rfl jM147 jq147_26 ?_
    refine jw_iconst (p := 28) rfl jM147 jq147_27 ?_
    refine jw_ic (p := 31) rfl jM147 jq147_28 (jc_ge hl3 (jb_rn rfl)) (fun c1 => ?_) (fun c1 => ?_)
    · have h1 := jo_p c1 h
      refine jw_iconst (p := 55) rfl jM147 jq147_54 ?_
      refine jiS3 (p := 56) rfl jM147 jq147_55 ?_
      exact jy147_56 jo_N hl0 (jb_rn rfl) h1 k σ s
    · have h1 := jo_n c1 h
      refine jaL2 (p := 32) rfl jM147 jq147_31 ?_
      refine jiL3 (p := 33) rfl jM147 jq147_32 ?_
      refine jaL2 (p := 34) rfl jM147 jq147_33 ?_
      refine jiL3 (p := 35) rfl jM147 jq147_34 ?_
      obtain ⟨c2, h2⟩ := jo_i h1
      refine jg_iald (p := 36) rfl jM147 jq147_35 (ja_94 s.1) c2.1 c2.2 s.g (by decide) rfl ?_
      refine jiL0 (p := 37) rfl jM147 jq147_36 ?_
      refine jw_ic (p := 40) rfl jM147 jq147_37 (jc_ne (s.r _ _) hl0) (fun c3 => ?_) (fun c3 => ?_)
      · have h3 := jo_n c3 h2
        refine jaL2 (p := 45) rfl jM147 jq147_44 ?_
        refine jiL3 (p := 46) rfl jM147 jq147_45 ?_
        refine jg_iald (p := 47) rfl jM147 jq147_46 (ja_94 s.1) c2.1 c2.2 s.g (by decide) rfl ?_
        refine jg_iast (p := 48) rfl jM147 jq147_47 (ja_94 s.1) c2.1 c2.2 s.g (by decide) (s.r _ _) ?_
        intro σ4 ts4
        have s4 := s.g' ts4
        refine jiI3 (p := 51) rfl jM147 jq147_48 ?_
        refine jw_goto jM147 jq147_51 ?_
        obtain ⟨c5, h5⟩ := jo_i h3
        exact ih hl0 c5 h5 k σ4 s4
      · have h3 := jo_p (Decidable.byContradiction c3) h2
        refine jw_iconst (p := 41) rfl jM147 jq147_40 ?_
        refine jw_goto jM147 jq147_41 ?_
        refine jg_iast (p := 48) rfl jM147 jq147_47 (ja_94 s.1) c2.1 c2.2 s.g (by decide) (jb_rn rfl) ?_
        intro σ6 ts6
        have s6 := s.g' ts6
        refine jiI3 (p := 51) rfl jM147 jq147_48 ?_
        refine jw_goto jM147 jq147_51 ?_
        obtain ⟨c7, h7⟩ := jo_i h3
        exact ih hl0 c7 h7 k σ6 s6
def fl147 (K : jc_K) (G : jg_G) (l0 : Int) : Option ((jc_K × jg_G) × Int) := if 0 ≤ (4 + l0) ∧ (4 + l0) < 16 then if 0 ≤ (8 + l0) ∧ (8 + l0) < 16 then if 0 ≤ (12 + l0) ∧ (12 + l0) < 16 then if 0 ≤ l0 ∧ l0 < 16 then fl147_26 jo_N K (jg_u (jg_u (jg_u (jg_u G 94 (4 + l0) 0) 94 (8 + l0) 0) 94 (12 + l0) 0) 94 l0 (-1)) l0 0 else none else none else none else none
theorem jy147 {d : Nat} {L : Nat} {xs : Nat → Int32} {Q : ib_O → Prop} {K : jc_K} {G : jg_G} {l0 : Int} (hl0 : jb_r l0) {r : (jc_K × jg_G) × Int} (h : fl147 K G l0 = some r) (k : ∀ σ, jy_S L xs r.1.1 r.1.2 σ → Q (.inl none, σ)) : jy_W L xs K G d 147 0 [some (jb_v l0), some (.ref 93), some (.ref 94), none] [] Q := by
  intro σ s
  unfold fl147 at h
  refine jaL2 (p := 1) rfl jM147 jq147_0 ?_
  refine jw_iconst (p := 2) rfl jM147 jq147_1 ?_
  refine jiL0 (p := 3) rfl jM147 jq147_2 ?_
  refine jw_iadd (p := 4) rfl jM147 jq147_3 ?_
  refine jw_iconst (p := 5) rfl jM147 jq147_4 ?_
  obtain ⟨c1, h1⟩ := jo_i h
  refine jg_iast (p := 6) rfl jM147 jq147_5 (ja_94 s.1) c1.1 c1.2 s.g (by decide) (jb_rn rfl) ?_
  intro σ2 ts2
  have s2 := s.g' ts2
  refine jaL2 (p := 7) rfl jM147 jq147_6 ?_
  refine jw_bipush (p := 9) rfl jM147 jq147_7 (by decide) ?_
  refine jiL0 (p := 10) rfl jM147 jq147_9 ?_
  refine jw_iadd (p := 11) rfl jM147 jq147_10 ?_
  refine jw_iconst (p := 12) rfl jM147 jq147_11 ?_
  obtain ⟨c3, h3⟩ := jo_i h1
  refine jg_iast (p := 13) rfl jM147 jq147_12 (ja_94 s2.1) c3.1 c3.2 s2.g (by decide) (jb_rn rfl) ?_
  intro σ4 ts4
  have s4 := s2.g' ts4
  refine jaL2 (p := 14) rfl jM147 jq147_13 ?_
  refine jw_bipush (p := 16) rfl jM147 jq147_14 (by decide) ?_
  refine jiL0 (p := 17) rfl jM147 jq147_16 ?_
  refine jw_iadd (p := 18) rfl jM147 jq147_17 ?_
  refine jw_iconst (p := 19) rfl jM147 jq147_18 ?_
  obtain ⟨c5, h5⟩ := jo_i h3
  refine jg_iast (p := 20) rfl jM147 jq147_19 (ja_94 s4.1) c5.1 c5.2 s4.g (by decide) (jb_rn rfl) ?_
  intro σ6 ts6
  have s6 := s4.g' ts6
  refine jaL2 (p := 21) rfl jM147 jq147_20 ?_
  refine jiL0 (p := 22) rfl jM147 jq147_21 ?_
  refine jw_iconst (p := 23) rfl jM147 jq147_22 ?_
  obtain ⟨c7, h7⟩ := jo_i h5
  refine jg_iast (p := 24) rfl jM147 jq147_23 (ja_94 s6.1) c7.1 c7.2 s6.g (by decide) (jb_rn rfl) ?_
  intro σ8 ts8
  have s8 := s6.g' ts8
  refine jw_iconst (p := 25) rfl jM147 jq147_24 ?_
  refine jiS3 (p := 26) rfl jM147 jq147_25 ?_
  exact jy147_26 jo_N hl0 (jb_rn rfl) h7 k σ8 s8
-- 148 undoes need 0
def fl148_3 : Nat → jc_K → jg_G → Int → Int → Int → Option ((jc_K × jg_G) × Int)
  | 0, _, _, _, _, _ => none
  | m + 1, K, G, l0, l1, l7 => if 0 ≤ (12 + l0) ∧ (12 + l0) < 16 then if G 94 (12 + l0) ≤ 0 then (if 0 ≤ (8 + l0) ∧ (8 + l0) < 16 then if -2147483648 ≤ ((G 94 (8 + l0)) + l7) ∧ ((G 94 (8 + l0)) + l7) < 2147483648 then some ((K, jg_u G 94 (8 + l0) ((G 94 (8 + l0)) + l7)), l7) else none else none) else (if 0 ≤ (((16 * l0) + (G 94 (12 + l0))) - 1) ∧ (((16 * l0) + (G 94 (12 + l0))) - 1) < 64 then if G 95 (((16 * l0) + (G 94 (12 + l0))) - 1) ≤ l1 then (if 0 ≤ (8 + l0) ∧ (8 + l0) < 16 then if -2147483648 ≤ ((G 94 (8 + l0)) + l7) ∧ ((G 94 (8 + l0)) + l7) < 2147483648 then some ((K, jg_u G 94 (8 + l0) ((G 94 (8 + l0)) + l7)), l7) else none else none) else (if -2147483648 ≤ ((G 94 (12 + l0)) - 1) ∧ ((G 94 (12 + l0)) - 1) < 2147483648 then if 0 ≤ ((16 * l0) + ((G 94 (12 + l0)) - 1)) ∧ ((16 * l0) + ((G 94 (12 + l0)) - 1)) < 64 then if 0 ≤ (G 96 ((16 * l0) + ((G 94 (12 + l0)) - 1))) ∧ (G 96 ((16 * l0) + ((G 94 (12 + l0)) - 1))) < 64 then if -2147483648 ≤ (l7 + 1) ∧ (l7 + 1) < 2147483648 then fl148_3 m K (jg_u (jg_u G 94 (12 + l0) ((G 94 (12 + l0)) - 1)) 92 (G 96 ((16 * l0) + ((G 94 (12 + l0)) - 1))) (G 97 ((16 * l0) + ((G 94 (12 + l0)) - 1)))) l0 l1 (l7 + 1) else none else none else none else none) else none) else none
theorem jy148_3 {d : Nat} {L : Nat} {xs : Nat → Int32} {Q : ib_O → Prop} : ∀ (m : Nat) {K : jc_K} {G : jg_G} {l0 : Int} {l1 : Int} {l7 : Int} (hl0 : jb_r l0) (hl1 : jb_r l1) (hl7 : jb_r l7) {r : (jc_K × jg_G) × Int} (h : fl148_3 m K G l0 l1 l7 = some r) (k : ∀ σ, jy_S L xs r.1.1 r.1.2 σ → jb_r r.2 → Q (.inl (some (jb_v r.2)), σ)), jy_W L xs K G d 148 3 [some (jb_v l0), some (jb_v l1), some (.ref 92), some (.ref 94), some (.ref 95), some (.ref 96), some (.ref 97), some (jb_v l7)] [] Q := by
  intro m
  induction m with
  | zero =>
    intro K G l0 l1 l7 hl0 hl1 hl7 r h k
    cases h
  | succ m ih =>
    intro K G l0 l1 l7 hl0 hl1 hl7 r h k σ s
    unfold fl148_3 at h
    refine jaL3 (p := 4) rfl jM148 jq148_3 ?_
    refine jw_bipush (p := 6) rfl jM148 jq148_4 (by decide) ?_
    refine jiL0 (p := 7) rfl jM148 jq148_6 ?_
    refine jw_iadd (p := 8) rfl jM148 jq148_7 ?_
    obtain ⟨c1, h1⟩ := jo_i h
    refine jg_iald (p := 9) rfl jM148 jq148_8 (ja_94 s.1) c1.1 c1.2 s.g (by decide) rfl ?_
    refine jw_if (p := 12) rfl jM148 jq148_9 (jc_le (s.r _ _) jb_r0) (fun c2 => ?_) (fun c2 => ?_)
    · have h2 := jo_p c2 h1
      refine jaL3 (p := 79) rfl jM148 jq148_78 ?_
      refine jw_bipush (p := 81) rfl jM148 jq148_79 (by decide) ?_
      refine jiL0 (p := 82) rfl jM148 jq148_81 ?_
      refine jw_iadd (p := 83) rfl jM148 jq148_82 ?_
      refine jw_dup2 (p := 84) rfl jM148 jq148_83 ?_
      obtain ⟨c3, h3⟩ := jo_i h2
      refine jg_iald (p := 85) rfl jM148 jq148_84 (ja_94 s.1) c3.1 c3.2 s.g (by decide) rfl ?_
      refine jiL7 (p := 87) rfl jM148 jq148_85 ?_
      refine jw_iadd (p := 88) rfl jM148 jq148_87 ?_
      obtain ⟨c4, h4⟩ := jo_i h3
      refine jg_iast (p := 89) rfl jM148 jq148_88 (ja_94 s.1) c3.1 c3.2 s.g (by decide) c4 ?_
      intro σ5 ts5
      have s5 := s.g' ts5
      refine jiL7 (p := 91) rfl jM148 jq148_89 ?_
      cases h4
      exact jw_iret jM148 jq148_91 (fun z => absurd z (by decide)) (k σ5 s5 hl7)
    · have h2 := jo_n c2 h1
      refine jaL4 (p := 14) rfl jM148 jq148_12 ?_
      refine jw_bipush (p := 16) rfl jM148 jq148_14 (by decide) ?_
      refine jiL0 (p := 17) rfl jM148 jq148_16 ?_
      refine jw_imul (p := 18) rfl jM148 jq148_17 ?_
      refine jaL3 (p := 19) rfl jM148 jq148_18 ?_
      refine jw_bipush (p := 21) rfl jM148 jq148_19 (by decide) ?_
      refine jiL0 (p := 22) rfl jM148 jq148_21 ?_
      refine jw_iadd (p := 23) rfl jM148 jq148_22 ?_
      refine jg_iald (p := 24) rfl jM148 jq148_23 (ja_94 s.1) c1.1 c1.2 s.g (by decide) rfl ?_
      refine jw_iadd (p := 25) rfl jM148 jq148_24 ?_
      refine jw_iconst (p := 26) rfl jM148 jq148_25 ?_
      refine jw_isub (p := 27) rfl jM148 jq148_26 ?_
      obtain ⟨c6, h6⟩ := jo_i h2
      refine jg_iald (p := 28) rfl jM148 jq148_27 (ja_95 s.1) c6.1 c6.2 s.g (by decide) rfl ?_
      refine jiL1 (p := 29) rfl jM148 jq148_28 ?_
      refine jw_ic (p := 32) rfl jM148 jq148_29 (jc_le (s.r _ _) hl1) (fun c7 => ?_) (fun c7 => ?_)
      · have h7 := jo_p c7 h6
        refine jaL3 (p := 79) rfl jM148 jq148_78 ?_
        refine jw_bipush (p := 81) rfl jM148 jq148_79 (by decide) ?_
        refine jiL0 (p := 82) rfl jM148 jq148_81 ?_
        refine jw_iadd (p := 83) rfl jM148 jq148_82 ?_
        refine jw_dup2 (p := 84) rfl jM148 jq148_83 ?_
        obtain ⟨c8, h8⟩ := jo_i h7
        refine jg_iald (p := 85) rfl jM148 jq148_84 (ja_94 s.1) c8.1 c8.2 s.g (by decide) rfl ?_
        refine jiL7 (p := 87) rfl jM148 jq148_85 ?_
        refine jw_iadd (p := 88) rfl jM148 jq148_87 ?_
        obtain ⟨c9, h9⟩ := jo_i h8
        refine jg_iast (p := 89) rfl jM148 jq148_88 (ja_94 s.1) c8.1 c8.2 s.g (by decide) c9 ?_
        intro σ10 ts10
        have s10 := s.g' ts10
        refine jiL7 (p := 91) rfl jM148 jq148_89 ?_
        cases h9
        exact jw_iret jM148 jq148_91 (fun z => absurd z (by decide)) (k σ10 s10 hl7)
      · have h7 := jo_n c7 h6
        refine jaL3 (p := 33) rfl jM148 jq148_32 ?_
        refine jw_bipush (p := 35) rfl jM148 jq148_33 (by decide) ?_
        refine jiL0 (p := 36) rfl jM148 jq148_35 ?_
        refine jw_iadd (p := 37) rfl jM148 jq148_36 ?_
        refine jw_dup2 (p := 38) rfl jM148 jq148_37 ?_
        refine jg_iald (p := 39) rfl jM148 jq148_38 (ja_94 s.1) c1.1 c1.2 s.g (by decide) rfl ?_
        refine jw_iconst (p := 40) rfl jM148 jq148_39 ?_
        refine jw_isub (p := 41) rfl jM148 jq148_40 ?_
        obtain ⟨c11, h11⟩ := jo_i h7
        refine jg_iast (p := 42) rfl jM148 jq148_41 (ja_94 s.1) c1.1 c1.2 s.g (by decide) c11 ?_
        intro σ12 ts12
        have s12 := s.g' ts12
        refine jaL2 (p := 43) rfl jM148 jq148_42 ?_
        refine jaL5 (p := 45) rfl jM148 jq148_43 ?_
        refine jw_bipush (p := 47) rfl jM148 jq148_45 (by decide) ?_
        refine jiL0 (p := 48) rfl jM148 jq148_47 ?_
        refine jw_imul (p := 49) rfl jM148 jq148_48 ?_
        refine jaL3 (p := 50) rfl jM148 jq148_49 ?_
        refine jw_bipush (p := 52) rfl jM148 jq148_50 (by decide) ?_
        refine jiL0 (p := 53) rfl jM148 jq148_52 ?_
        refine jw_iadd (p := 54) rfl jM148 jq148_53 ?_
        refine jg_iald (p := 55) rfl jM148 jq148_54 (ja_94 s12.1) c1.1 c1.2 s12.g (by decide) jg_uH ?_
        refine jw_iadd (p := 56) rfl jM148 jq148_55 ?_
        obtain ⟨c13, h13⟩ := jo_i h11
        refine jg_iald (p := 57) rfl jM148 jq148_56 (ja_96 s12.1) c13.1 c13.2 s12.g (by decide) (jg_uN (by decide)) ?_
        refine jaL6 (p := 59) rfl jM148 jq148_57 ?_
        refine jw_bipush (p := 61) rfl jM148 jq148_59 (by decide) ?_
        refine jiL0 (p := 62) rfl jM148 jq148_61 ?_
        refine jw_imul (p := 63) rfl jM148 jq148_62 ?_
        refine jaL3 (p := 64) rfl jM148 jq148_63 ?_
        refine jw_bipush (p := 66) rfl jM148 jq148_64 (by decide) ?_
        refine jiL0 (p := 67) rfl jM148 jq148_66 ?_
        refine jw_iadd (p := 68) rfl jM148 jq148_67 ?_
        refine jg_iald (p := 69) rfl jM148 jq148_68 (ja_94 s12.1) c1.1 c1.2 s12.g (by decide) jg_uH ?_
        refine jw_iadd (p := 70) rfl jM148 jq148_69 ?_
        refine jg_iald (p := 71) rfl jM148 jq148_70 (ja_97 s12.1) c13.1 c13.2 s12.g (by decide) (jg_uN (by decide)) ?_
        obtain ⟨c14, h14⟩ := jo_i h13
        refine jg_iast (p := 72) rfl jM148 jq148_71 (ja_92 s12.1) c14.1 c14.2 s12.g (by decide) (s.r _ _) ?_
        intro σ15 ts15
        have s15 := s12.g' ts15
        refine jiI7 (p := 75) rfl jM148 jq148_72 ?_
        refine jw_goto jM148 jq148_75 ?_
        obtain ⟨c16, h16⟩ := jo_i h14
        exact ih hl0 hl1 c16 h16 k σ15 s15
def fl148 (K : jc_K) (G : jg_G) (l0 : Int) (l1 : Int) : Option ((jc_K × jg_G) × Int) := fl148_3 jo_N K G l0 l1 0
theorem jy148 {d : Nat} {L : Nat} {xs : Nat → Int32} {Q : ib_O → Prop} {K : jc_K} {G : jg_G} {l0 : Int} {l1 : Int} (hl0 : jb_r l0) (hl1 : jb_r l1) {r : (jc_K × jg_G) × Int} (h : fl148 K G l0 l1 = some r) (k : ∀ σ, jy_S L xs r.1.1 r.1.2 σ → jb_r r.2 → Q (.inl (some (jb_v r.2)), σ)) : jy_W L xs K G d 148 0 [some (jb_v l0), some (jb_v l1), some (.ref 92), some (.ref 94), some (.ref 95), some (.ref 96), some (.ref 97), none] [] Q := by
  intro σ s
  unfold fl148 at h
  refine jw_iconst (p := 1) rfl jM148 jq148_0 ?_
  refine jiS7 (p := 3) rfl jM148 jq148_1 ?_
  exact jy148_3 jo_N hl0 hl1 (jb_rn rfl) h k σ s
-- 149 falls need 7
def fl149_56 : Nat → jc_K → jg_G → Int → Int → Option ((jc_K × jg_G) × Int)
  | 0, _, _, _, _ => none
  | m + 1, K, G, l4, l5 => if 4 ≤ l5 then ((jy_ok (fc117 K 0)).bind fun x2 => if l4 = (-4) then ((jy_ok (fc119 (x2.1) )).bind fun x6 => if x6.2 = 0 then (some ((x6.1, G), 1)) else (some ((x6.1, G), 0))) else (if l4 = 0 then (some ((x2.1, G), 1)) else (some ((x2.1, G), 0)))) else (if l4 = (-4) then ((jy_ok (fc119 K )).bind fun x13 => if -2147483648 ≤ (l5 + 1) ∧ (l5 + 1) < 2147483648 then fl149_56 m (x13.1) G (x13.2) (l5 + 1) else none) else ((jy_ok (fc117 K 0)).bind fun x10 => if l4 = 0 then (some ((x10.1, G), 1)) else (some ((x10.1, G), 0))))
theorem jy149_56 {d : Nat} {L : Nat} {xs : Nat → Int32} {Q : ib_O → Prop} : ∀ (m : Nat) {K : jc_K} {G : jg_G} {l4 : Int} {l5 : Int} (hl4 : jb_r l4) (hl5 : jb_r l5) {r : (jc_K × jg_G) × Int} (h : fl149_56 m K G l4 l5 = some r) (k : ∀ σ, jy_S L xs r.1.1 r.1.2 σ → jb_r r.2 → Q (.inl (some (jb_v r.2)), σ)), jy_W L xs K G (d + 7) 149 56 [some (.ref 2), some (.ref 92), some (.ref 93), some (.ref 94), some (jb_v l4), some (jb_v l5)] [] Q := by
  intro m
  induction m with
  | zero =>
    intro K G l4 l5 hl4 hl5 r h k
    cases h
  | succ m ih =>
    intro K G l4 l5 hl4 hl5 r h k σ s
    unfold fl149_56 at h
    refine jiL5 (p := 58) rfl jM149 jq149_56 ?_
    refine jw_iconst (p := 59) rfl jM149 jq149_58 ?_
    refine jw_ic (p := 62) rfl jM149 jq149_59 (jc_ge hl5 (jb_rn rfl)) (fun c1 => ?_) (fun c1 => ?_)
    · have h1 := jo_p c1 h
      refine jaL0 (p := 82) rfl jM149 jq149_81 ?_
      refine jw_iconst (p := 83) rfl jM149 jq149_82 ?_
      refine jw_callV [(jb_v 0)] jM149 jq149_83 rfl rfl (jo_2 s.1) rfl jM117 rfl rfl ?_
      obtain ⟨x2, b3, h3⟩ := jo_b h1
      refine jd117 (jb_rn rfl) (jy_okb b3) (fun σ2 ts2 _ => ?_) σ s.c
      have s2 := s.c' ts2
      show jb_w (d + 7) 149 86 [some (.ref 2), some (.ref 92), some (.ref 93), some (.ref 94), some (jb_v l4), some (jb_v l5)] [] σ2 Q
      refine jiL4 (p := 88) rfl jM149 jq149_86 ?_
      refine jw_bipush (p := 90) rfl jM149 jq149_88 (by decide) ?_
      refine jw_ic (p := 93) rfl jM149 jq149_90 (jc_ne hl4 (jb_rn rfl)) (fun c4 => ?_) (fun c4 => ?_)
      · have h4 := jo_n c4 h3
        refine jiL4 (p := 101) rfl jM149 jq149_99 ?_
        refine jw_if (p := 104) rfl jM149 jq149_101 (jc_ne hl4 jb_r0) (fun c5 => ?_) (fun c5 => ?_)
        · have h5 := jo_n c5 h4
          refine jw_iconst (p := 109) rfl jM149 jq149_108 ?_
          cases h5
          exact jw_iret jM149 jq149_109 (fun _ => Or.inl rfl) (k σ2 s2 (jb_rn rfl))
        · have h5 := jo_p (Decidable.byContradiction c5) h4
          refine jw_iconst (p := 105) rfl jM149 jq149_104 ?_
          refine jw_goto jM149 jq149_105 ?_
          cases h5
          exact jw_iret jM149 jq149_109 (fun _ => Or.inr rfl) (k σ2 s2 (jb_rn rfl))
      · have h4 := jo_p (Decidable.byContradiction c4) h3
        refine jaL0 (p := 94) rfl jM149 jq149_93 ?_
        refine jw_callV [] jM149 jq149_94 rfl rfl (jo_2 s2.1) rfl jM119 rfl rfl ?_
        obtain ⟨x6, b7, h7⟩ := jo_b h4
        refine jd119  (jy_okb b7) (fun σ6 ts6 r6 => ?_) σ2 s2.c
        have s6 := s2.c' ts6
        have r6 := r6 _ rfl
        show jb_w (d + 7) 149 97 [some (.ref 2), some (.ref 92), some (.ref 93), some (.ref 94), some (jb_v l4), some (jb_v l5)] [(jb_v (x6.2))] σ6 Q
        refine jiS4 (p := 99) rfl jM149 jq149_97 ?_
        refine jiL4 (p := 101) rfl jM149 jq149_99 ?_
        refine jw_if (p := 104) rfl jM149 jq149_101 (jc_ne r6 jb_r0) (fun c8 => ?_) (fun c8 => ?_)
        · have h8 := jo_n c8 h7
          refine jw_iconst (p := 109) rfl jM149 jq149_108 ?_
          cases h8
          exact jw_iret jM149 jq149_109 (fun _ => Or.inl rfl) (k σ6 s6 (jb_rn rfl))
        · have h8 := jo_p (Decidable.byContradiction c8) h7
          refine jw_iconst (p := 105) rfl jM149 jq149_104 ?_
          refine jw_goto jM149 jq149_105 ?_
          cases h8
          exact jw_iret jM149 jq149_109 (fun _ => Or.inr rfl) (k σ6 s6 (jb_rn rfl))
    · have h1 := jo_n c1 h
      refine jiL4 (p := 64) rfl jM149 jq149_62 ?_
      refine jw_bipush (p := 66) rfl jM149 jq149_64 (by decide) ?_
      refine jw_ic (p := 69) rfl jM149 jq149_66 (jc_ne hl4 (jb_rn rfl)) (fun c9 => ?_) (fun c9 => ?_)
      · have h9 := jo_n c9 h1
        refine jaL0 (p := 82) rfl jM149 jq149_81 ?_
        refine jw_iconst (p := 83) rfl jM149 jq149_82 ?_
        refine jw_callV [(jb_v 0)] jM149 jq149_83 rfl rfl (jo_2 s.1) rfl jM117 rfl rfl ?_
        obtain ⟨x10, b11, h11⟩ := jo_b h9
        refine jd117 (jb_rn rfl) (jy_okb b11) (fun σ10 ts10 _ => ?_) σ s.c
        have s10 := s.c' ts10
        show jb_w (d + 7) 149 86 [some (.ref 2), some (.ref 92), some (.ref 93), some (.ref 94), some (jb_v l4), some (jb_v l5)] [] σ10 Q
        refine jiL4 (p := 88) rfl jM149 jq149_86 ?_
        refine jw_bipush (p := 90) rfl jM149 jq149_88 (by decide) ?_
        refine jw_ic (p := 93) rfl jM149 jq149_90 (jc_ne hl4 (jb_rn rfl)) (fun _ => ?_) (fun z => absurd c9 z)
        refine jiL4 (p := 101) rfl jM149 jq149_99 ?_
        refine jw_if (p := 104) rfl jM149 jq149_101 (jc_ne hl4 jb_r0) (fun c12 => ?_) (fun c12 => ?_)
        · have h12 := jo_n c12 h11
          refine jw_iconst (p := 109) rfl jM149 jq149_108 ?_
          cases h12
          exact jw_iret jM149 jq149_109 (fun _ => Or.inl rfl) (k σ10 s10 (jb_rn rfl))
        · have h12 := jo_p (Decidable.byContradiction c12) h11
          refine jw_iconst (p := 105) rfl jM149 jq149_104 ?_
          refine jw_goto jM149 jq149_105 ?_
          cases h12
          exact jw_iret jM149 jq149_109 (fun _ => Or.inr rfl) (k σ10 s10 (jb_rn rfl))
      · have h9 := jo_p (Decidable.byContradiction c9) h1
        refine jaL0 (p := 70) rfl jM149 jq149_69 ?_
        refine jw_callV [] jM149 jq149_70 rfl rfl (jo_2 s.1) rfl jM119 rfl rfl ?_
        obtain ⟨x13, b14, h14⟩ := jo_b h9
        refine jd119  (jy_okb b14) (fun σ13 ts13 r13 => ?_) σ s.c
        have s13 := s.c' ts13
        have r13 := r13 _ rfl
        show jb_w (d + 7) 149 73 [some (.ref 2), some (.ref 92), some (.ref 93), some (.ref 94), some (jb_v l4), some (jb_v l5)] [(jb_v (x13.2))] σ13 Q
        refine jiS4 (p := 75) rfl jM149 jq149_73 ?_
        refine jiI5 (p := 78) rfl jM149 jq149_75 ?_
        refine jw_goto jM149 jq149_78 ?_
        obtain ⟨c15, h15⟩ := jo_i h14
        exact ih r13 c15 h15 k σ13 s13
def fl149_25 : Nat → jc_K → jg_G → Int → Option ((jc_K × jg_G) × Int)
  | 0, _, _, _ => none
  | m + 1, K, G, l4 => if 32 ≤ l4 then (fl149_56 jo_N K G (-4) 0) else (if 0 ≤ (32 + l4) ∧ (32 + l4) < 64 then if 0 ≤ l4 ∧ l4 < 64 then if -2147483648 ≤ (l4 + 1) ∧ (l4 + 1) < 2147483648 then fl149_25 m K (jg_u G 92 l4 (G 92 (32 + l4))) (l4 + 1) else none else none else none)
theorem jy149_25 {d : Nat} {L : Nat} {xs : Nat → Int32} {Q : ib_O → Prop} : ∀ (m : Nat) {K : jc_K} {G : jg_G} {l4 : Int} (hl4 : jb_r l4) {r : (jc_K × jg_G) × Int} (h : fl149_25 m K G l4 = some r) (k : ∀ σ, jy_S L xs r.1.1 r.1.2 σ → jb_r r.2 → Q (.inl (some (jb_v r.2)), σ)), jy_W L xs K G (d + 7) 149 25 [some (.ref 2), some (.ref 92), some (.ref 93), some (.ref 94), some (jb_v l4), none] [] Q := by
  intro m
  induction m with
  | zero =>
    intro K G l4 hl4 r h k
    cases h
  | succ m ih =>
    intro K G l4 hl4 r h k σ s
    unfold fl149_25 at h
    refine jiL4 (p := 27) rfl jM149 jq149_25 ?_
    refine jw_bipush (p := 29) rfl jM149 jq149_27 (by decide) ?_
    refine jw_ic (p := 32) rfl jM149 jq149_29 (jc_ge hl4 (jb_rn rfl)) (fun c1 => ?_) (fun c1 => ?_)
    · have h1 := jo_p c1 h
      refine jw_bipush (p := 51) rfl jM149 jq149_49 (by decide) ?_
      refine jiS4 (p := 53) rfl jM149 jq149_51 ?_
      refine jw_iconst (p := 54) rfl jM149 jq149_53 ?_
      refine jiS5 (p := 56) rfl jM149 jq149_54 ?_
      exact jy149_56 jo_N (jb_rn rfl) (jb_rn rfl) h1 k σ s
    · have h1 := jo_n c1 h
      refine jaL1 (p := 33) rfl jM149 jq149_32 ?_
      refine jiL4 (p := 35) rfl jM149 jq149_33 ?_
      refine jaL1 (p := 36) rfl jM149 jq149_35 ?_
      refine jw_bipush (p := 38) rfl jM149 jq149_36 (by decide) ?_
      refine jiL4 (p := 40) rfl jM149 jq149_38 ?_
      refine jw_iadd (p := 41) rfl jM149 jq149_40 ?_
      obtain ⟨c2, h2⟩ := jo_i h1
      refine jg_iald (p := 42) rfl jM149 jq149_41 (ja_92 s.1) c2.1 c2.2 s.g (by decide) rfl ?_
      obtain ⟨c3, h3⟩ := jo_i h2
      refine jg_iast (p := 43) rfl jM149 jq149_42 (ja_92 s.1) c3.1 c3.2 s.g (by decide) (s.r _ _) ?_
      intro σ4 ts4
      have s4 := s.g' ts4
      refine jiI4 (p := 46) rfl jM149 jq149_43 ?_
      refine jw_goto jM149 jq149_46 ?_
      obtain ⟨c5, h5⟩ := jo_i h3
      exact ih c5 h5 k σ4 s4
def fl149_3 : Nat → jc_K → jg_G → Int → Option ((jc_K × jg_G) × Int)
  | 0, _, _, _ => none
  | m + 1, K, G, l4 => if 4 ≤ l4 then (fl149_25 jo_N K G 0) else ((fl147 K G l4).bind fun x2 => if -2147483648 ≤ (l4 + 1) ∧ (l4 + 1) < 2147483648 then fl149_3 m (x2.1.1) (x2.1.2) (l4 + 1) else none)
theorem jy149_3 {d : Nat} {L : Nat} {xs : Nat → Int32} {Q : ib_O → Prop} : ∀ (m : Nat) {K : jc_K} {G : jg_G} {l4 : Int} (hl4 : jb_r l4) {r : (jc_K × jg_G) × Int} (h : fl149_3 m K G l4 = some r) (k : ∀ σ, jy_S L xs r.1.1 r.1.2 σ → jb_r r.2 → Q (.inl (some (jb_v r.2)), σ)), jy_W L xs K G (d + 7) 149 3 [some (.ref 2), some (.ref 92), some (.ref 93), some (.ref 94), some (jb_v l4), none] [] Q := by
  intro m
  induction m with
  | zero =>
    intro K G l4 hl4 r h k
    cases h
  | succ m ih =>
    intro K G l4 hl4 r h k σ s
    unfold fl149_3 at h
    refine jiL4 (p := 5) rfl jM149 jq149_3 ?_
    refine jw_iconst (p := 6) rfl jM149 jq149_5 ?_
    refine jw_ic (p := 9) rfl jM149 jq149_6 (jc_ge hl4 (jb_rn rfl)) (fun c1 => ?_) (fun c1 => ?_)
    · have h1 := jo_p c1 h
      refine jw_iconst (p := 23) rfl jM149 jq149_22 ?_
      refine jiS4 (p := 25) rfl jM149 jq149_23 ?_
      exact jy149_25 jo_N (jb_rn rfl) h1 k σ s
    · have h1 := jo_n c1 h
      refine jiL4 (p := 11) rfl jM149 jq149_9 ?_
      refine jaL2 (p := 12) rfl jM149 jq149_11 ?_
      refine jaL3 (p := 13) rfl jM149 jq149_12 ?_
      refine jw_callS [(jb_v l4), (.ref 93), (.ref 94)] jM149 jq149_13 rfl rfl rfl jM147 rfl rfl ?_
      obtain ⟨x2, b3, h3⟩ := jo_b h1
      refine jy147 hl4 b3 (fun σ2 s2 => ?_) σ s
      show jb_w (d + 7) 149 16 [some (.ref 2), some (.ref 92), some (.ref 93), some (.ref 94), some (jb_v l4), none] [] σ2 Q
      refine jiI4 (p := 19) rfl jM149 jq149_16 ?_
      refine jw_goto jM149 jq149_19 ?_
      obtain ⟨c4, h4⟩ := jo_i h3
      exact ih c4 h4 k σ2 s2
def fl149 (K : jc_K) (G : jg_G) : Option ((jc_K × jg_G) × Int) := fl149_3 jo_N K G 0
theorem jy149 {d : Nat} {L : Nat} {xs : Nat → Int32} {Q : ib_O → Prop} {K : jc_K} {G : jg_G} {r : (jc_K × jg_G) × Int} (h : fl149 K G  = some r) (k : ∀ σ, jy_S L xs r.1.1 r.1.2 σ → jb_r r.2 → Q (.inl (some (jb_v r.2)), σ)) : jy_W L xs K G (d + 7) 149 0 [some (.ref 2), some (.ref 92), some (.ref 93), some (.ref 94), none, none] [] Q := by
  intro σ s
  unfold fl149 at h
  refine jw_iconst (p := 1) rfl jM149 jq149_0 ?_
  refine jiS4 (p := 3) rfl jM149 jq149_1 ?_
  exact jy149_3 jo_N (jb_rn rfl) h k σ s
-- 150 locks need 1
def fl150_s : Nat → Nat → jc_K → jg_G → Int → Int → Int → Int → Int → Option ((jc_K × jg_G) × Int)
  | 0, _, _, _, _, _, _, _, _ => none
  | m + 1, t, K, G, l0, l1, l8, l9, l10 => if t = 5 then (if 0 ≤ l1 ∧ l1 < 32 then if G 93 l1 < 0 then (some ((K, jg_u G 93 l1 l0), 0)) else (if G 93 l1 = l0 then (some ((K, jg_u G 93 l1 l0), 0)) else (if 0 ≤ l0 ∧ l0 < 16 then fl150_s m 37 K (jg_u G 94 l0 (G 93 l1)) l0 l1 l0 (G 93 l1) 0 else none)) else none) else if t = 37 then (if 5 ≤ l10 then (if l9 = l0 then ((fl148 K G l8 0).bind fun x10 => (fl147 (x10.1.1) (x10.1.2) l8).bind fun x12 => if l8 = l0 then (some ((x12.1.1, x12.1.2), (-3))) else (if 0 ≤ l0 ∧ l0 < 16 then fl150_s m 5 (x12.1.1) (jg_u (x12.1.2) 94 l0 (-1)) l0 l1 0 0 0 else none)) else (some ((K, G), (-2)))) else (if l9 < 0 then (if l9 = l0 then ((fl148 K G l8 0).bind fun x19 => (fl147 (x19.1.1) (x19.1.2) l8).bind fun x21 => if l8 = l0 then (some ((x21.1.1, x21.1.2), (-3))) else (if 0 ≤ l0 ∧ l0 < 16 then fl150_s m 5 (x21.1.1) (jg_u (x21.1.2) 94 l0 (-1)) l0 l1 0 0 0 else none)) else (some ((K, G), (-2)))) else (if l9 = l0 then ((fl148 K G l8 0).bind fun x27 => (fl147 (x27.1.1) (x27.1.2) l8).bind fun x29 => if l8 = l0 then (some ((x29.1.1, x29.1.2), (-3))) else (if 0 ≤ l0 ∧ l0 < 16 then fl150_s m 5 (x29.1.1) (jg_u (x29.1.2) 94 l0 (-1)) l0 l1 0 0 0 else none)) else (if 0 ≤ (8 + l9) ∧ (8 + l9) < 16 then if 0 ≤ (8 + l8) ∧ (8 + l8) < 16 then if G 94 (8 + l9) < G 94 (8 + l8) then (if 0 ≤ l9 ∧ l9 < 16 then if -2147483648 ≤ (l10 + 1) ∧ (l10 + 1) < 2147483648 then fl150_s m 37 K G l0 l1 l9 (G 94 l9) (l10 + 1) else none else none) else (if G 94 (8 + l9) = G 94 (8 + l8) then (if l9 ≤ l8 then (if 0 ≤ l9 ∧ l9 < 16 then if -2147483648 ≤ (l10 + 1) ∧ (l10 + 1) < 2147483648 then fl150_s m 37 K G l0 l1 l8 (G 94 l9) (l10 + 1) else none else none) else (if 0 ≤ l9 ∧ l9 < 16 then if -2147483648 ≤ (l10 + 1) ∧ (l10 + 1) < 2147483648 then fl150_s m 37 K G l0 l1 l9 (G 94 l9) (l10 + 1) else none else none)) else (if 0 ≤ l9 ∧ l9 < 16 then if -2147483648 ≤ (l10 + 1) ∧ (l10 + 1) < 2147483648 then fl150_s m 37 K G l0 l1 l8 (G 94 l9) (l10 + 1) else none else none)) else none else none)))) else none
theorem jy150_s {d : Nat} {L : Nat} {xs : Nat → Int32} {Q : ib_O → Prop} : ∀ (m : Nat), (∀ {K : jc_K} {G : jg_G} {l0 : Int} {l1 : Int} {o8 : Option Value} {o9 : Option Value} {o10 : Option Value} (hl0 : jb_r l0) (hl1 : jb_r l1) {r : (jc_K × jg_G) × Int} (h : fl150_s m 5 K G l0 l1 0 0 0 = some r) (k : ∀ σ, jy_S L xs r.1.1 r.1.2 σ → jb_r r.2 → Q (.inl (some (jb_v r.2)), σ)), jy_W L xs K G (d + 1) 150 5 [some (jb_v l0), some (jb_v l1), some (.ref 92), some (.ref 93), some (.ref 94), some (.ref 95), some (.ref 96), some (.ref 97), o8, o9, o10] [] Q) ∧ (∀ {K : jc_K} {G : jg_G} {l0 : Int} {l1 : Int} {l8 : Int} {l9 : Int} {l10 : Int} (hl0 : jb_r l0) (hl1 : jb_r l1) (hl8 : jb_r l8) (hl9 : jb_r l9) (hl10 : jb_r l10) {r : (jc_K × jg_G) × Int} (h : fl150_s m 37 K G l0 l1 l8 l9 l10 = some r) (k : ∀ σ, jy_S L xs r.1.1 r.1.2 σ → jb_r r.2 → Q (.inl (some (jb_v r.2)), σ)), jy_W L xs K G (d + 1) 150 37 [some (jb_v l0), some (jb_v l1), some (.ref 92), some (.ref 93), some (.ref 94), some (.ref 95), some (.ref 96), some (.ref 97), some (jb_v l8), some (jb_v l9), some (jb_v l10)] [] Q) := by
  intro m
  induction m with
  | zero =>
    refine ⟨?_, ?_⟩
    · intro K G l0 l1 o8 o9 o10 hl0 hl1 r h k
      cases h
    · intro K G l0 l1 l8 l9 l10 hl0 hl1 hl8 hl9 hl10 r h k
      cases h
  | succ m ih =>
    refine ⟨?_, ?_⟩
    · intro K G l0 l1 o8 o9 o10 hl0 hl1 r h k σ s
      unfold fl150_s at h
      have h := jo_p rfl h
      refine jaL3 (p := 6) rfl jM150 jq150_5 ?_
      refine jiL1 (p := 7) rfl jM150 jq150_6 ?_
      obtain ⟨c1, h1⟩ := jo_i h
      refine jg_iald (p := 8) rfl jM150 jq150_7 (ja_93 s.1) c1.1 c1.2 s.g (by decide) rfl ?_
      refine jw_if (p := 11) rfl jM150 jq150_8 (jc_lt (s.r _ _) jb_r0) (fun c2 => ?_) (fun c2 => ?_)
      · have h2 := jo_p c2 h1
        refine jaL3 (p := 172) rfl jM150 jq150_171 ?_
        refine jiL1 (p := 173) rfl jM150 jq150_172 ?_
        refine jiL0 (p := 174) rfl jM150 jq150_173 ?_
        refine jg_iast (p := 175) rfl jM150 jq150_174 (ja_93 s.1) c1.1 c1.2 s.g (by decide) hl0 ?_
        intro σ3 ts3
        have s3 := s.g' ts3
        refine jw_iconst (p := 176) rfl jM150 jq150_175 ?_
        cases h2
        exact jw_iret jM150 jq150_176 (fun z => absurd z (by decide)) (k σ3 s3 (jb_rn rfl))
      · have h2 := jo_n c2 h1
        refine jaL3 (p := 12) rfl jM150 jq150_11 ?_
        refine jiL1 (p := 13) rfl jM150 jq150_12 ?_
        refine jg_iald (p := 14) rfl jM150 jq150_13 (ja_93 s.1) c1.1 c1.2 s.g (by decide) rfl ?_
        refine jiL0 (p := 15) rfl jM150 jq150_14 ?_
        refine jw_ic (p := 18) rfl jM150 jq150_15 (jc_eq (s.r _ _) hl0) (fun c4 => ?_) (fun c4 => ?_)
        · have h4 := jo_p c4 h2
          refine jaL3 (p := 172) rfl jM150 jq150_171 ?_
          refine jiL1 (p := 173) rfl jM150 jq150_172 ?_
          refine jiL0 (p := 174) rfl jM150 jq150_173 ?_
          refine jg_iast (p := 175) rfl jM150 jq150_174 (ja_93 s.1) c1.1 c1.2 s.g (by decide) hl0 ?_
          intro σ5 ts5
          have s5 := s.g' ts5
          refine jw_iconst (p := 176) rfl jM150 jq150_175 ?_
          cases h4
          exact jw_iret jM150 jq150_176 (fun z => absurd z (by decide)) (k σ5 s5 (jb_rn rfl))
        · have h4 := jo_n c4 h2
          refine jaL4 (p := 20) rfl jM150 jq150_18 ?_
          refine jiL0 (p := 21) rfl jM150 jq150_20 ?_
          refine jaL3 (p := 22) rfl jM150 jq150_21 ?_
          refine jiL1 (p := 23) rfl jM150 jq150_22 ?_
          refine jg_iald (p := 24) rfl jM150 jq150_23 (ja_93 s.1) c1.1 c1.2 s.g (by decide) rfl ?_
          obtain ⟨c6, h6⟩ := jo_i h4
          refine jg_iast (p := 25) rfl jM150 jq150_24 (ja_94 s.1) c6.1 c6.2 s.g (by decide) (s.r _ _) ?_
          intro σ7 ts7
          have s7 := s.g' ts7
          refine jiL0 (p := 26) rfl jM150 jq150_25 ?_
          refine jiS8 (p := 28) rfl jM150 jq150_26 ?_
          refine jaL4 (p := 30) rfl jM150 jq150_28 ?_
          refine jiL0 (p := 31) rfl jM150 jq150_30 ?_
          refine jg_iald (p := 32) rfl jM150 jq150_31 (ja_94 s7.1) c6.1 c6.2 s7.g (by decide) jg_uH ?_
          refine jiS9 (p := 34) rfl jM150 jq150_32 ?_
          refine jw_iconst (p := 35) rfl jM150 jq150_34 ?_
          refine jiS10 (p := 37) rfl jM150 jq150_35 ?_
          exact ih.2 hl0 hl1 hl0 (s.r _ _) (jb_rn rfl) h6 k σ7 s7
    · intro K G l0 l1 l8 l9 l10 hl0 hl1 hl8 hl9 hl10 r h k σ s
      unfold fl150_s at h
      have h := jo_p rfl (jo_n (by decide) h)
      refine jiL10 (p := 39) rfl jM150 jq150_37 ?_
      refine jw_iconst (p := 40) rfl jM150 jq150_39 ?_
      refine jw_ic (p := 43) rfl jM150 jq150_40 (jc_ge hl10 (jb_rn rfl)) (fun c8 => ?_) (fun c8 => ?_)
      · have h8 := jo_p c8 h
        refine jiL9 (p := 123) rfl jM150 jq150_121 ?_
        refine jiL0 (p := 124) rfl jM150 jq150_123 ?_
        refine jw_ic (p := 127) rfl jM150 jq150_124 (jc_eq hl9 hl0) (fun c9 => ?_) (fun c9 => ?_)
        · have h9 := jo_p c9 h8
          refine jiL8 (p := 132) rfl jM150 jq150_130 ?_
          refine jw_iconst (p := 133) rfl jM150 jq150_132 ?_
          refine jaL2 (p := 134) rfl jM150 jq150_133 ?_
          refine jaL4 (p := 136) rfl jM150 jq150_134 ?_
          refine jaL5 (p := 138) rfl jM150 jq150_136 ?_
          refine jaL6 (p := 140) rfl jM150 jq150_138 ?_
          refine jaL7 (p := 142) rfl jM150 jq150_140 ?_
          refine jw_callS [(jb_v l8), (jb_v 0), (.ref 92), (.ref 94), (.ref 95), (.ref 96), (.ref 97)] jM150 jq150_142 rfl rfl rfl jM148 rfl rfl ?_
          obtain ⟨x10, b11, h11⟩ := jo_b h9
          refine jy148 hl8 (jb_rn rfl) b11 (fun σ10 s10 r10 => ?_) σ s
          show jb_w (d + 1) 150 145 [some (jb_v l0), some (jb_v l1), some (.ref 92), some (.ref 93), some (.ref 94), some (.ref 95), some (.ref 96), some (.ref 97), some (jb_v l8), some (jb_v l9), some (jb_v l10)] [(jb_v (x10.2))] σ10 Q
          refine jw_popI (p := 146) rfl jM150 jq150_145 ?_
          refine jiL8 (p := 148) rfl jM150 jq150_146 ?_
          refine jaL3 (p := 149) rfl jM150 jq150_148 ?_
          refine jaL4 (p := 151) rfl jM150 jq150_149 ?_
          refine jw_callS [(jb_v l8), (.ref 93), (.ref 94)] jM150 jq150_151 rfl rfl rfl jM147 rfl rfl ?_
          obtain ⟨x12, b13, h13⟩ := jo_b h11
          refine jy147 hl8 b13 (fun σ12 s12 => ?_) σ10 s10
          show jb_w (d + 1) 150 154 [some (jb_v l0), some (jb_v l1), some (.ref 92), some (.ref 93), some (.ref 94), some (.ref 95), some (.ref 96), some (.ref 97), some (jb_v l8), some (jb_v l9), some (jb_v l10)] [] σ12 Q
          refine jiL8 (p := 156) rfl jM150 jq150_154 ?_
          refine jiL0 (p := 157) rfl jM150 jq150_156 ?_
          refine jw_ic (p := 160) rfl jM150 jq150_157 (jc_ne hl8 hl0) (fun c14 => ?_) (fun c14 => ?_)
          · have h14 := jo_n c14 h13
            refine jaL4 (p := 165) rfl jM150 jq150_163 ?_
            refine jiL0 (p := 166) rfl jM150 jq150_165 ?_
            refine jw_iconst (p := 167) rfl jM150 jq150_166 ?_
            obtain ⟨c15, h15⟩ := jo_i h14
            refine jg_iast (p := 168) rfl jM150 jq150_167 (ja_94 s12.1) c15.1 c15.2 s12.g (by decide) (jb_rn rfl) ?_
            intro σ16 ts16
            have s16 := s12.g' ts16
            refine jw_goto jM150 jq150_168 ?_
            exact ih.1 hl0 hl1 h15 k σ16 s16
          · have h14 := jo_p (Decidable.byContradiction c14) h13
            refine jw_bipush (p := 162) rfl jM150 jq150_160 (by decide) ?_
            cases h14
            exact jw_iret jM150 jq150_162 (fun z => absurd z (by decide)) (k σ12 s12 (jb_rn rfl))
        · have h9 := jo_n c9 h8
          refine jw_bipush (p := 129) rfl jM150 jq150_127 (by decide) ?_
          cases h9
          exact jw_iret jM150 jq150_129 (fun z => absurd z (by decide)) (k σ s (jb_rn rfl))
      · have h8 := jo_n c8 h
        refine jiL9 (p := 45) rfl jM150 jq150_43 ?_
        refine jw_if (p := 48) rfl jM150 jq150_45 (jc_lt hl9 jb_r0) (fun c17 => ?_) (fun c17 => ?_)
        · have h17 := jo_p c17 h8
          refine jiL9 (p := 123) rfl jM150 jq150_121 ?_
          refine jiL0 (p := 124) rfl jM150 jq150_123 ?_
          refine jw_ic (p := 127) rfl jM150 jq150_124 (jc_eq hl9 hl0) (fun c18 => ?_) (fun c18 => ?_)
          · have h18 := jo_p c18 h17
            refine jiL8 (p := 132) rfl jM150 jq150_130 ?_
            refine jw_iconst (p := 133) rfl jM150 jq150_132 ?_
            refine jaL2 (p := 134) rfl jM150 jq150_133 ?_
            refine jaL4 (p := 136) rfl jM150 jq150_134 ?_
            refine jaL5 (p := 138) rfl jM150 jq150_136 ?_
            refine jaL6 (p := 140) rfl jM150 jq150_138 ?_
            refine jaL7 (p := 142) rfl jM150 jq150_140 ?_
            refine jw_callS [(jb_v l8), (jb_v 0), (.ref 92), (.ref 94), (.ref 95), (.ref 96), (.ref 97)] jM150 jq150_142 rfl rfl rfl jM148 rfl rfl ?_
            obtain ⟨x19, b20, h20⟩ := jo_b h18
            refine jy148 hl8 (jb_rn rfl) b20 (fun σ19 s19 r19 => ?_) σ s
            show jb_w (d + 1) 150 145 [some (jb_v l0), some (jb_v l1), some (.ref 92), some (.ref 93), some (.ref 94), some (.ref 95), some (.ref 96), some (.ref 97), some (jb_v l8), some (jb_v l9), some (jb_v l10)] [(jb_v (x19.2))] σ19 Q
            refine jw_popI (p := 146) rfl jM150 jq150_145 ?_
            refine jiL8 (p := 148) rfl jM150 jq150_146 ?_
            refine jaL3 (p := 149) rfl jM150 jq150_148 ?_
            refine jaL4 (p := 151) rfl jM150 jq150_149 ?_
            refine jw_callS [(jb_v l8), (.ref 93), (.ref 94)] jM150 jq150_151 rfl rfl rfl jM147 rfl rfl ?_
            obtain ⟨x21, b22, h22⟩ := jo_b h20
            refine jy147 hl8 b22 (fun σ21 s21 => ?_) σ19 s19
            show jb_w (d + 1) 150 154 [some (jb_v l0), some (jb_v l1), some (.ref 92), some (.ref 93), some (.ref 94), some (.ref 95), some (.ref 96), some (.ref 97), some (jb_v l8), some (jb_v l9), some (jb_v l10)] [] σ21 Q
            refine jiL8 (p := 156) rfl jM150 jq150_154 ?_
            refine jiL0 (p := 157) rfl jM150 jq150_156 ?_
            refine jw_ic (p := 160) rfl jM150 jq150_157 (jc_ne hl8 hl0) (fun c23 => ?_) (fun c23 => ?_)
            · have h23 := jo_n c23 h22
              refine jaL4 (p := 165) rfl jM150 jq150_163 ?_
              refine jiL0 (p := 166) rfl jM150 jq150_165 ?_
              refine jw_iconst (p := 167) rfl jM150 jq150_166 ?_
              obtain ⟨c24, h24⟩ := jo_i h23
              refine jg_iast (p := 168) rfl jM150 jq150_167 (ja_94 s21.1) c24.1 c24.2 s21.g (by decide) (jb_rn rfl) ?_
              intro σ25 ts25
              have s25 := s21.g' ts25
              refine jw_goto jM150 jq150_168 ?_
              exact ih.1 hl0 hl1 h24 k σ25 s25
            · have h23 := jo_p (Decidable.byContradiction c23) h22
              refine jw_bipush (p := 162) rfl jM150 jq150_160 (by decide) ?_
              cases h23
              exact jw_iret jM150 jq150_162 (fun z => absurd z (by decide)) (k σ21 s21 (jb_rn rfl))
          · have h18 := jo_n c18 h17
            refine jw_bipush (p := 129) rfl jM150 jq150_127 (by decide) ?_
            cases h18
            exact jw_iret jM150 jq150_129 (fun z => absurd z (by decide)) (k σ s (jb_rn rfl))
        · have h17 := jo_n c17 h8
          refine jiL9 (p := 50) rfl jM150 jq150_48 ?_
          refine jiL0 (p := 51) rfl jM150 jq150_50 ?_
          refine jw_ic (p := 54) rfl jM150 jq150_51 (jc_eq hl9 hl0) (fun c26 => ?_) (fun c26 => ?_)
          · have h26 := jo_p c26 h17
            refine jiL9 (p := 123) rfl jM150 jq150_121 ?_
            refine jiL0 (p := 124) rfl jM150 jq150_123 ?_
            refine jw_ic (p := 127) rfl jM150 jq150_124 (jc_eq hl9 hl0) (fun _ => ?_) (fun z => absurd c26 z)
            refine jiL8 (p := 132) rfl jM150 jq150_130 ?_
            refine jw_iconst (p := 133) rfl jM150 jq150_132 ?_
            refine jaL2 (p := 134) rfl jM150 jq150_133 ?_
            refine jaL4 (p := 136) rfl jM150 jq150_134 ?_
            refine jaL5 (p := 138) rfl jM150 jq150_136 ?_
            refine jaL6 (p := 140) rfl jM150 jq150_138 ?_
            refine jaL7 (p := 142) rfl jM150 jq150_140 ?_
            refine jw_callS [(jb_v l8), (jb_v 0), (.ref 92), (.ref 94), (.ref 95), (.ref 96), (.ref 97)] jM150 jq150_142 rfl rfl rfl jM148 rfl rfl ?_
            obtain ⟨x27, b28, h28⟩ := jo_b h26
            refine jy148 hl8 (jb_rn rfl) b28 (fun σ27 s27 r27 => ?_) σ s
            show jb_w (d + 1) 150 145 [some (jb_v l0), some (jb_v l1), some (.ref 92), some (.ref 93), some (.ref 94), some (.ref 95), some (.ref 96), some (.ref 97), some (jb_v l8), some (jb_v l9), some (jb_v l10)] [(jb_v (x27.2))] σ27 Q
            refine jw_popI (p := 146) rfl jM150 jq150_145 ?_
            refine jiL8 (p := 148) rfl jM150 jq150_146 ?_
            refine jaL3 (p := 149) rfl jM150 jq150_148 ?_
            refine jaL4 (p := 151) rfl jM150 jq150_149 ?_
            refine jw_callS [(jb_v l8), (.ref 93), (.ref 94)] jM150 jq150_151 rfl rfl rfl jM147 rfl rfl ?_
            obtain ⟨x29, b30, h30⟩ := jo_b h28
            refine jy147 hl8 b30 (fun σ29 s29 => ?_) σ27 s27
            show jb_w (d + 1) 150 154 [some (jb_v l0), some (jb_v l1), some (.ref 92), some (.ref 93), some (.ref 94), some (.ref 95), some (.ref 96), some (.ref 97), some (jb_v l8), some (jb_v l9), some (jb_v l10)] [] σ29 Q
            refine jiL8 (p := 156) rfl jM150 jq150_154 ?_
            refine jiL0 (p := 157) rfl jM150 jq150_156 ?_
            refine jw_ic (p := 160) rfl jM150 jq150_157 (jc_ne hl8 hl0) (fun c31 => ?_) (fun c31 => ?_)
            · have h31 := jo_n c31 h30
              refine jaL4 (p := 165) rfl jM150 jq150_163 ?_
              refine jiL0 (p := 166) rfl jM150 jq150_165 ?_
              refine jw_iconst (p := 167) rfl jM150 jq150_166 ?_
              obtain ⟨c32, h32⟩ := jo_i h31
              refine jg_iast (p := 168) rfl jM150 jq150_167 (ja_94 s29.1) c32.1 c32.2 s29.g (by decide) (jb_rn rfl) ?_
              intro σ33 ts33
              have s33 := s29.g' ts33
              refine jw_goto jM150 jq150_168 ?_
              exact ih.1 hl0 hl1 h32 k σ33 s33
            · have h31 := jo_p (Decidable.byContradiction c31) h30
              refine jw_bipush (p := 162) rfl jM150 jq150_160 (by decide) ?_
              cases h31
              exact jw_iret jM150 jq150_162 (fun z => absurd z (by decide)) (k σ29 s29 (jb_rn rfl))
          · have h26 := jo_n c26 h17
            refine jaL4 (p := 56) rfl jM150 jq150_54 ?_
            refine jw_bipush (p := 58) rfl jM150 jq150_56 (by decide) ?_
            refine jiL9 (p := 60) rfl jM150 jq150_58 ?_
            refine jw_iadd (p := 61) rfl jM150 jq150_60 ?_
            obtain ⟨c34, h34⟩ := jo_i h26
            refine jg_iald (p := 62) rfl jM150 jq150_61 (ja_94 s.1) c34.1 c34.2 s.g (by decide) rfl ?_
            refine jaL4 (p := 64) rfl jM150 jq150_62 ?_
            refine jw_bipush (p := 66) rfl jM150 jq150_64 (by decide) ?_
            refine jiL8 (p := 68) rfl jM150 jq150_66 ?_
            refine jw_iadd (p := 69) rfl jM150 jq150_68 ?_
            obtain ⟨c35, h35⟩ := jo_i h34
            refine jg_iald (p := 70) rfl jM150 jq150_69 (ja_94 s.1) c35.1 c35.2 s.g (by decide) rfl ?_
            refine jw_ic (p := 73) rfl jM150 jq150_70 (jc_lt (s.r _ _) (s.r _ _)) (fun c36 => ?_) (fun c36 => ?_)
            · have h36 := jo_p c36 h35
              refine jiL9 (p := 101) rfl jM150 jq150_99 ?_
              refine jw_goto jM150 jq150_101 ?_
              refine jiS8 (p := 108) rfl jM150 jq150_106 ?_
              refine jaL4 (p := 110) rfl jM150 jq150_108 ?_
              refine jiL9 (p := 112) rfl jM150 jq150_110 ?_
              obtain ⟨c37, h37⟩ := jo_i h36
              refine jg_iald (p := 113) rfl jM150 jq150_112 (ja_94 s.1) c37.1 c37.2 s.g (by decide) rfl ?_
              refine jiS9 (p := 115) rfl jM150 jq150_113 ?_
              refine jiI10 (p := 118) rfl jM150 jq150_115 ?_
              refine jw_goto jM150 jq150_118 ?_
              obtain ⟨c38, h38⟩ := jo_i h37
              exact ih.2 hl0 hl1 hl9 (s.r _ _) c38 h38 k σ s
            · have h36 := jo_n c36 h35
              refine jaL4 (p := 75) rfl jM150 jq150_73 ?_
              refine jw_bipush (p := 77) rfl jM150 jq150_75 (by decide) ?_
              refine jiL9 (p := 79) rfl jM150 jq150_77 ?_
              refine jw_iadd (p := 80) rfl jM150 jq150_79 ?_
              refine jg_iald (p := 81) rfl jM150 jq150_80 (ja_94 s.1) c34.1 c34.2 s.g (by decide) rfl ?_
              refine jaL4 (p := 83) rfl jM150 jq150_81 ?_
              refine jw_bipush (p := 85) rfl jM150 jq150_83 (by decide) ?_
              refine jiL8 (p := 87) rfl jM150 jq150_85 ?_
              refine jw_iadd (p := 88) rfl jM150 jq150_87 ?_
              refine jg_iald (p := 89) rfl jM150 jq150_88 (ja_94 s.1) c35.1 c35.2 s.g (by decide) rfl ?_
              refine jw_ic (p := 92) rfl jM150 jq150_89 (jc_ne (s.r _ _) (s.r _ _)) (fun c39 => ?_) (fun c39 => ?_)
              · have h39 := jo_n c39 h36
                refine jiL8 (p := 106) rfl jM150 jq150_104 ?_
                refine jiS8 (p := 108) rfl jM150 jq150_106 ?_
                refine jaL4 (p := 110) rfl jM150 jq150_108 ?_
                refine jiL9 (p := 112) rfl jM150 jq150_110 ?_
                obtain ⟨c40, h40⟩ := jo_i h39
                refine jg_iald (p := 113) rfl jM150 jq150_112 (ja_94 s.1) c40.1 c40.2 s.g (by decide) rfl ?_
                refine jiS9 (p := 115) rfl jM150 jq150_113 ?_
                refine jiI10 (p := 118) rfl jM150 jq150_115 ?_
                refine jw_goto jM150 jq150_118 ?_
                obtain ⟨c41, h41⟩ := jo_i h40
                exact ih.2 hl0 hl1 hl8 (s.r _ _) c41 h41 k σ s
              · have h39 := jo_p (Decidable.byContradiction c39) h36
                refine jiL9 (p := 94) rfl jM150 jq150_92 ?_
                refine jiL8 (p := 96) rfl jM150 jq150_94 ?_
                refine jw_ic (p := 99) rfl jM150 jq150_96 (jc_le hl9 hl8) (fun c42 => ?_) (fun c42 => ?_)
                · have h42 := jo_p c42 h39
                  refine jiL8 (p := 106) rfl jM150 jq150_104 ?_
                  refine jiS8 (p := 108) rfl jM150 jq150_106 ?_
                  refine jaL4 (p := 110) rfl jM150 jq150_108 ?_
                  refine jiL9 (p := 112) rfl jM150 jq150_110 ?_
                  obtain ⟨c43, h43⟩ := jo_i h42
                  refine jg_iald (p := 113) rfl jM150 jq150_112 (ja_94 s.1) c43.1 c43.2 s.g (by decide) rfl ?_
                  refine jiS9 (p := 115) rfl jM150 jq150_113 ?_
                  refine jiI10 (p := 118) rfl jM150 jq150_115 ?_
                  refine jw_goto jM150 jq150_118 ?_
                  obtain ⟨c44, h44⟩ := jo_i h43
                  exact ih.2 hl0 hl1 hl8 (s.r _ _) c44 h44 k σ s
                · have h42 := jo_n c42 h39
                  refine jiL9 (p := 101) rfl jM150 jq150_99 ?_
                  refine jw_goto jM150 jq150_101 ?_
                  refine jiS8 (p := 108) rfl jM150 jq150_106 ?_
                  refine jaL4 (p := 110) rfl jM150 jq150_108 ?_
                  refine jiL9 (p := 112) rfl jM150 jq150_110 ?_
                  obtain ⟨c45, h45⟩ := jo_i h42
                  refine jg_iald (p := 113) rfl jM150 jq150_112 (ja_94 s.1) c45.1 c45.2 s.g (by decide) rfl ?_
                  refine jiS9 (p := 115) rfl jM150 jq150_113 ?_
                  refine jiI10 (p := 118) rfl jM150 jq150_115 ?_
                  refine jw_goto jM150 jq150_118 ?_
                  obtain ⟨c46, h46⟩ := jo_i h45
                  exact ih.2 hl0 hl1 hl9 (s.r _ _) c46 h46 k σ s

def fl150 (K : jc_K) (G : jg_G) (l0 : Int) (l1 : Int) : Option ((jc_K × jg_G) × Int) := if 0 ≤ l0 ∧ l0 < 16 then fl150_s jo_N 5 K (jg_u G 94 l0 (-1)) l0 l1 0 0 0 else none
theorem jy150 {d : Nat} {L : Nat} {xs : Nat → Int32} {Q : ib_O → Prop} {K : jc_K} {G : jg_G} {l0 : Int} {l1 : Int} (hl0 : jb_r l0) (hl1 : jb_r l1) {r : (jc_K × jg_G) × Int} (h : fl150 K G l0 l1 = some r) (k : ∀ σ, jy_S L xs r.1.1 r.1.2 σ → jb_r r.2 → Q (.inl (some (jb_v r.2)), σ)) : jy_W L xs K G (d + 1) 150 0 [some (jb_v l0), some (jb_v l1), some (.ref 92), some (.ref 93), some (.ref 94), some (.ref 95), some (.ref 96), some (.ref 97), none, none, none] [] Q := by
  intro σ s
  unfold fl150 at h
  refine jaL4 (p := 2) rfl jM150 jq150_0 ?_
  refine jiL0 (p := 3) rfl jM150 jq150_2 ?_
  refine jw_iconst (p := 4) rfl jM150 jq150_3 ?_
  obtain ⟨c1, h1⟩ := jo_i h
  refine jg_iast (p := 5) rfl jM150 jq150_4 (ja_94 s.1) c1.1 c1.2 s.g (by decide) (jb_rn rfl) ?_
  intro σ2 ts2
  have s2 := s.g' ts2
  exact (jy150_s jo_N).1 hl0 hl1 h1 k σ2 s2
-- 151 same need 8
def fl151_239 : Nat → jc_K → jg_G → Int → Int → Int → Int → Int → Int → Option ((jc_K × jg_G) × Int)
  | 0, _, _, _, _, _, _, _, _ => none
  | m + 1, K, G, l1, l5, l6, l7, l8, l9 => (jy_ok (fc121 K l7 2)).bind fun x1 => if x1.2 ≤ l9 then (if l5 = 0 then (some ((x1.1, G), 0)) else (if 0 ≤ l6 ∧ l6 < 64 then if l8 = G 92 l6 then (some ((x1.1, G), 1)) else (some ((x1.1, G), 0)) else none)) else (if l5 = 0 then (some ((x1.1, G), 0)) else ((jy_ok (fc122 (x1.1) l7 l9)).bind fun x8 => if 0 ≤ (x8.2) then if (x8.2) / 1000 = l6 then ((jy_ok (fc122 (x8.1) l7 l9)).bind fun x13 => if 0 ≤ (x13.2) then if -2147483648 ≤ (l9 + 1) ∧ (l9 + 1) < 2147483648 then fl151_239 m (x13.1) G l1 l5 l6 l7 ((x13.2) % 1000) (l9 + 1) else none else none) else (if -2147483648 ≤ (l9 + 1) ∧ (l9 + 1) < 2147483648 then fl151_239 m (x8.1) G l1 l5 l6 l7 l8 (l9 + 1) else none) else none))
theorem jy151_239 {d : Nat} {L : Nat} {xs : Nat → Int32} {Q : ib_O → Prop} : ∀ (m : Nat) {K : jc_K} {G : jg_G} {l1 : Int} {l5 : Int} {l6 : Int} {l7 : Int} {l8 : Int} {l9 : Int} {o10 : Option Value} (hl1 : jb_r l1) (hl5 : jb_r l5) (hl6 : jb_r l6) (hl7 : jb_r l7) (hl8 : jb_r l8) (hl9 : jb_r l9) {r : (jc_K × jg_G) × Int} (h : fl151_239 m K G l1 l5 l6 l7 l8 l9 = some r) (k : ∀ σ, jy_S L xs r.1.1 r.1.2 σ → jb_r r.2 → Q (.inl (some (jb_v r.2)), σ)), jy_W L xs K G (d + 8) 151 239 [some (.ref 2), some (jb_v l1), some (.ref 92), some (.ref 93), some (.ref 94), some (jb_v l5), some (jb_v l6), some (jb_v l7), some (jb_v l8), some (jb_v l9), o10] [] Q := by
  intro m
  induction m with
  | zero =>
    intro K G l1 l5 l6 l7 l8 l9 o10 hl1 hl5 hl6 hl7 hl8 hl9 r h k
    cases h
  | succ m ih =>
    intro K G l1 l5 l6 l7 l8 l9 o10 hl1 hl5 hl6 hl7 hl8 hl9 r h k σ s
    unfold fl151_239 at h
    refine jiL9 (p := 241) rfl jM151 jq151_239 ?_
    refine jaL0 (p := 242) rfl jM151 jq151_241 ?_
    refine jiL7 (p := 244) rfl jM151 jq151_242 ?_
    refine jw_iconst (p := 245) rfl jM151 jq151_244 ?_
    refine jw_callV [(jb_v l7), (jb_v 2)] jM151 jq151_245 rfl rfl (jo_2 s.1) rfl jM121 rfl rfl ?_
    obtain ⟨x1, b2, h2⟩ := jo_b h
    refine jd121 hl7 (jb_rn rfl) (jy_okb b2) (fun σ1 ts1 r1 => ?_) σ s.c
    have s1 := s.c' ts1
    have r1 := r1 _ rfl
    show jb_w (d + 8) 151 248 [some (.ref 2), some (jb_v l1), some (.ref 92), some (.ref 93), some (.ref 94), some (jb_v l5), some (jb_v l6), some (jb_v l7), some (jb_v l8), some (jb_v l9), o10] [(jb_v (x1.2)), (jb_v l9)] σ1 Q
    refine jw_ic (p := 251) rfl jM151 jq151_248 (jc_ge hl9 r1) (fun c3 => ?_) (fun c3 => ?_)
    · have h3 := jo_p c3 h2
      refine jiL5 (p := 300) rfl jM151 jq151_298 ?_
      refine jw_if (p := 303) rfl jM151 jq151_300 (jc_eq hl5 jb_r0) (fun c4 => ?_) (fun c4 => ?_)
      · have h4 := jo_p c4 h3
        refine jw_iconst (p := 317) rfl jM151 jq151_316 ?_
        cases h4
        exact jw_iret jM151 jq151_317 (fun _ => Or.inl rfl) (k σ1 s1 (jb_rn rfl))
      · have h4 := jo_n c4 h3
        refine jiL8 (p := 305) rfl jM151 jq151_303 ?_
        refine jaL2 (p := 306) rfl jM151 jq151_305 ?_
        refine jiL6 (p := 308) rfl jM151 jq151_306 ?_
        obtain ⟨c5, h5⟩ := jo_i h4
        refine jg_iald (p := 309) rfl jM151 jq151_308 (ja_92 s1.1) c5.1 c5.2 s1.g (by decide) rfl ?_
        refine jw_ic (p := 312) rfl jM151 jq151_309 (jc_ne hl8 (s1.r _ _)) (fun c6 => ?_) (fun c6 => ?_)
        · have h6 := jo_n c6 h5
          refine jw_iconst (p := 317) rfl jM151 jq151_316 ?_
          cases h6
          exact jw_iret jM151 jq151_317 (fun _ => Or.inl rfl) (k σ1 s1 (jb_rn rfl))
        · have h6 := jo_p (Decidable.byContradiction c6) h5
          refine jw_iconst (p := 313) rfl jM151 jq151_312 ?_
          refine jw_goto jM151 jq151_313 ?_
          cases h6
          exact jw_iret jM151 jq151_317 (fun _ => Or.inr rfl) (k σ1 s1 (jb_rn rfl))
    · have h3 := jo_n c3 h2
      refine jiL5 (p := 253) rfl jM151 jq151_251 ?_
      refine jw_if (p := 256) rfl jM151 jq151_253 (jc_eq hl5 jb_r0) (fun c7 => ?_) (fun c7 => ?_)
      · have h7 := jo_p c7 h3
        refine jiL5 (p := 300) rfl jM151 jq151_298 ?_
        refine jw_if (p := 303) rfl jM151 jq151_300 (jc_eq hl5 jb_r0) (fun _ => ?_) (fun z => absurd c7 z)
        refine jw_iconst (p := 317) rfl jM151 jq151_316 ?_
        cases h7
        exact jw_iret jM151 jq151_317 (fun _ => Or.inl rfl) (k σ1 s1 (jb_rn rfl))
      · have h7 := jo_n c7 h3
        refine jaL0 (p := 257) rfl jM151 jq151_256 ?_
        refine jiL7 (p := 259) rfl jM151 jq151_257 ?_
        refine jiL9 (p := 261) rfl jM151 jq151_259 ?_
        refine jw_callV [(jb_v l7), (jb_v l9)] jM151 jq151_261 rfl rfl (jo_2 s1.1) rfl jM122 rfl rfl ?_
        obtain ⟨x8, b9, h9⟩ := jo_b h7
        refine jd122 hl7 hl9 (jy_okb b9) (fun σ8 ts8 r8 => ?_) σ1 s1.c
        have s8 := s1.c' ts8
        have r8 := r8 _ rfl
        show jb_w (d + 8) 151 264 [some (.ref 2), some (jb_v l1), some (.ref 92), some (.ref 93), some (.ref 94), some (jb_v l5), some (jb_v l6), some (jb_v l7), some (jb_v l8), some (jb_v l9), o10] [(jb_v (x8.2))] σ8 Q
        refine jw_sipush (p := 267) rfl jM151 jq151_264 (by decide) ?_
        obtain ⟨c10, h10⟩ := jo_i h9
        refine jw_idiv (p := 268) rfl jM151 jq151_267 c10 r8 (by decide) (jb_rn rfl) ?_
        refine jiL6 (p := 270) rfl jM151 jq151_268 ?_
        refine jw_ic (p := 273) rfl jM151 jq151_270 (jc_ne (jb_r_div c10 r8 (by decide)) hl6) (fun c11 => ?_) (fun c11 => ?_)
        · have h11 := jo_n c11 h10
          refine jiL8 (p := 290) rfl jM151 jq151_288 ?_
          refine jiS8 (p := 292) rfl jM151 jq151_290 ?_
          refine jiI9 (p := 295) rfl jM151 jq151_292 ?_
          refine jw_goto jM151 jq151_295 ?_
          obtain ⟨c12, h12⟩ := jo_i h11
          exact ih hl1 hl5 hl6 hl7 hl8 c12 h12 k σ8 s8
        · have h11 := jo_p (Decidable.byContradiction c11) h10
          refine jaL0 (p := 274) rfl jM151 jq151_273 ?_
          refine jiL7 (p := 276) rfl jM151 jq151_274 ?_
          refine jiL9 (p := 278) rfl jM151 jq151_276 ?_
          refine jw_callV [(jb_v l7), (jb_v l9)] jM151 jq151_278 rfl rfl (jo_2 s8.1) rfl jM122 rfl rfl ?_
          obtain ⟨x13, b14, h14⟩ := jo_b h11
          refine jd122 hl7 hl9 (jy_okb b14) (fun σ13 ts13 r13 => ?_) σ8 s8.c
          have s13 := s8.c' ts13
          have r13 := r13 _ rfl
          show jb_w (d + 8) 151 281 [some (.ref 2), some (jb_v l1), some (.ref 92), some (.ref 93), some (.ref 94), some (jb_v l5), some (jb_v l6), some (jb_v l7), some (jb_v l8), some (jb_v l9), o10] [(jb_v (x13.2))] σ13 Q
          refine jw_sipush (p := 284) rfl jM151 jq151_281 (by decide) ?_
          obtain ⟨c15, h15⟩ := jo_i h14
          refine jw_irem (p := 285) rfl jM151 jq151_284 c15 r13 (by decide) (jb_rn rfl) ?_
          refine jw_goto jM151 jq151_285 ?_
          refine jiS8 (p := 292) rfl jM151 jq151_290 ?_
          refine jiI9 (p := 295) rfl jM151 jq151_292 ?_
          refine jw_goto jM151 jq151_295 ?_
          obtain ⟨c16, h16⟩ := jo_i h15
          exact ih hl1 hl5 hl6 hl7 (jb_r_rem c15 r13 (by decide)) c16 h16 k σ13 s13
def fl151_s : Nat → Nat → jc_K → jg_G → Int → Int → Int → Int → Int → Int → Int → Option ((jc_K × jg_G) × Int)
  | 0, _, _, _, _, _, _, _, _, _, _ => none
  | m + 1, t, K, G, l1, l5, l6, l7, l8, l9, l10 => if t = 133 then (if 24 ≤ l8 then (fl151_239 jo_N K G l1 l5 l6 l7 (-1) 0) else (if l5 = 0 then (fl151_239 jo_N K G l1 l5 l6 l7 (-1) 0) else ((jy_ok (fc121 K l7 0)).bind fun x3 => if x3.2 = 2 then ((jy_ok (fc122 (x3.1) l7 0)).bind fun x6 => if 0 ≤ (x6.2) then fl151_s m 171 (x6.1) G l1 l5 l6 l7 l8 ((x6.2) % 100) 1 else none) else (fl151_239 jo_N (x3.1) G l1 l5 l6 l7 (-1) 0)))) else if t = 171 then ((jy_ok (fc121 K l7 2)).bind fun x9 => if x9.2 ≤ l10 then (if -2147483648 ≤ (l8 + 1) ∧ (l8 + 1) < 2147483648 then fl151_s m 133 (x9.1) G l1 l5 l6 l9 (l8 + 1) 0 0 else none) else ((jy_ok (fc122 (x9.1) l7 l10)).bind fun x13 => if 0 ≤ (x13.2) then if l6 < (x13.2) / 100 then (if -2147483648 ≤ (l10 + 1) ∧ (l10 + 1) < 2147483648 then fl151_s m 171 (x13.1) G l1 l5 l6 l7 l8 l9 (l10 + 1) else none) else ((jy_ok (fc122 (x13.1) l7 l10)).bind fun x18 => if 0 ≤ (x18.2) then if -2147483648 ≤ (l10 + 1) ∧ (l10 + 1) < 2147483648 then fl151_s m 171 (x18.1) G l1 l5 l6 l7 l8 ((x18.2) % 100) (l10 + 1) else none else none) else none)) else none
theorem jy151_s {d : Nat} {L : Nat} {xs : Nat → Int32} {Q : ib_O → Prop} : ∀ (m : Nat), (∀ {K : jc_K} {G : jg_G} {l1 : Int} {l5 : Int} {l6 : Int} {l7 : Int} {l8 : Int} {o9 : Option Value} {o10 : Option Value} (hl1 : jb_r l1) (hl5 : jb_r l5) (hl6 : jb_r l6) (hl7 : jb_r l7) (hl8 : jb_r l8) {r : (jc_K × jg_G) × Int} (h : fl151_s m 133 K G l1 l5 l6 l7 l8 0 0 = some r) (k : ∀ σ, jy_S L xs r.1.1 r.1.2 σ → jb_r r.2 → Q (.inl (some (jb_v r.2)), σ)), jy_W L xs K G (d + 8) 151 133 [some (.ref 2), some (jb_v l1), some (.ref 92), some (.ref 93), some (.ref 94), some (jb_v l5), some (jb_v l6), some (jb_v l7), some (jb_v l8), o9, o10] [] Q) ∧ (∀ {K : jc_K} {G : jg_G} {l1 : Int} {l5 : Int} {l6 : Int} {l7 : Int} {l8 : Int} {l9 : Int} {l10 : Int} (hl1 : jb_r l1) (hl5 : jb_r l5) (hl6 : jb_r l6) (hl7 : jb_r l7) (hl8 : jb_r l8) (hl9 : jb_r l9) (hl10 : jb_r l10) {r : (jc_K × jg_G) × Int} (h : fl151_s m 171 K G l1 l5 l6 l7 l8 l9 l10 = some r) (k : ∀ σ, jy_S L xs r.1.1 r.1.2 σ → jb_r r.2 → Q (.inl (some (jb_v r.2)), σ)), jy_W L xs K G (d + 8) 151 171 [some (.ref 2), some (jb_v l1), some (.ref 92), some (.ref 93), some (.ref 94), some (jb_v l5), some (jb_v l6), some (jb_v l7), some (jb_v l8), some (jb_v l9), some (jb_v l10)] [] Q) := by
  intro m
  induction m with
  | zero =>
    refine ⟨?_, ?_⟩
    · intro K G l1 l5 l6 l7 l8 o9 o10 hl1 hl5 hl6 hl7 hl8 r h k
      cases h
    · intro K G l1 l5 l6 l7 l8 l9 l10 hl1 hl5 hl6 hl7 hl8 hl9 hl10 r h k
      cases h
  | succ m ih =>
    refine ⟨?_, ?_⟩
    · intro K G l1 l5 l6 l7 l8 o9 o10 hl1 hl5 hl6 hl7 hl8 r h k σ s
      unfold fl151_s at h
      have h := jo_p rfl h
      refine jiL8 (p := 135) rfl jM151 jq151_133 ?_
      refine jw_bipush (p := 137) rfl jM151 jq151_135 (by decide) ?_
      refine jw_ic (p := 140) rfl jM151 jq151_137 (jc_ge hl8 (jb_rn rfl)) (fun c1 => ?_) (fun c1 => ?_)
      · have h1 := jo_p c1 h
        refine jw_iconst (p := 234) rfl jM151 jq151_233 ?_
        refine jiS8 (p := 236) rfl jM151 jq151_234 ?_
        refine jw_iconst (p := 237) rfl jM151 jq151_236 ?_
        refine jiS9 (p := 239) rfl jM151 jq151_237 ?_
        exact jy151_239 jo_N hl1 hl5 hl6 hl7 (jb_rn rfl) (jb_rn rfl) h1 k σ s
      · have h1 := jo_n c1 h
        refine jiL5 (p := 142) rfl jM151 jq151_140 ?_
        refine jw_if (p := 145) rfl jM151 jq151_142 (jc_eq hl5 jb_r0) (fun c2 => ?_) (fun c2 => ?_)
        · have h2 := jo_p c2 h1
          refine jw_iconst (p := 234) rfl jM151 jq151_233 ?_
          refine jiS8 (p := 236) rfl jM151 jq151_234 ?_
          refine jw_iconst (p := 237) rfl jM151 jq151_236 ?_
          refine jiS9 (p := 239) rfl jM151 jq151_237 ?_
          exact jy151_239 jo_N hl1 hl5 hl6 hl7 (jb_rn rfl) (jb_rn rfl) h2 k σ s
        · have h2 := jo_n c2 h1
          refine jaL0 (p := 146) rfl jM151 jq151_145 ?_
          refine jiL7 (p := 148) rfl jM151 jq151_146 ?_
          refine jw_iconst (p := 149) rfl jM151 jq151_148 ?_
          refine jw_callV [(jb_v l7), (jb_v 0)] jM151 jq151_149 rfl rfl (jo_2 s.1) rfl jM121 rfl rfl ?_
          obtain ⟨x3, b4, h4⟩ := jo_b h2
          refine jd121 hl7 (jb_rn rfl) (jy_okb b4) (fun σ3 ts3 r3 => ?_) σ s.c
          have s3 := s.c' ts3
          have r3 := r3 _ rfl
          show jb_w (d + 8) 151 152 [some (.ref 2), some (jb_v l1), some (.ref 92), some (.ref 93), some (.ref 94), some (jb_v l5), some (jb_v l6), some (jb_v l7), some (jb_v l8), o9, o10] [(jb_v (x3.2))] σ3 Q
          refine jw_iconst (p := 153) rfl jM151 jq151_152 ?_
          refine jw_ic (p := 156) rfl jM151 jq151_153 (jc_ne r3 (jb_rn rfl)) (fun c5 => ?_) (fun c5 => ?_)
          · have h5 := jo_n c5 h4
            refine jw_iconst (p := 234) rfl jM151 jq151_233 ?_
            refine jiS8 (p := 236) rfl jM151 jq151_234 ?_
            refine jw_iconst (p := 237) rfl jM151 jq151_236 ?_
            refine jiS9 (p := 239) rfl jM151 jq151_237 ?_
            exact jy151_239 jo_N hl1 hl5 hl6 hl7 (jb_rn rfl) (jb_rn rfl) h5 k σ3 s3
          · have h5 := jo_p (Decidable.byContradiction c5) h4
            refine jaL0 (p := 157) rfl jM151 jq151_156 ?_
            refine jiL7 (p := 159) rfl jM151 jq151_157 ?_
            refine jw_iconst (p := 160) rfl jM151 jq151_159 ?_
            refine jw_callV [(jb_v l7), (jb_v 0)] jM151 jq151_160 rfl rfl (jo_2 s3.1) rfl jM122 rfl rfl ?_
            obtain ⟨x6, b7, h7⟩ := jo_b h5
            refine jd122 hl7 (jb_rn rfl) (jy_okb b7) (fun σ6 ts6 r6 => ?_) σ3 s3.c
            have s6 := s3.c' ts6
            have r6 := r6 _ rfl
            show jb_w (d + 8) 151 163 [some (.ref 2), some (jb_v l1), some (.ref 92), some (.ref 93), some (.ref 94), some (jb_v l5), some (jb_v l6), some (jb_v l7), some (jb_v l8), o9, o10] [(jb_v (x6.2))] σ6 Q
            refine jw_bipush (p := 165) rfl jM151 jq151_163 (by decide) ?_
            obtain ⟨c8, h8⟩ := jo_i h7
            refine jw_irem (p := 166) rfl jM151 jq151_165 c8 r6 (by decide) (jb_rn rfl) ?_
            refine jiS9 (p := 168) rfl jM151 jq151_166 ?_
            refine jw_iconst (p := 169) rfl jM151 jq151_168 ?_
            refine jiS10 (p := 171) rfl jM151 jq151_169 ?_
            exact ih.2 hl1 hl5 hl6 hl7 hl8 (jb_r_rem c8 r6 (by decide)) (jb_rn rfl) h8 k σ6 s6
    · intro K G l1 l5 l6 l7 l8 l9 l10 hl1 hl5 hl6 hl7 hl8 hl9 hl10 r h k σ s
      unfold fl151_s at h
      have h := jo_p rfl (jo_n (by decide) h)
      refine jiL10 (p := 173) rfl jM151 jq151_171 ?_
      refine jaL0 (p := 174) rfl jM151 jq151_173 ?_
      refine jiL7 (p := 176) rfl jM151 jq151_174 ?_
      refine jw_iconst (p := 177) rfl jM151 jq151_176 ?_
      refine jw_callV [(jb_v l7), (jb_v 2)] jM151 jq151_177 rfl rfl (jo_2 s.1) rfl jM121 rfl rfl ?_
      obtain ⟨x9, b10, h10⟩ := jo_b h
      refine jd121 hl7 (jb_rn rfl) (jy_okb b10) (fun σ9 ts9 r9 => ?_) σ s.c
      have s9 := s.c' ts9
      have r9 := r9 _ rfl
      show jb_w (d + 8) 151 180 [some (.ref 2), some (jb_v l1), some (.ref 92), some (.ref 93), some (.ref 94), some (jb_v l5), some (jb_v l6), some (jb_v l7), some (jb_v l8), some (jb_v l9), some (jb_v l10)] [(jb_v (x9.2)), (jb_v l10)] σ9 Q
      refine jw_ic (p := 183) rfl jM151 jq151_180 (jc_ge hl10 r9) (fun c11 => ?_) (fun c11 => ?_)
      · have h11 := jo_p c11 h10
        refine jiL9 (p := 225) rfl jM151 jq151_223 ?_
        refine jiS7 (p := 227) rfl jM151 jq151_225 ?_
        refine jiI8 (p := 230) rfl jM151 jq151_227 ?_
        refine jw_goto jM151 jq151_230 ?_
        obtain ⟨c12, h12⟩ := jo_i h11
        exact ih.1 hl1 hl5 hl6 hl9 c12 h12 k σ9 s9
      · have h11 := jo_n c11 h10
        refine jaL0 (p := 184) rfl jM151 jq151_183 ?_
        refine jiL7 (p := 186) rfl jM151 jq151_184 ?_
        refine jiL10 (p := 188) rfl jM151 jq151_186 ?_
        refine jw_callV [(jb_v l7), (jb_v l10)] jM151 jq151_188 rfl rfl (jo_2 s9.1) rfl jM122 rfl rfl ?_
        obtain ⟨x13, b14, h14⟩ := jo_b h11
        refine jd122 hl7 hl10 (jy_okb b14) (fun σ13 ts13 r13 => ?_) σ9 s9.c
        have s13 := s9.c' ts13
        have r13 := r13 _ rfl
        show jb_w (d + 8) 151 191 [some (.ref 2), some (jb_v l1), some (.ref 92), some (.ref 93), some (.ref 94), some (jb_v l5), some (jb_v l6), some (jb_v l7), some (jb_v l8), some (jb_v l9), some (jb_v l10)] [(jb_v (x13.2))] σ13 Q
        refine jw_bipush (p := 193) rfl jM151 jq151_191 (by decide) ?_
        obtain ⟨c15, h15⟩ := jo_i h14
        refine jw_idiv (p := 194) rfl jM151 jq151_193 c15 r13 (by decide) (jb_rn rfl) ?_
        refine jiL6 (p := 196) rfl jM151 jq151_194 ?_
        refine jw_ic (p := 199) rfl jM151 jq151_196 (jc_gt (jb_r_div c15 r13 (by decide)) hl6) (fun c16 => ?_) (fun c16 => ?_)
        · have h16 := jo_p c16 h15
          refine jiL9 (p := 215) rfl jM151 jq151_213 ?_
          refine jiS9 (p := 217) rfl jM151 jq151_215 ?_
          refine jiI10 (p := 220) rfl jM151 jq151_217 ?_
          refine jw_goto jM151 jq151_220 ?_
          obtain ⟨c17, h17⟩ := jo_i h16
          exact ih.2 hl1 hl5 hl6 hl7 hl8 hl9 c17 h17 k σ13 s13
        · have h16 := jo_n c16 h15
          refine jaL0 (p := 200) rfl jM151 jq151_199 ?_
          refine jiL7 (p := 202) rfl jM151 jq151_200 ?_
          refine jiL10 (p := 204) rfl jM151 jq151_202 ?_
          refine jw_callV [(jb_v l7), (jb_v l10)] jM151 jq151_204 rfl rfl (jo_2 s13.1) rfl jM122 rfl rfl ?_
          obtain ⟨x18, b19, h19⟩ := jo_b h16
          refine jd122 hl7 hl10 (jy_okb b19) (fun σ18 ts18 r18 => ?_) σ13 s13.c
          have s18 := s13.c' ts18
          have r18 := r18 _ rfl
          show jb_w (d + 8) 151 207 [some (.ref 2), some (jb_v l1), some (.ref 92), some (.ref 93), some (.ref 94), some (jb_v l5), some (jb_v l6), some (jb_v l7), some (jb_v l8), some (jb_v l9), some (jb_v l10)] [(jb_v (x18.2))] σ18 Q
          refine jw_bipush (p := 209) rfl jM151 jq151_207 (by decide) ?_
          obtain ⟨c20, h20⟩ := jo_i h19
          refine jw_irem (p := 210) rfl jM151 jq151_209 c20 r18 (by decide) (jb_rn rfl) ?_
          refine jw_goto jM151 jq151_210 ?_
          refine jiS9 (p := 217) rfl jM151 jq151_215 ?_
          refine jiI10 (p := 220) rfl jM151 jq151_217 ?_
          refine jw_goto jM151 jq151_220 ?_
          obtain ⟨c21, h21⟩ := jo_i h20
          exact ih.2 hl1 hl5 hl6 hl7 hl8 (jb_r_rem c20 r18 (by decide)) c21 h21 k σ18 s18

def fl151_81 : Nat → jc_K → jg_G → Int → Int → Int → Option ((jc_K × jg_G) × Int)
  | 0, _, _, _, _, _ => none
  | m + 1, K, G, l1, l5, l6 => if 4 ≤ l6 then (jo_l (jl_low l1 (32 : Int)) fun x2 => fl151_s jo_N 133 K G l1 l5 x2 0 0 0 0) else (if l5 = 0 then (jo_l (jl_low l1 (32 : Int)) fun x5 => fl151_s jo_N 133 K G l1 l5 x5 0 0 0 0) else ((jy_ok (fc130 K l6)).bind fun x7 => if 0 ≤ l6 ∧ l6 < 16 then if x7.2 = G 94 l6 then (if -2147483648 ≤ (l6 + 1) ∧ (l6 + 1) < 2147483648 then fl151_81 m (x7.1) G l1 1 (l6 + 1) else none) else (if -2147483648 ≤ (l6 + 1) ∧ (l6 + 1) < 2147483648 then fl151_81 m (x7.1) G l1 0 (l6 + 1) else none) else none))
theorem jy151_81 {d : Nat} {L : Nat} {xs : Nat → Int32} {Q : ib_O → Prop} : ∀ (m : Nat) {K : jc_K} {G : jg_G} {l1 : Int} {l5 : Int} {l6 : Int} (hl1 : jb_r l1) (hl5 : jb_r l5) (hl6 : jb_r l6) {r : (jc_K × jg_G) × Int} (h : fl151_81 m K G l1 l5 l6 = some r) (k : ∀ σ, jy_S L xs r.1.1 r.1.2 σ → jb_r r.2 → Q (.inl (some (jb_v r.2)), σ)), jy_W L xs K G (d + 8) 151 81 [some (.ref 2), some (jb_v l1), some (.ref 92), some (.ref 93), some (.ref 94), some (jb_v l5), some (jb_v l6), none, none, none, none] [] Q := by
  intro m
  induction m with
  | zero =>
    intro K G l1 l5 l6 hl1 hl5 hl6 r h k
    cases h
  | succ m ih =>
    intro K G l1 l5 l6 hl1 hl5 hl6 r h k σ s
    unfold fl151_81 at h
    refine jiL6 (p := 83) rfl jM151 jq151_81 ?_
    refine jw_iconst (p := 84) rfl jM151 jq151_83 ?_
    refine jw_ic (p := 87) rfl jM151 jq151_84 (jc_ge hl6 (jb_rn rfl)) (fun c1 => ?_) (fun c1 => ?_)
    · have h1 := jo_p c1 h
      refine jiL1 (p := 120) rfl jM151 jq151_119 ?_
      refine jw_bipush (p := 122) rfl jM151 jq151_120 (by decide) ?_
      refine jw_callS [(jb_v l1), (jb_v 32)] jM151 jq151_122 rfl rfl rfl jM146 rfl rfl ?_
      obtain ⟨x2, e3, h3⟩ := jo_lb h1
      refine jy_low hl1 (by decide) (jb_rn rfl) (fun r2 => ?_) s
      rw [e3] at r2 ⊢
      show jb_w (d + 8) 151 125 [some (.ref 2), some (jb_v l1), some (.ref 92), some (.ref 93), some (.ref 94), some (jb_v l5), some (jb_v l6), none, none, none, none] [(jb_v x2)] σ Q
      refine jiS6 (p := 127) rfl jM151 jq151_125 ?_
      refine jw_iconst (p := 128) rfl jM151 jq151_127 ?_
      refine jiS7 (p := 130) rfl jM151 jq151_128 ?_
      refine jw_iconst (p := 131) rfl jM151 jq151_130 ?_
      refine jiS8 (p := 133) rfl jM151 jq151_131 ?_
      exact (jy151_s jo_N).1 hl1 hl5 r2 (jb_rn rfl) (jb_rn rfl) h3 k σ s
    · have h1 := jo_n c1 h
      refine jiL5 (p := 89) rfl jM151 jq151_87 ?_
      refine jw_if (p := 92) rfl jM151 jq151_89 (jc_eq hl5 jb_r0) (fun c4 => ?_) (fun c4 => ?_)
      · have h4 := jo_p c4 h1
        refine jiL1 (p := 120) rfl jM151 jq151_119 ?_
        refine jw_bipush (p := 122) rfl jM151 jq151_120 (by decide) ?_
        refine jw_callS [(jb_v l1), (jb_v 32)] jM151 jq151_122 rfl rfl rfl jM146 rfl rfl ?_
        obtain ⟨x5, e6, h6⟩ := jo_lb h4
        refine jy_low hl1 (by decide) (jb_rn rfl) (fun r5 => ?_) s
        rw [e6] at r5 ⊢
        show jb_w (d + 8) 151 125 [some (.ref 2), some (jb_v l1), some (.ref 92), some (.ref 93), some (.ref 94), some (jb_v l5), some (jb_v l6), none, none, none, none] [(jb_v x5)] σ Q
        refine jiS6 (p := 127) rfl jM151 jq151_125 ?_
        refine jw_iconst (p := 128) rfl jM151 jq151_127 ?_
        refine jiS7 (p := 130) rfl jM151 jq151_128 ?_
        refine jw_iconst (p := 131) rfl jM151 jq151_130 ?_
        refine jiS8 (p := 133) rfl jM151 jq151_131 ?_
        exact (jy151_s jo_N).1 hl1 hl5 r5 (jb_rn rfl) (jb_rn rfl) h6 k σ s
      · have h4 := jo_n c4 h1
        refine jaL0 (p := 93) rfl jM151 jq151_92 ?_
        refine jiL6 (p := 95) rfl jM151 jq151_93 ?_
        refine jw_callV [(jb_v l6)] jM151 jq151_95 rfl rfl (jo_2 s.1) rfl jM130 rfl rfl ?_
        obtain ⟨x7, b8, h8⟩ := jo_b h4
        refine jd130 hl6 (jy_okb b8) (fun σ7 ts7 r7 => ?_) σ s.c
        have s7 := s.c' ts7
        have r7 := r7 _ rfl
        show jb_w (d + 8) 151 98 [some (.ref 2), some (jb_v l1), some (.ref 92), some (.ref 93), some (.ref 94), some (jb_v l5), some (jb_v l6), none, none, none, none] [(jb_v (x7.2))] σ7 Q
        refine jaL4 (p := 100) rfl jM151 jq151_98 ?_
        refine jiL6 (p := 102) rfl jM151 jq151_100 ?_
        obtain ⟨c9, h9⟩ := jo_i h8
        refine jg_iald (p := 103) rfl jM151 jq151_102 (ja_94 s7.1) c9.1 c9.2 s7.g (by decide) rfl ?_
        refine jw_ic (p := 106) rfl jM151 jq151_103 (jc_ne r7 (s7.r _ _)) (fun c10 => ?_) (fun c10 => ?_)
        · have h10 := jo_n c10 h9
          refine jw_iconst (p := 111) rfl jM151 jq151_110 ?_
          refine jiS5 (p := 113) rfl jM151 jq151_111 ?_
          refine jiI6 (p := 116) rfl jM151 jq151_113 ?_
          refine jw_goto jM151 jq151_116 ?_
          obtain ⟨c11, h11⟩ := jo_i h10
          exact ih hl1 (jb_rn rfl) c11 h11 k σ7 s7
        · have h10 := jo_p (Decidable.byContradiction c10) h9
          refine jw_iconst (p := 107) rfl jM151 jq151_106 ?_
          refine jw_goto jM151 jq151_107 ?_
          refine jiS5 (p := 113) rfl jM151 jq151_111 ?_
          refine jiI6 (p := 116) rfl jM151 jq151_113 ?_
          refine jw_goto jM151 jq151_116 ?_
          obtain ⟨c12, h12⟩ := jo_i h10
          exact ih hl1 (jb_rn rfl) c12 h12 k σ7 s7
def fl151_24 : Nat → jc_K → jg_G → Int → Int → Int → Option ((jc_K × jg_G) × Int)
  | 0, _, _, _, _, _ => none
  | m + 1, K, G, l1, l5, l6 => if 32 ≤ l6 then (fl151_81 jo_N K G l1 l5 0) else (if l5 = 0 then (fl151_81 jo_N K G l1 l5 0) else ((jy_ok (fc129 K l6)).bind fun x3 => if 0 ≤ l6 ∧ l6 < 32 then if x3.2 = G 93 l6 then ((jy_ok (fc131 (x3.1) l6)).bind fun x8 => if 0 ≤ (32 + l6) ∧ (32 + l6) < 64 then if x8.2 = G 92 (32 + l6) then (if -2147483648 ≤ (l6 + 1) ∧ (l6 + 1) < 2147483648 then fl151_24 m (x8.1) G l1 1 (l6 + 1) else none) else (if -2147483648 ≤ (l6 + 1) ∧ (l6 + 1) < 2147483648 then fl151_24 m (x8.1) G l1 0 (l6 + 1) else none) else none) else (if -2147483648 ≤ (l6 + 1) ∧ (l6 + 1) < 2147483648 then fl151_24 m (x3.1) G l1 0 (l6 + 1) else none) else none))
theorem jy151_24 {d : Nat} {L : Nat} {xs : Nat → Int32} {Q : ib_O → Prop} : ∀ (m : Nat) {K : jc_K} {G : jg_G} {l1 : Int} {l5 : Int} {l6 : Int} (hl1 : jb_r l1) (hl5 : jb_r l5) (hl6 : jb_r l6) {r : (jc_K × jg_G) × Int} (h : fl151_24 m K G l1 l5 l6 = some r) (k : ∀ σ, jy_S L xs r.1.1 r.1.2 σ → jb_r r.2 → Q (.inl (some (jb_v r.2)), σ)), jy_W L xs K G (d + 8) 151 24 [some (.ref 2), some (jb_v l1), some (.ref 92), some (.ref 93), some (.ref 94), some (jb_v l5), some (jb_v l6), none, none, none, none] [] Q := by
  intro m
  induction m with
  | zero =>
    intro K G l1 l5 l6 hl1 hl5 hl6 r h k
    cases h
  | succ m ih =>
    intro K G l1 l5 l6 hl1 hl5 hl6 r h k σ s
    unfold fl151_24 at h
    refine jiL6 (p := 26) rfl jM151 jq151_24 ?_
    refine jw_bipush (p := 28) rfl jM151 jq151_26 (by decide) ?_
    refine jw_ic (p := 31) rfl jM151 jq151_28 (jc_ge hl6 (jb_rn rfl)) (fun c1 => ?_) (fun c1 => ?_)
    · have h1 := jo_p c1 h
      refine jw_iconst (p := 79) rfl jM151 jq151_78 ?_
      refine jiS6 (p := 81) rfl jM151 jq151_79 ?_
      exact jy151_81 jo_N hl1 hl5 (jb_rn rfl) h1 k σ s
    · have h1 := jo_n c1 h
      refine jiL5 (p := 33) rfl jM151 jq151_31 ?_
      refine jw_if (p := 36) rfl jM151 jq151_33 (jc_eq hl5 jb_r0) (fun c2 => ?_) (fun c2 => ?_)
      · have h2 := jo_p c2 h1
        refine jw_iconst (p := 79) rfl jM151 jq151_78 ?_
        refine jiS6 (p := 81) rfl jM151 jq151_79 ?_
        exact jy151_81 jo_N hl1 hl5 (jb_rn rfl) h2 k σ s
      · have h2 := jo_n c2 h1
        refine jaL0 (p := 37) rfl jM151 jq151_36 ?_
        refine jiL6 (p := 39) rfl jM151 jq151_37 ?_
        refine jw_callV [(jb_v l6)] jM151 jq151_39 rfl rfl (jo_2 s.1) rfl jM129 rfl rfl ?_
        obtain ⟨x3, b4, h4⟩ := jo_b h2
        refine jd129 hl6 (jy_okb b4) (fun σ3 ts3 r3 => ?_) σ s.c
        have s3 := s.c' ts3
        have r3 := r3 _ rfl
        show jb_w (d + 8) 151 42 [some (.ref 2), some (jb_v l1), some (.ref 92), some (.ref 93), some (.ref 94), some (jb_v l5), some (jb_v l6), none, none, none, none] [(jb_v (x3.2))] σ3 Q
        refine jaL3 (p := 43) rfl jM151 jq151_42 ?_
        refine jiL6 (p := 45) rfl jM151 jq151_43 ?_
        obtain ⟨c5, h5⟩ := jo_i h4
        refine jg_iald (p := 46) rfl jM151 jq151_45 (ja_93 s3.1) c5.1 c5.2 s3.g (by decide) rfl ?_
        refine jw_ic (p := 49) rfl jM151 jq151_46 (jc_ne r3 (s3.r _ _)) (fun c6 => ?_) (fun c6 => ?_)
        · have h6 := jo_n c6 h5
          refine jw_iconst (p := 70) rfl jM151 jq151_69 ?_
          refine jiS5 (p := 72) rfl jM151 jq151_70 ?_
          refine jiI6 (p := 75) rfl jM151 jq151_72 ?_
          refine jw_goto jM151 jq151_75 ?_
          obtain ⟨c7, h7⟩ := jo_i h6
          exact ih hl1 (jb_rn rfl) c7 h7 k σ3 s3
        · have h6 := jo_p (Decidable.byContradiction c6) h5
          refine jaL0 (p := 50) rfl jM151 jq151_49 ?_
          refine jiL6 (p := 52) rfl jM151 jq151_50 ?_
          refine jw_callV [(jb_v l6)] jM151 jq151_52 rfl rfl (jo_2 s3.1) rfl jM131 rfl rfl ?_
          obtain ⟨x8, b9, h9⟩ := jo_b h6
          refine jd131 hl6 (jy_okb b9) (fun σ8 ts8 r8 => ?_) σ3 s3.c
          have s8 := s3.c' ts8
          have r8 := r8 _ rfl
          show jb_w (d + 8) 151 55 [some (.ref 2), some (jb_v l1), some (.ref 92), some (.ref 93), some (.ref 94), some (jb_v l5), some (jb_v l6), none, none, none, none] [(jb_v (x8.2))] σ8 Q
          refine jaL2 (p := 56) rfl jM151 jq151_55 ?_
          refine jw_bipush (p := 58) rfl jM151 jq151_56 (by decide) ?_
          refine jiL6 (p := 60) rfl jM151 jq151_58 ?_
          refine jw_iadd (p := 61) rfl jM151 jq151_60 ?_
          obtain ⟨c10, h10⟩ := jo_i h9
          refine jg_iald (p := 62) rfl jM151 jq151_61 (ja_92 s8.1) c10.1 c10.2 s8.g (by decide) rfl ?_
          refine jw_ic (p := 65) rfl jM151 jq151_62 (jc_ne r8 (s8.r _ _)) (fun c11 => ?_) (fun c11 => ?_)
          · have h11 := jo_n c11 h10
            refine jw_iconst (p := 70) rfl jM151 jq151_69 ?_
            refine jiS5 (p := 72) rfl jM151 jq151_70 ?_
            refine jiI6 (p := 75) rfl jM151 jq151_72 ?_
            refine jw_goto jM151 jq151_75 ?_
            obtain ⟨c12, h12⟩ := jo_i h11
            exact ih hl1 (jb_rn rfl) c12 h12 k σ8 s8
          · have h11 := jo_p (Decidable.byContradiction c11) h10
            refine jw_iconst (p := 66) rfl jM151 jq151_65 ?_
            refine jw_goto jM151 jq151_66 ?_
            refine jiS5 (p := 72) rfl jM151 jq151_70 ?_
            refine jiI6 (p := 75) rfl jM151 jq151_72 ?_
            refine jw_goto jM151 jq151_75 ?_
            obtain ⟨c13, h13⟩ := jo_i h11
            exact ih hl1 (jb_rn rfl) c13 h13 k σ8 s8
def fl151 (K : jc_K) (G : jg_G) (l1 : Int) : Option ((jc_K × jg_G) × Int) := (fc133 K ).bind fun x1 => if x1.2 = 0 then ((fc132 (x1.1) ).bind fun x4 => if x4.2 = 0 then (fl151_24 jo_N (x4.1) G l1 0 0) else (fl151_24 jo_N (x4.1) G l1 1 0)) else (fl151_24 jo_N (x1.1) G l1 0 0)
theorem jy151 {d : Nat} {L : Nat} {xs : Nat → Int32} {Q : ib_O → Prop} {K : jc_K} {G : jg_G} {l1 : Int} (hl1 : jb_r l1) {r : (jc_K × jg_G) × Int} (h : fl151 K G l1 = some r) (k : ∀ σ, jy_S L xs r.1.1 r.1.2 σ → jb_r r.2 → Q (.inl (some (jb_v r.2)), σ)) : jy_W L xs K G (d + 8) 151 0 [some (.ref 2), some (jb_v l1), some (.ref 92), some (.ref 93), some (.ref 94), none, none, none, none, none, none] [] Q := by
  intro σ s
  unfold fl151 at h
  refine jaL0 (p := 1) rfl jM151 jq151_0 ?_
  refine jw_callV [] jM151 jq151_1 rfl rfl (jo_2 s.1) rfl jM133 rfl rfl ?_
  obtain ⟨x1, b2, h2⟩ := jo_b h
  refine jd133  b2 (fun σ1 ts1 r1 => ?_) σ s.c
  have s1 := s.c' ts1
  show jb_w (d + 8) 151 4 [some (.ref 2), some (jb_v l1), some (.ref 92), some (.ref 93), some (.ref 94), none, none, none, none, none, none] [(jb_v (x1.2))] σ1 Q
  refine jw_if (p := 7) rfl jM151 jq151_4 (jc_ne r1 jb_r0) (fun c3 => ?_) (fun c3 => ?_)
  · have h3 := jo_n c3 h2
    refine jw_iconst (p := 19) rfl jM151 jq151_18 ?_
    refine jiS5 (p := 21) rfl jM151 jq151_19 ?_
    refine jw_iconst (p := 22) rfl jM151 jq151_21 ?_
    refine jiS6 (p := 24) rfl jM151 jq151_22 ?_
    exact jy151_24 jo_N hl1 (jb_rn rfl) (jb_rn rfl) h3 k σ1 s1
  · have h3 := jo_p (Decidable.byContradiction c3) h2
    refine jaL0 (p := 8) rfl jM151 jq151_7 ?_
    refine jw_callV [] jM151 jq151_8 rfl rfl (jo_2 s1.1) rfl jM132 rfl rfl ?_
    obtain ⟨x4, b5, h5⟩ := jo_b h3
    refine jd132  b5 (fun σ4 ts4 r4 => ?_) σ1 s1.c
    have s4 := s1.c' ts4
    show jb_w (d + 8) 151 11 [some (.ref 2), some (jb_v l1), some (.ref 92), some (.ref 93), some (.ref 94), none, none, none, none, none, none] [(jb_v (x4.2))] σ4 Q
    refine jw_if (p := 14) rfl jM151 jq151_11 (jc_eq r4 jb_r0) (fun c6 => ?_) (fun c6 => ?_)
    · have h6 := jo_p c6 h5
      refine jw_iconst (p := 19) rfl jM151 jq151_18 ?_
      refine jiS5 (p := 21) rfl jM151 jq151_19 ?_
      refine jw_iconst (p := 22) rfl jM151 jq151_21 ?_
      refine jiS6 (p := 24) rfl jM151 jq151_22 ?_
      exact jy151_24 jo_N hl1 (jb_rn rfl) (jb_rn rfl) h6 k σ4 s4
    · have h6 := jo_n c6 h5
      refine jw_iconst (p := 15) rfl jM151 jq151_14 ?_
      refine jw_goto jM151 jq151_15 ?_
      refine jiS5 (p := 21) rfl jM151 jq151_19 ?_
      refine jw_iconst (p := 22) rfl jM151 jq151_21 ?_
      refine jiS6 (p := 24) rfl jM151 jq151_22 ?_
      exact jy151_24 jo_N hl1 (jb_rn rfl) (jb_rn rfl) h6 k σ4 s4
-- 152 changes need 9
def fl152_176 (K : jc_K) (G : jg_G) (l1 : Int) (l2 : Int) (l3 : Int) (l10 : Int) (l11 : Int) (l12 : Int) (l13 : Int) : Option ((jc_K × jg_G) × Int) := if 0 ≤ l10 ∧ l10 < 64 then if 0 ≤ (12 + l2) ∧ (12 + l2) < 16 then (jy_ok (fc111 K l2)).bind fun x3 => if 0 ≤ ((16 * l2) + (G 94 (12 + l2))) ∧ ((16 * l2) + (G 94 (12 + l2))) < 64 then if -2147483648 ≤ ((G 94 (12 + l2)) + 1) ∧ ((G 94 (12 + l2)) + 1) < 2147483648 then if 0 ≤ (8 + l2) ∧ (8 + l2) < 16 then if -2147483648 ≤ (((jg_u (jg_u (jg_u (jg_u G 95 ((16 * l2) + (G 94 (12 + l2))) (x3.2)) 96 ((16 * l2) + (G 94 (12 + l2))) l10) 97 ((16 * l2) + (G 94 (12 + l2))) (G 92 l10)) 94 (12 + l2) ((G 94 (12 + l2)) + 1)) 94 (8 + l2)) + 1) ∧ (((jg_u (jg_u (jg_u (jg_u G 95 ((16 * l2) + (G 94 (12 + l2))) (x3.2)) 96 ((16 * l2) + (G 94 (12 + l2))) l10) 97 ((16 * l2) + (G 94 (12 + l2))) (G 92 l10)) 94 (12 + l2) ((G 94 (12 + l2)) + 1)) 94 (8 + l2)) + 1) < 2147483648 then if l1 = 0 then (if l13 = 0 then (some ((x3.1, jg_u (jg_u (jg_u (jg_u (jg_u (jg_u G 95 ((16 * l2) + (G 94 (12 + l2))) (x3.2)) 96 ((16 * l2) + (G 94 (12 + l2))) l10) 97 ((16 * l2) + (G 94 (12 + l2))) (G 92 l10)) 94 (12 + l2) ((G 94 (12 + l2)) + 1)) 94 (8 + l2) (((jg_u (jg_u (jg_u (jg_u G 95 ((16 * l2) + (G 94 (12 + l2))) (x3.2)) 96 ((16 * l2) + (G 94 (12 + l2))) l10) 97 ((16 * l2) + (G 94 (12 + l2))) (G 92 l10)) 94 (12 + l2) ((G 94 (12 + l2)) + 1)) 94 (8 + l2)) + 1)) 92 l10 l11), 1)) else (some ((x3.1, jg_u (jg_u (jg_u (jg_u (jg_u (jg_u G 95 ((16 * l2) + (G 94 (12 + l2))) (x3.2)) 96 ((16 * l2) + (G 94 (12 + l2))) l10) 97 ((16 * l2) + (G 94 (12 + l2))) (G 92 l10)) 94 (12 + l2) ((G 94 (12 + l2)) + 1)) 94 (8 + l2) (((jg_u (jg_u (jg_u (jg_u G 95 ((16 * l2) + (G 94 (12 + l2))) (x3.2)) 96 ((16 * l2) + (G 94 (12 + l2))) l10) 97 ((16 * l2) + (G 94 (12 + l2))) (G 92 l10)) 94 (12 + l2) ((G 94 (12 + l2)) + 1)) 94 (8 + l2)) + 1)) 92 l10 l11), 0))) else (if l13 = G 92 l10 then (some ((x3.1, jg_u (jg_u (jg_u (jg_u (jg_u (jg_u G 95 ((16 * l2) + (G 94 (12 + l2))) (x3.2)) 96 ((16 * l2) + (G 94 (12 + l2))) l10) 97 ((16 * l2) + (G 94 (12 + l2))) (G 92 l10)) 94 (12 + l2) ((G 94 (12 + l2)) + 1)) 94 (8 + l2) (((jg_u (jg_u (jg_u (jg_u G 95 ((16 * l2) + (G 94 (12 + l2))) (x3.2)) 96 ((16 * l2) + (G 94 (12 + l2))) l10) 97 ((16 * l2) + (G 94 (12 + l2))) (G 92 l10)) 94 (12 + l2) ((G 94 (12 + l2)) + 1)) 94 (8 + l2)) + 1)) 92 l10 (-1)), 1)) else (some ((x3.1, jg_u (jg_u (jg_u (jg_u (jg_u (jg_u G 95 ((16 * l2) + (G 94 (12 + l2))) (x3.2)) 96 ((16 * l2) + (G 94 (12 + l2))) l10) 97 ((16 * l2) + (G 94 (12 + l2))) (G 92 l10)) 94 (12 + l2) ((G 94 (12 + l2)) + 1)) 94 (8 + l2) (((jg_u (jg_u (jg_u (jg_u G 95 ((16 * l2) + (G 94 (12 + l2))) (x3.2)) 96 ((16 * l2) + (G 94 (12 + l2))) l10) 97 ((16 * l2) + (G 94 (12 + l2))) (G 92 l10)) 94 (12 + l2) ((G 94 (12 + l2)) + 1)) 94 (8 + l2)) + 1)) 92 l10 (-1)), 0))) else none else none else none else none else none else none
theorem jy152_176 {d : Nat} {L : Nat} {xs : Nat → Int32} {Q : ib_O → Prop} {K : jc_K} {G : jg_G} {l1 : Int} {l2 : Int} {l3 : Int} {l10 : Int} {l11 : Int} {l12 : Int} {l13 : Int} (hl1 : jb_r l1) (hl2 : jb_r l2) (hl3 : jb_r l3) (hl10 : jb_r l10) (hl11 : jb_r l11) (hl12 : jb_r l12) (hl13 : jb_r l13) {r : (jc_K × jg_G) × Int} (h : fl152_176 K G l1 l2 l3 l10 l11 l12 l13 = some r) (k : ∀ σ, jy_S L xs r.1.1 r.1.2 σ → jb_r r.2 → Q (.inl (some (jb_v r.2)), σ)) : jy_W L xs K G (d + 9) 152 176 [some (.ref 2), some (jb_v l1), some (jb_v l2), some (jb_v l3), some (.ref 92), some (.ref 93), some (.ref 94), some (.ref 95), some (.ref 96), some (.ref 97), some (jb_v l10), some (jb_v l11), some (jb_v l12), some (jb_v l13), none, none] [] Q := by
  intro σ s
  unfold fl152_176 at h
  refine jaL4 (p := 178) rfl jM152 jq152_176 ?_
  refine jiL10 (p := 180) rfl jM152 jq152_178 ?_
  obtain ⟨c1, h1⟩ := jo_i h
  refine jg_iald (p := 181) rfl jM152 jq152_180 (ja_92 s.1) c1.1 c1.2 s.g (by decide) rfl ?_
  refine jiS14 (p := 183) rfl jM152 jq152_181 ?_
  refine jw_bipush (p := 185) rfl jM152 jq152_183 (by decide) ?_
  refine jiL2 (p := 186) rfl jM152 jq152_185 ?_
  refine jw_imul (p := 187) rfl jM152 jq152_186 ?_
  refine jaL6 (p := 189) rfl jM152 jq152_187 ?_
  refine jw_bipush (p := 191) rfl jM152 jq152_189 (by decide) ?_
  refine jiL2 (p := 192) rfl jM152 jq152_191 ?_
  refine jw_iadd (p := 193) rfl jM152 jq152_192 ?_
  obtain ⟨c2, h2⟩ := jo_i h1
  refine jg_iald (p := 194) rfl jM152 jq152_193 (ja_94 s.1) c2.1 c2.2 s.g (by decide) rfl ?_
  refine jw_iadd (p := 195) rfl jM152 jq152_194 ?_
  refine jiS15 (p := 197) rfl jM152 jq152_195 ?_
  refine jaL7 (p := 199) rfl jM152 jq152_197 ?_
  refine jiL15 (p := 201) rfl jM152 jq152_199 ?_
  refine jaL0 (p := 202) rfl jM152 jq152_201 ?_
  refine jiL2 (p := 203) rfl jM152 jq152_202 ?_
  refine jw_callV [(jb_v l2)] jM152 jq152_203 rfl rfl (jo_2 s.1) rfl jM111 rfl rfl ?_
  obtain ⟨x3, b4, h4⟩ := jo_b h2
  refine jd111 hl2 (jy_okb b4) (fun σ3 ts3 r3 => ?_) σ s.c
  have s3 := s.c' ts3
  have r3 := r3 _ rfl
  show jb_w (d + 9) 152 206 [some (.ref 2), some (jb_v l1), some (jb_v l2), some (jb_v l3), some (.ref 92), some (.ref 93), some (.ref 94), some (.ref 95), some (.ref 96), some (.ref 97), some (jb_v l10), some (jb_v l11), some (jb_v l12), some (jb_v l13), some (jb_v (G 92 l10)), some (jb_v ((16 * l2) + (G 94 (12 + l2))))] [(jb_v (x3.2)), (jb_v ((16 * l2) + (G 94 (12 + l2)))), (.ref 95)] σ3 Q
  obtain ⟨c5, h5⟩ := jo_i h4
  refine jg_iast (p := 207) rfl jM152 jq152_206 (ja_95 s3.1) c5.1 c5.2 s3.g (by decide) r3 ?_
  intro σ6 ts6
  have s6 := s3.g' ts6
  refine jaL8 (p := 209) rfl jM152 jq152_207 ?_
  refine jiL15 (p := 211) rfl jM152 jq152_209 ?_
  refine jiL10 (p := 213) rfl jM152 jq152_211 ?_
  refine jg_iast (p := 214) rfl jM152 jq152_213 (ja_96 s6.1) c5.1 c5.2 s6.g (by decide) hl10 ?_
  intro σ7 ts7
  have s7 := s6.g' ts7
  refine jaL9 (p := 216) rfl jM152 jq152_214 ?_
  refine jiL15 (p := 218) rfl jM152 jq152_216 ?_
  refine jiL14 (p := 220) rfl jM152 jq152_218 ?_
  refine jg_iast (p := 221) rfl jM152 jq152_220 (ja_97 s7.1) c5.1 c5.2 s7.g (by decide) (s.r _ _) ?_
  intro σ8 ts8
  have s8 := s7.g' ts8
  refine jaL6 (p := 223) rfl jM152 jq152_221 ?_
  refine jw_bipush (p := 225) rfl jM152 jq152_223 (by decide) ?_
  refine jiL2 (p := 226) rfl jM152 jq152_225 ?_
  refine jw_iadd (p := 227) rfl jM152 jq152_226 ?_
  refine jw_dup2 (p := 228) rfl jM152 jq152_227 ?_
  refine jg_iald (p := 229) rfl jM152 jq152_228 (ja_94 s8.1) c2.1 c2.2 s8.g (by decide) ((jg_uN (by decide)).trans ((jg_uN (by decide)).trans (jg_uN (by decide)))) ?_
  refine jw_iconst (p := 230) rfl jM152 jq152_229 ?_
  refine jw_iadd (p := 231) rfl jM152 jq152_230 ?_
  obtain ⟨c9, h9⟩ := jo_i h5
  refine jg_iast (p := 232) rfl jM152 jq152_231 (ja_94 s8.1) c2.1 c2.2 s8.g (by decide) c9 ?_
  intro σ10 ts10
  have s10 := s8.g' ts10
  refine jaL6 (p := 234) rfl jM152 jq152_232 ?_
  refine jw_bipush (p := 236) rfl jM152 jq152_234 (by decide) ?_
  refine jiL2 (p := 237) rfl jM152 jq152_236 ?_
  refine jw_iadd (p := 238) rfl jM152 jq152_237 ?_
  refine jw_dup2 (p := 239) rfl jM152 jq152_238 ?_
  obtain ⟨c11, h11⟩ := jo_i h9
  refine jg_iald (p := 240) rfl jM152 jq152_239 (ja_94 s10.1) c11.1 c11.2 s10.g (by decide) rfl ?_
  refine jw_iconst (p := 241) rfl jM152 jq152_240 ?_
  refine jw_iadd (p := 242) rfl jM152 jq152_241 ?_
  obtain ⟨c12, h12⟩ := jo_i h11
  refine jg_iast (p := 243) rfl jM152 jq152_242 (ja_94 s10.1) c11.1 c11.2 s10.g (by decide) c12 ?_
  intro σ13 ts13
  have s13 := s10.g' ts13
  refine jaL4 (p := 245) rfl jM152 jq152_243 ?_
  refine jiL10 (p := 247) rfl jM152 jq152_245 ?_
  refine jiL1 (p := 248) rfl jM152 jq152_247 ?_
  refine jw_if (p := 251) rfl jM152 jq152_248 (jc_ne hl1 jb_r0) (fun c14 => ?_) (fun c14 => ?_)
  · have h14 := jo_n c14 h12
    refine jw_iconst (p := 257) rfl jM152 jq152_256 ?_
    refine jg_iast (p := 258) rfl jM152 jq152_257 (ja_92 s13.1) c1.1 c1.2 s13.g (by decide) (jb_rn rfl) ?_
    intro σ15 ts15
    have s15 := s13.g' ts15
    refine jiL13 (p := 260) rfl jM152 jq152_258 ?_
    refine jiL1 (p := 261) rfl jM152 jq152_260 ?_
    refine jw_if (p := 264) rfl jM152 jq152_261 (jc_ne hl1 jb_r0) (fun _ => ?_) (fun z => absurd c14 z)
    refine jiL14 (p := 270) rfl jM152 jq152_268 ?_
    refine jw_ic (p := 273) rfl jM152 jq152_270 (jc_ne hl13 (s.r _ _)) (fun c16 => ?_) (fun c16 => ?_)
    · have h16 := jo_n c16 h14
      refine jw_iconst (p := 278) rfl jM152 jq152_277 ?_
      cases h16
      exact jw_iret jM152 jq152_278 (fun _ => Or.inl rfl) (k σ15 s15 (jb_rn rfl))
    · have h16 := jo_p (Decidable.byContradiction c16) h14
      refine jw_iconst (p := 274) rfl jM152 jq152_273 ?_
      refine jw_goto jM152 jq152_274 ?_
      cases h16
      exact jw_iret jM152 jq152_278 (fun _ => Or.inr rfl) (k σ15 s15 (jb_rn rfl))
  · have h14 := jo_p (Decidable.byContradiction c14) h12
    refine jiL11 (p := 253) rfl jM152 jq152_251 ?_
    refine jw_goto jM152 jq152_253 ?_
    refine jg_iast (p := 258) rfl jM152 jq152_257 (ja_92 s13.1) c1.1 c1.2 s13.g (by decide) hl11 ?_
    intro σ17 ts17
    have s17 := s13.g' ts17
    refine jiL13 (p := 260) rfl jM152 jq152_258 ?_
    refine jiL1 (p := 261) rfl jM152 jq152_260 ?_
    refine jw_if (p := 264) rfl jM152 jq152_261 (jc_ne hl1 jb_r0) (fun z => absurd (Decidable.byContradiction c14) z) (fun _ => ?_)
    refine jw_iconst (p := 265) rfl jM152 jq152_264 ?_
    refine jw_goto jM152 jq152_265 ?_
    refine jw_ic (p := 273) rfl jM152 jq152_270 (jc_ne hl13 (jb_rn rfl)) (fun c18 => ?_) (fun c18 => ?_)
    · have h18 := jo_n c18 h14
      refine jw_iconst (p := 278) rfl jM152 jq152_277 ?_
      cases h18
      exact jw_iret jM152 jq152_278 (fun _ => Or.inl rfl) (k σ17 s17 (jb_rn rfl))
    · have h18 := jo_p (Decidable.byContradiction c18) h14
      refine jw_iconst (p := 274) rfl jM152 jq152_273 ?_
      refine jw_goto jM152 jq152_274 ?_
      cases h18
      exact jw_iret jM152 jq152_278 (fun _ => Or.inr rfl) (k σ17 s17 (jb_rn rfl))
def fl152_79 (K : jc_K) (G : jg_G) (l1 : Int) (l2 : Int) (l3 : Int) (l10 : Int) (l11 : Int) (l12 : Int) (l13 : Int) : Option ((jc_K × jg_G) × Int) := if l13 = (-4) then ((fl149 K G ).bind fun x16 => if x16.2 = 0 ∨ x16.2 = 1 then some ((x16.1.1, x16.1.2), x16.2) else none) else (if 0 ≤ l12 then (if l1 = 2 then (if 0 ≤ l10 ∧ l10 < 64 then if l13 = G 92 l10 then (some ((K, G), 1)) else (some ((K, G), 0)) else none) else (if l1 = 0 then (if l13 = (-5) then (some ((K, G), 1)) else (if l1 = 1 then (if 0 ≤ l10 ∧ l10 < 64 then if 0 ≤ G 92 l10 then (fl152_176 K G l1 l2 l3 l10 l11 l12 l13) else (some ((K, G), 1)) else none) else (fl152_176 K G l1 l2 l3 l10 l11 l12 l13))) else (if l1 = 1 then (if 0 ≤ l10 ∧ l10 < 64 then if 0 ≤ G 92 l10 then (fl152_176 K G l1 l2 l3 l10 l11 l12 l13) else (if l13 = (-1) then (some ((K, G), 1)) else (some ((K, G), 0))) else none) else (fl152_176 K G l1 l2 l3 l10 l11 l12 l13)))) else (if l13 = l12 then (some ((K, G), 1)) else (some ((K, G), 0))))
theorem jy152_79 {d : Nat} {L : Nat} {xs : Nat → Int32} {Q : ib_O → Prop} {K : jc_K} {G : jg_G} {l1 : Int} {l2 : Int} {l3 : Int} {l10 : Int} {l11 : Int} {l12 : Int} {l13 : Int} (hl1 : jb_r l1) (hl2 : jb_r l2) (hl3 : jb_r l3) (hl10 : jb_r l10) (hl11 : jb_r l11) (hl12 : jb_r l12) (hl13 : jb_r l13) {r : (jc_K × jg_G) × Int} (h : fl152_79 K G l1 l2 l3 l10 l11 l12 l13 = some r) (k : ∀ σ, jy_S L xs r.1.1 r.1.2 σ → jb_r r.2 → Q (.inl (some (jb_v r.2)), σ)) : jy_W L xs K G (d + 9) 152 79 [some (.ref 2), some (jb_v l1), some (jb_v l2), some (jb_v l3), some (.ref 92), some (.ref 93), some (.ref 94), some (.ref 95), some (.ref 96), some (.ref 97), some (jb_v l10), some (jb_v l11), some (jb_v l12), some (jb_v l13), none, none] [] Q := by
  intro σ s
  unfold fl152_79 at h
  refine jiL13 (p := 81) rfl jM152 jq152_79 ?_
  refine jw_bipush (p := 83) rfl jM152 jq152_81 (by decide) ?_
  refine jw_ic (p := 86) rfl jM152 jq152_83 (jc_ne hl13 (jb_rn rfl)) (fun c1 => ?_) (fun c1 => ?_)
  · have h1 := jo_n c1 h
    refine jiL12 (p := 99) rfl jM152 jq152_97 ?_
    refine jw_if (p := 102) rfl jM152 jq152_99 (jc_ge hl12 jb_r0) (fun c2 => ?_) (fun c2 => ?_)
    · have h2 := jo_p c2 h1
      refine jiL1 (p := 116) rfl jM152 jq152_115 ?_
      refine jw_iconst (p := 117) rfl jM152 jq152_116 ?_
      refine jw_ic (p := 120) rfl jM152 jq152_117 (jc_ne hl1 (jb_rn rfl)) (fun c3 => ?_) (fun c3 => ?_)
      · have h3 := jo_n c3 h2
        refine jiL1 (p := 137) rfl jM152 jq152_136 ?_
        refine jw_if (p := 140) rfl jM152 jq152_137 (jc_ne hl1 jb_r0) (fun c4 => ?_) (fun c4 => ?_)
        · have h4 := jo_n c4 h3
          refine jiL1 (p := 148) rfl jM152 jq152_147 ?_
          refine jw_iconst (p := 149) rfl jM152 jq152_148 ?_
          refine jw_ic (p := 152) rfl jM152 jq152_149 (jc_ne hl1 (jb_rn rfl)) (fun c5 => ?_) (fun c5 => ?_)
          · have h5 := jo_n c5 h4
            exact jy152_176 hl1 hl2 hl3 hl10 hl11 hl12 hl13 h5 k σ s
          · have h5 := jo_p (Decidable.byContradiction c5) h4
            refine jaL4 (p := 154) rfl jM152 jq152_152 ?_
            refine jiL10 (p := 156) rfl jM152 jq152_154 ?_
            obtain ⟨c6, h6⟩ := jo_i h5
            refine jg_iald (p := 157) rfl jM152 jq152_156 (ja_92 s.1) c6.1 c6.2 s.g (by decide) rfl ?_
            refine jw_if (p := 160) rfl jM152 jq152_157 (jc_ge (s.r _ _) jb_r0) (fun c7 => ?_) (fun c7 => ?_)
            · have h7 := jo_p c7 h6
              exact jy152_176 hl1 hl2 hl3 hl10 hl11 hl12 hl13 h7 k σ s
            · have h7 := jo_n c7 h6
              refine jiL1 (p := 161) rfl jM152 jq152_160 ?_
              refine jw_if (p := 164) rfl jM152 jq152_161 (jc_eq hl1 jb_r0) (fun z => absurd z c4) (fun _ => ?_)
              refine jiL13 (p := 166) rfl jM152 jq152_164 ?_
              refine jw_iconst (p := 167) rfl jM152 jq152_166 ?_
              refine jw_ic (p := 170) rfl jM152 jq152_167 (jc_ne hl13 (jb_rn rfl)) (fun c8 => ?_) (fun c8 => ?_)
              · have h8 := jo_n c8 h7
                refine jw_iconst (p := 175) rfl jM152 jq152_174 ?_
                cases h8
                exact jw_iret jM152 jq152_175 (fun _ => Or.inl rfl) (k σ s (jb_rn rfl))
              · have h8 := jo_p (Decidable.byContradiction c8) h7
                refine jw_iconst (p := 171) rfl jM152 jq152_170 ?_
                refine jw_goto jM152 jq152_171 ?_
                cases h8
                exact jw_iret jM152 jq152_175 (fun _ => Or.inr rfl) (k σ s (jb_rn rfl))
        · have h4 := jo_p (Decidable.byContradiction c4) h3
          refine jiL13 (p := 142) rfl jM152 jq152_140 ?_
          refine jw_bipush (p := 144) rfl jM152 jq152_142 (by decide) ?_
          refine jw_ic (p := 147) rfl jM152 jq152_144 (jc_eq hl13 (jb_rn rfl)) (fun c9 => ?_) (fun c9 => ?_)
          · have h9 := jo_p c9 h4
            refine jiL1 (p := 161) rfl jM152 jq152_160 ?_
            refine jw_if (p := 164) rfl jM152 jq152_161 (jc_eq hl1 jb_r0) (fun _ => ?_) (fun z => absurd (Decidable.byContradiction c4) z)
            refine jw_iconst (p := 171) rfl jM152 jq152_170 ?_
            refine jw_goto jM152 jq152_171 ?_
            cases h9
            exact jw_iret jM152 jq152_175 (fun _ => Or.inr rfl) (k σ s (jb_rn rfl))
          · have h9 := jo_n c9 h4
            refine jiL1 (p := 148) rfl jM152 jq152_147 ?_
            refine jw_iconst (p := 149) rfl jM152 jq152_148 ?_
            refine jw_ic (p := 152) rfl jM152 jq152_149 (jc_ne hl1 (jb_rn rfl)) (fun c10 => ?_) (fun c10 => ?_)
            · have h10 := jo_n c10 h9
              exact jy152_176 hl1 hl2 hl3 hl10 hl11 hl12 hl13 h10 k σ s
            · have h10 := jo_p (Decidable.byContradiction c10) h9
              refine jaL4 (p := 154) rfl jM152 jq152_152 ?_
              refine jiL10 (p := 156) rfl jM152 jq152_154 ?_
              obtain ⟨c11, h11⟩ := jo_i h10
              refine jg_iald (p := 157) rfl jM152 jq152_156 (ja_92 s.1) c11.1 c11.2 s.g (by decide) rfl ?_
              refine jw_if (p := 160) rfl jM152 jq152_157 (jc_ge (s.r _ _) jb_r0) (fun c12 => ?_) (fun c12 => ?_)
              · have h12 := jo_p c12 h11
                exact jy152_176 hl1 hl2 hl3 hl10 hl11 hl12 hl13 h12 k σ s
              · have h12 := jo_n c12 h11
                refine jiL1 (p := 161) rfl jM152 jq152_160 ?_
                refine jw_if (p := 164) rfl jM152 jq152_161 (jc_eq hl1 jb_r0) (fun _ => ?_) (fun z => absurd (Decidable.byContradiction c4) z)
                refine jw_iconst (p := 171) rfl jM152 jq152_170 ?_
                refine jw_goto jM152 jq152_171 ?_
                cases h12
                exact jw_iret jM152 jq152_175 (fun _ => Or.inr rfl) (k σ s (jb_rn rfl))
      · have h3 := jo_p (Decidable.byContradiction c3) h2
        refine jiL13 (p := 122) rfl jM152 jq152_120 ?_
        refine jaL4 (p := 124) rfl jM152 jq152_122 ?_
        refine jiL10 (p := 126) rfl jM152 jq152_124 ?_
        obtain ⟨c13, h13⟩ := jo_i h3
        refine jg_iald (p := 127) rfl jM152 jq152_126 (ja_92 s.1) c13.1 c13.2 s.g (by decide) rfl ?_
        refine jw_ic (p := 130) rfl jM152 jq152_127 (jc_ne hl13 (s.r _ _)) (fun c14 => ?_) (fun c14 => ?_)
        · have h14 := jo_n c14 h13
          refine jw_iconst (p := 135) rfl jM152 jq152_134 ?_
          cases h14
          exact jw_iret jM152 jq152_135 (fun _ => Or.inl rfl) (k σ s (jb_rn rfl))
        · have h14 := jo_p (Decidable.byContradiction c14) h13
          refine jw_iconst (p := 131) rfl jM152 jq152_130 ?_
          refine jw_goto jM152 jq152_131 ?_
          cases h14
          exact jw_iret jM152 jq152_135 (fun _ => Or.inr rfl) (k σ s (jb_rn rfl))
    · have h2 := jo_n c2 h1
      refine jiL13 (p := 104) rfl jM152 jq152_102 ?_
      refine jiL12 (p := 106) rfl jM152 jq152_104 ?_
      refine jw_ic (p := 109) rfl jM152 jq152_106 (jc_ne hl13 hl12) (fun c15 => ?_) (fun c15 => ?_)
      · have h15 := jo_n c15 h2
        refine jw_iconst (p := 114) rfl jM152 jq152_113 ?_
        cases h15
        exact jw_iret jM152 jq152_114 (fun _ => Or.inl rfl) (k σ s (jb_rn rfl))
      · have h15 := jo_p (Decidable.byContradiction c15) h2
        refine jw_iconst (p := 110) rfl jM152 jq152_109 ?_
        refine jw_goto jM152 jq152_110 ?_
        cases h15
        exact jw_iret jM152 jq152_114 (fun _ => Or.inr rfl) (k σ s (jb_rn rfl))
  · have h1 := jo_p (Decidable.byContradiction c1) h
    refine jaL0 (p := 87) rfl jM152 jq152_86 ?_
    refine jaL4 (p := 89) rfl jM152 jq152_87 ?_
    refine jaL5 (p := 91) rfl jM152 jq152_89 ?_
    refine jaL6 (p := 93) rfl jM152 jq152_91 ?_
    refine jw_callS [(.ref 2), (.ref 92), (.ref 93), (.ref 94)] jM152 jq152_93 rfl rfl rfl jM149 rfl rfl ?_
    obtain ⟨x16, b17, h17⟩ := jo_b h1
    refine jy149  b17 (fun σ16 s16 r16 => ?_) σ s
    show jb_w (d + 9) 152 96 [some (.ref 2), some (jb_v l1), some (jb_v l2), some (jb_v l3), some (.ref 92), some (.ref 93), some (.ref 94), some (.ref 95), some (.ref 96), some (.ref 97), some (jb_v l10), some (jb_v l11), some (jb_v l12), some (jb_v l13), none, none] [(jb_v (x16.2))] σ16 Q
    obtain ⟨c18, h18⟩ := jo_i h17
    cases h18
    exact jw_iret jM152 jq152_96 (fun _ => c18) (k σ16 s16 r16)
def fl152 (K : jc_K) (G : jg_G) (l1 : Int) (l2 : Int) (l3 : Int) : Option ((jc_K × jg_G) × Int) := jo_l (jl_low l3 (24 : Int)) fun x1 => jo_l (jl_low (jl_sh l3 5) (1000 : Int)) fun x3 => (fl150 K G l2 x1).bind fun x5 => if l1 = 0 then ((jy_ok (fc108 (x5.1.1) l2 x1 x3)).bind fun x13 => fl152_79 (x13.1) (x5.1.2) l1 l2 l3 x1 x3 (x5.2) (x13.2)) else (if l1 = 1 then ((jy_ok (fc109 (x5.1.1) l2 x1)).bind fun x11 => fl152_79 (x11.1) (x5.1.2) l1 l2 l3 x1 x3 (x5.2) (x11.2)) else ((jy_ok (fc110 (x5.1.1) l2 x1)).bind fun x9 => fl152_79 (x9.1) (x5.1.2) l1 l2 l3 x1 x3 (x5.2) (x9.2)))
theorem jy152 {d : Nat} {L : Nat} {xs : Nat → Int32} {Q : ib_O → Prop} {K : jc_K} {G : jg_G} {l1 : Int} {l2 : Int} {l3 : Int} (hl1 : jb_r l1) (hl2 : jb_r l2) (hl3 : jb_r l3) {r : (jc_K × jg_G) × Int} (h : fl152 K G l1 l2 l3 = some r) (k : ∀ σ, jy_S L xs r.1.1 r.1.2 σ → jb_r r.2 → Q (.inl (some (jb_v r.2)), σ)) : jy_W L xs K G (d + 9) 152 0 [some (.ref 2), some (jb_v l1), some (jb_v l2), some (jb_v l3), some (.ref 92), some (.ref 93), some (.ref 94), some (.ref 95), some (.ref 96), some (.ref 97), none, none, none, none, none, none] [] Q := by
  intro σ s
  unfold fl152 at h
  refine jiL3 (p := 1) rfl jM152 jq152_0 ?_
  refine jw_bipush (p := 3) rfl jM152 jq152_1 (by decide) ?_
  refine jw_callS [(jb_v l3), (jb_v 24)] jM152 jq152_3 rfl rfl rfl jM146 rfl rfl ?_
  obtain ⟨x1, e2, h2⟩ := jo_lb h
  refine jy_low hl3 (by decide) (jb_rn rfl) (fun r1 => ?_) s
  rw [e2] at r1 ⊢
  show jb_w (d + 9) 152 6 [some (.ref 2), some (jb_v l1), some (jb_v l2), some (jb_v l3), some (.ref 92), some (.ref 93), some (.ref 94), some (.ref 95), some (.ref 96), some (.ref 97), none, none, none, none, none, none] [(jb_v x1)] σ Q
  refine jiS10 (p := 8) rfl jM152 jq152_6 ?_
  refine jiL3 (p := 9) rfl jM152 jq152_8 ?_
  refine jw_iconst (p := 10) rfl jM152 jq152_9 ?_
  refine jw_ishr (p := 11) rfl jM152 jq152_10 ?_
  refine jw_sipush (p := 14) rfl jM152 jq152_11 (by decide) ?_
  refine jw_callS [(jb_v (jl_sh l3 5)), (jb_v 1000)] jM152 jq152_14 rfl rfl rfl jM146 rfl rfl ?_
  obtain ⟨x3, e4, h4⟩ := jo_lb h2
  refine jy_low (jl_sh_r _ _) (by decide) (jb_rn rfl) (fun r3 => ?_) s
  rw [e4] at r3 ⊢
  show jb_w (d + 9) 152 17 [some (.ref 2), some (jb_v l1), some (jb_v l2), some (jb_v l3), some (.ref 92), some (.ref 93), some (.ref 94), some (.ref 95), some (.ref 96), some (.ref 97), some (jb_v x1), none, none, none, none, none] [(jb_v x3)] σ Q
  refine jiS11 (p := 19) rfl jM152 jq152_17 ?_
  refine jiL2 (p := 20) rfl jM152 jq152_19 ?_
  refine jiL10 (p := 22) rfl jM152 jq152_20 ?_
  refine jaL4 (p := 24) rfl jM152 jq152_22 ?_
  refine jaL5 (p := 26) rfl jM152 jq152_24 ?_
  refine jaL6 (p := 28) rfl jM152 jq152_26 ?_
  refine jaL7 (p := 30) rfl jM152 jq152_28 ?_
  refine jaL8 (p := 32) rfl jM152 jq152_30 ?_
  refine jaL9 (p := 34) rfl jM152 jq152_32 ?_
  refine jw_callS [(jb_v l2), (jb_v x1), (.ref 92), (.ref 93), (.ref 94), (.ref 95), (.ref 96), (.ref 97)] jM152 jq152_34 rfl rfl rfl jM150 rfl rfl ?_
  obtain ⟨x5, b6, h6⟩ := jo_b h4
  refine jy150 hl2 r1 b6 (fun σ5 s5 r5 => ?_) σ s
  show jb_w (d + 9) 152 37 [some (.ref 2), some (jb_v l1), some (jb_v l2), some (jb_v l3), some (.ref 92), some (.ref 93), some (.ref 94), some (.ref 95), some (.ref 96), some (.ref 97), some (jb_v x1), some (jb_v x3), none, none, none, none] [(jb_v (x5.2))] σ5 Q
  refine jiS12 (p := 39) rfl jM152 jq152_37 ?_
  refine jiL1 (p := 40) rfl jM152 jq152_39 ?_
  refine jw_if (p := 43) rfl jM152 jq152_40 (jc_ne hl1 jb_r0) (fun c7 => ?_) (fun c7 => ?_)
  · have h7 := jo_n c7 h6
    refine jiL1 (p := 56) rfl jM152 jq152_55 ?_
    refine jw_iconst (p := 57) rfl jM152 jq152_56 ?_
    refine jw_ic (p := 60) rfl jM152 jq152_57 (jc_ne hl1 (jb_rn rfl)) (fun c8 => ?_) (fun c8 => ?_)
    · have h8 := jo_n c8 h7
      refine jaL0 (p := 71) rfl jM152 jq152_70 ?_
      refine jiL2 (p := 72) rfl jM152 jq152_71 ?_
      refine jiL10 (p := 74) rfl jM152 jq152_72 ?_
      refine jw_callV [(jb_v l2), (jb_v x1)] jM152 jq152_74 rfl rfl (jo_2 s5.1) rfl jM110 rfl rfl ?_
      obtain ⟨x9, b10, h10⟩ := jo_b h8
      refine jd110 hl2 r1 (jy_okb b10) (fun σ9 ts9 r9 => ?_) σ5 s5.c
      have s9 := s5.c' ts9
      have r9 := r9 _ rfl
      show jb_w (d + 9) 152 77 [some (.ref 2), some (jb_v l1), some (jb_v l2), some (jb_v l3), some (.ref 92), some (.ref 93), some (.ref 94), some (.ref 95), some (.ref 96), some (.ref 97), some (jb_v x1), some (jb_v x3), some (jb_v (x5.2)), none, none, none] [(jb_v (x9.2))] σ9 Q
      refine jiS13 (p := 79) rfl jM152 jq152_77 ?_
      exact jy152_79 hl1 hl2 hl3 r1 r3 r5 r9 h10 k σ9 s9
    · have h8 := jo_p (Decidable.byContradiction c8) h7
      refine jaL0 (p := 61) rfl jM152 jq152_60 ?_
      refine jiL2 (p := 62) rfl jM152 jq152_61 ?_
      refine jiL10 (p := 64) rfl jM152 jq152_62 ?_
      refine jw_callV [(jb_v l2), (jb_v x1)] jM152 jq152_64 rfl rfl (jo_2 s5.1) rfl jM109 rfl rfl ?_
      obtain ⟨x11, b12, h12⟩ := jo_b h8
      refine jd109 hl2 r1 (jy_okb b12) (fun σ11 ts11 r11 => ?_) σ5 s5.c
      have s11 := s5.c' ts11
      have r11 := r11 _ rfl
      show jb_w (d + 9) 152 67 [some (.ref 2), some (jb_v l1), some (jb_v l2), some (jb_v l3), some (.ref 92), some (.ref 93), some (.ref 94), some (.ref 95), some (.ref 96), some (.ref 97), some (jb_v x1), some (jb_v x3), some (jb_v (x5.2)), none, none, none] [(jb_v (x11.2))] σ11 Q
      refine jw_goto jM152 jq152_67 ?_
      refine jiS13 (p := 79) rfl jM152 jq152_77 ?_
      exact jy152_79 hl1 hl2 hl3 r1 r3 r5 r11 h12 k σ11 s11
  · have h7 := jo_p (Decidable.byContradiction c7) h6
    refine jaL0 (p := 44) rfl jM152 jq152_43 ?_
    refine jiL2 (p := 45) rfl jM152 jq152_44 ?_
    refine jiL10 (p := 47) rfl jM152 jq152_45 ?_
    refine jiL11 (p := 49) rfl jM152 jq152_47 ?_
    refine jw_callV [(jb_v l2), (jb_v x1), (jb_v x3)] jM152 jq152_49 rfl rfl (jo_2 s5.1) rfl jM108 rfl rfl ?_
    obtain ⟨x13, b14, h14⟩ := jo_b h7
    refine jd108 hl2 r1 r3 (jy_okb b14) (fun σ13 ts13 r13 => ?_) σ5 s5.c
    have s13 := s5.c' ts13
    have r13 := r13 _ rfl
    show jb_w (d + 9) 152 52 [some (.ref 2), some (jb_v l1), some (jb_v l2), some (jb_v l3), some (.ref 92), some (.ref 93), some (.ref 94), some (.ref 95), some (.ref 96), some (.ref 97), some (jb_v x1), some (jb_v x3), some (jb_v (x5.2)), none, none, none] [(jb_v (x13.2))] σ13 Q
    refine jw_goto jM152 jq152_52 ?_
    refine jiS13 (p := 79) rfl jM152 jq152_77 ?_
    exact jy152_79 hl1 hl2 hl3 r1 r3 r5 r13 h14 k σ13 s13
-- 153 ending need 9
def fl153_154 : Nat → jc_K → jg_G → Int → Int → Int → Int → Int → Option ((jc_K × jg_G) × Int)
  | 0, _, _, _, _, _, _, _ => none
  | m + 1, K, G, l1, l2, l3, l10, l11 => if 32 ≤ l11 then ((fl147 K G l2).bind fun x2 => (fc126 (x2.1.1) ).bind fun x4 => if l10 = x4.2 then ((fc127 (x4.1) ).bind fun x7 => if x7.2 = l10 then (some ((x7.1, x2.1.2), 1)) else (some ((x7.1, x2.1.2), 0))) else (some ((x4.1, x2.1.2), 0))) else (if 0 ≤ l11 ∧ l11 < 32 then if G 93 l11 = l2 then (if 0 ≤ l11 ∧ l11 < 64 then if 0 ≤ (32 + l11) ∧ (32 + l11) < 64 then if -2147483648 ≤ (l11 + 1) ∧ (l11 + 1) < 2147483648 then fl153_154 m K (jg_u G 92 (32 + l11) (G 92 l11)) l1 l2 l3 l10 (l11 + 1) else none else none else none) else (if 0 ≤ (32 + l11) ∧ (32 + l11) < 64 then if -2147483648 ≤ (l11 + 1) ∧ (l11 + 1) < 2147483648 then fl153_154 m K (jg_u G 92 (32 + l11) (G 92 (32 + l11))) l1 l2 l3 l10 (l11 + 1) else none else none) else none)
theorem jy153_154 {d : Nat} {L : Nat} {xs : Nat → Int32} {Q : ib_O → Prop} : ∀ (m : Nat) {K : jc_K} {G : jg_G} {l1 : Int} {l2 : Int} {l3 : Int} {l10 : Int} {l11 : Int} (hl1 : jb_r l1) (hl2 : jb_r l2) (hl3 : jb_r l3) (hl10 : jb_r l10) (hl11 : jb_r l11) {r : (jc_K × jg_G) × Int} (h : fl153_154 m K G l1 l2 l3 l10 l11 = some r) (k : ∀ σ, jy_S L xs r.1.1 r.1.2 σ → jb_r r.2 → Q (.inl (some (jb_v r.2)), σ)), jy_W L xs K G (d + 9) 153 154 [some (.ref 2), some (jb_v l1), some (jb_v l2), some (jb_v l3), some (.ref 92), some (.ref 93), some (.ref 94), some (.ref 95), some (.ref 96), some (.ref 97), some (jb_v l10), some (jb_v l11)] [] Q := by
  intro m
  induction m with
  | zero =>
    intro K G l1 l2 l3 l10 l11 hl1 hl2 hl3 hl10 hl11 r h k
    cases h
  | succ m ih =>
    intro K G l1 l2 l3 l10 l11 hl1 hl2 hl3 hl10 hl11 r h k σ s
    unfold fl153_154 at h
    refine jiL11 (p := 156) rfl jM153 jq153_154 ?_
    refine jw_bipush (p := 158) rfl jM153 jq153_156 (by decide) ?_
    refine jw_ic (p := 161) rfl jM153 jq153_158 (jc_ge hl11 (jb_rn rfl)) (fun c1 => ?_) (fun c1 => ?_)
    · have h1 := jo_p c1 h
      refine jiL2 (p := 201) rfl jM153 jq153_200 ?_
      refine jaL5 (p := 203) rfl jM153 jq153_201 ?_
      refine jaL6 (p := 205) rfl jM153 jq153_203 ?_
      refine jw_callS [(jb_v l2), (.ref 93), (.ref 94)] jM153 jq153_205 rfl rfl rfl jM147 rfl rfl ?_
      obtain ⟨x2, b3, h3⟩ := jo_b h1
      refine jy147 hl2 b3 (fun σ2 s2 => ?_) σ s
      show jb_w (d + 9) 153 208 [some (.ref 2), some (jb_v l1), some (jb_v l2), some (jb_v l3), some (.ref 92), some (.ref 93), some (.ref 94), some (.ref 95), some (.ref 96), some (.ref 97), some (jb_v l10), some (jb_v l11)] [] σ2 Q
      refine jiL10 (p := 210) rfl jM153 jq153_208 ?_
      refine jaL0 (p := 211) rfl jM153 jq153_210 ?_
      refine jw_callV [] jM153 jq153_211 rfl rfl (jo_2 s2.1) rfl jM126 rfl rfl ?_
      obtain ⟨x4, b5, h5⟩ := jo_b h3
      refine jd126  b5 (fun σ4 ts4 r4 => ?_) σ2 s2.c
      have s4 := s2.c' ts4
      show jb_w (d + 9) 153 214 [some (.ref 2), some (jb_v l1), some (jb_v l2), some (jb_v l3), some (.ref 92), some (.ref 93), some (.ref 94), some (.ref 95), some (.ref 96), some (.ref 97), some (jb_v l10), some (jb_v l11)] [(jb_v (x4.2)), (jb_v l10)] σ4 Q
      refine jw_ic (p := 217) rfl jM153 jq153_214 (jc_ne hl10 r4) (fun c6 => ?_) (fun c6 => ?_)
      · have h6 := jo_n c6 h5
        refine jw_iconst (p := 231) rfl jM153 jq153_230 ?_
        cases h6
        exact jw_iret jM153 jq153_231 (fun _ => Or.inl rfl) (k σ4 s4 (jb_rn rfl))
      · have h6 := jo_p (Decidable.byContradiction c6) h5
        refine jaL0 (p := 218) rfl jM153 jq153_217 ?_
        refine jw_callV [] jM153 jq153_218 rfl rfl (jo_2 s4.1) rfl jM127 rfl rfl ?_
        obtain ⟨x7, b8, h8⟩ := jo_b h6
        refine jd127  b8 (fun σ7 ts7 r7 => ?_) σ4 s4.c
        have s7 := s4.c' ts7
        show jb_w (d + 9) 153 221 [some (.ref 2), some (jb_v l1), some (jb_v l2), some (jb_v l3), some (.ref 92), some (.ref 93), some (.ref 94), some (.ref 95), some (.ref 96), some (.ref 97), some (jb_v l10), some (jb_v l11)] [(jb_v (x7.2))] σ7 Q
        refine jiL10 (p := 223) rfl jM153 jq153_221 ?_
        refine jw_ic (p := 226) rfl jM153 jq153_223 (jc_ne r7 hl10) (fun c9 => ?_) (fun c9 => ?_)
        · have h9 := jo_n c9 h8
          refine jw_iconst (p := 231) rfl jM153 jq153_230 ?_
          cases h9
          exact jw_iret jM153 jq153_231 (fun _ => Or.inl rfl) (k σ7 s7 (jb_rn rfl))
        · have h9 := jo_p (Decidable.byContradiction c9) h8
          refine jw_iconst (p := 227) rfl jM153 jq153_226 ?_
          refine jw_goto jM153 jq153_227 ?_
          cases h9
          exact jw_iret jM153 jq153_231 (fun _ => Or.inr rfl) (k σ7 s7 (jb_rn rfl))
    · have h1 := jo_n c1 h
      refine jaL4 (p := 163) rfl jM153 jq153_161 ?_
      refine jw_bipush (p := 165) rfl jM153 jq153_163 (by decide) ?_
      refine jiL11 (p := 167) rfl jM153 jq153_165 ?_
      refine jw_iadd (p := 168) rfl jM153 jq153_167 ?_
      refine jaL5 (p := 170) rfl jM153 jq153_168 ?_
      refine jiL11 (p := 172) rfl jM153 jq153_170 ?_
      obtain ⟨c10, h10⟩ := jo_i h1
      refine jg_iald (p := 173) rfl jM153 jq153_172 (ja_93 s.1) c10.1 c10.2 s.g (by decide) rfl ?_
      refine jiL2 (p := 174) rfl jM153 jq153_173 ?_
      refine jw_ic (p := 177) rfl jM153 jq153_174 (jc_ne (s.r _ _) hl2) (fun c11 => ?_) (fun c11 => ?_)
      · have h11 := jo_n c11 h10
        refine jaL4 (p := 187) rfl jM153 jq153_185 ?_
        refine jw_bipush (p := 189) rfl jM153 jq153_187 (by decide) ?_
        refine jiL11 (p := 191) rfl jM153 jq153_189 ?_
        refine jw_iadd (p := 192) rfl jM153 jq153_191 ?_
        obtain ⟨c12, h12⟩ := jo_i h11
        refine jg_iald (p := 193) rfl jM153 jq153_192 (ja_92 s.1) c12.1 c12.2 s.g (by decide) rfl ?_
        refine jg_iast (p := 194) rfl jM153 jq153_193 (ja_92 s.1) c12.1 c12.2 s.g (by decide) (s.r _ _) ?_
        intro σ13 ts13
        have s13 := s.g' ts13
        refine jiI11 (p := 197) rfl jM153 jq153_194 ?_
        refine jw_goto jM153 jq153_197 ?_
        obtain ⟨c14, h14⟩ := jo_i h12
        exact ih hl1 hl2 hl3 hl10 c14 h14 k σ13 s13
      · have h11 := jo_p (Decidable.byContradiction c11) h10
        refine jaL4 (p := 179) rfl jM153 jq153_177 ?_
        refine jiL11 (p := 181) rfl jM153 jq153_179 ?_
        obtain ⟨c15, h15⟩ := jo_i h11
        refine jg_iald (p := 182) rfl jM153 jq153_181 (ja_92 s.1) c15.1 c15.2 s.g (by decide) rfl ?_
        refine jw_goto jM153 jq153_182 ?_
        obtain ⟨c16, h16⟩ := jo_i h15
        refine jg_iast (p := 194) rfl jM153 jq153_193 (ja_92 s.1) c16.1 c16.2 s.g (by decide) (s.r _ _) ?_
        intro σ17 ts17
        have s17 := s.g' ts17
        refine jiI11 (p := 197) rfl jM153 jq153_194 ?_
        refine jw_goto jM153 jq153_197 ?_
        obtain ⟨c18, h18⟩ := jo_i h16
        exact ih hl1 hl2 hl3 hl10 c18 h18 k σ17 s17
def fl153_60 (K : jc_K) (G : jg_G) (l1 : Int) (l2 : Int) (l3 : Int) (l10 : Int) : Option ((jc_K × jg_G) × Int) := (jy_ok (fc112 K l2 l10)).bind fun x1 => if 0 ≤ l2 ∧ l2 < 16 then if x1.2 = (-4) then ((fl149 (x1.1) (jg_u G 94 l2 (-1)) ).bind fun x9 => if x9.2 = 0 ∨ x9.2 = 1 then some ((x9.1.1, x9.1.2), x9.2) else none) else ((fl148 (x1.1) (jg_u G 94 l2 (-1)) l2 l10).bind fun x6 => if x1.2 = x6.2 then (some ((x6.1.1, x6.1.2), 1)) else (some ((x6.1.1, x6.1.2), 0))) else none
theorem jy153_60 {d : Nat} {L : Nat} {xs : Nat → Int32} {Q : ib_O → Prop} {K : jc_K} {G : jg_G} {l1 : Int} {l2 : Int} {l3 : Int} {l10 : Int} (hl1 : jb_r l1) (hl2 : jb_r l2) (hl3 : jb_r l3) (hl10 : jb_r l10) {r : (jc_K × jg_G) × Int} (h : fl153_60 K G l1 l2 l3 l10 = some r) (k : ∀ σ, jy_S L xs r.1.1 r.1.2 σ → jb_r r.2 → Q (.inl (some (jb_v r.2)), σ)) : jy_W L xs K G (d + 9) 153 60 [some (.ref 2), some (jb_v l1), some (jb_v l2), some (jb_v l3), some (.ref 92), some (.ref 93), some (.ref 94), some (.ref 95), some (.ref 96), some (.ref 97), some (jb_v l10), none] [] Q := by
  intro σ s
  unfold fl153_60 at h
  refine jaL0 (p := 61) rfl jM153 jq153_60 ?_
  refine jiL2 (p := 62) rfl jM153 jq153_61 ?_
  refine jiL10 (p := 64) rfl jM153 jq153_62 ?_
  refine jw_callV [(jb_v l2), (jb_v l10)] jM153 jq153_64 rfl rfl (jo_2 s.1) rfl jM112 rfl rfl ?_
  obtain ⟨x1, b2, h2⟩ := jo_b h
  refine jd112 hl2 hl10 (jy_okb b2) (fun σ1 ts1 r1 => ?_) σ s.c
  have s1 := s.c' ts1
  have r1 := r1 _ rfl
  show jb_w (d + 9) 153 67 [some (.ref 2), some (jb_v l1), some (jb_v l2), some (jb_v l3), some (.ref 92), some (.ref 93), some (.ref 94), some (.ref 95), some (.ref 96), some (.ref 97), some (jb_v l10), none] [(jb_v (x1.2))] σ1 Q
  refine jiS11 (p := 69) rfl jM153 jq153_67 ?_
  refine jaL6 (p := 71) rfl jM153 jq153_69 ?_
  refine jiL2 (p := 72) rfl jM153 jq153_71 ?_
  refine jw_iconst (p := 73) rfl jM153 jq153_72 ?_
  obtain ⟨c3, h3⟩ := jo_i h2
  refine jg_iast (p := 74) rfl jM153 jq153_73 (ja_94 s1.1) c3.1 c3.2 s1.g (by decide) (jb_rn rfl) ?_
  intro σ4 ts4
  have s4 := s1.g' ts4
  refine jiL11 (p := 76) rfl jM153 jq153_74 ?_
  refine jw_bipush (p := 78) rfl jM153 jq153_76 (by decide) ?_
  refine jw_ic (p := 81) rfl jM153 jq153_78 (jc_ne r1 (jb_rn rfl)) (fun c5 => ?_) (fun c5 => ?_)
  · have h5 := jo_n c5 h3
    refine jiL11 (p := 96) rfl jM153 jq153_94 ?_
    refine jiL2 (p := 97) rfl jM153 jq153_96 ?_
    refine jiL10 (p := 99) rfl jM153 jq153_97 ?_
    refine jaL4 (p := 101) rfl jM153 jq153_99 ?_
    refine jaL6 (p := 103) rfl jM153 jq153_101 ?_
    refine jaL7 (p := 105) rfl jM153 jq153_103 ?_
    refine jaL8 (p := 107) rfl jM153 jq153_105 ?_
    refine jaL9 (p := 109) rfl jM153 jq153_107 ?_
    refine jw_callS [(jb_v l2), (jb_v l10), (.ref 92), (.ref 94), (.ref 95), (.ref 96), (.ref 97)] jM153 jq153_109 rfl rfl rfl jM148 rfl rfl ?_
    obtain ⟨x6, b7, h7⟩ := jo_b h5
    refine jy148 hl2 hl10 b7 (fun σ6 s6 r6 => ?_) σ4 s4
    show jb_w (d + 9) 153 112 [some (.ref 2), some (jb_v l1), some (jb_v l2), some (jb_v l3), some (.ref 92), some (.ref 93), some (.ref 94), some (.ref 95), some (.ref 96), some (.ref 97), some (jb_v l10), some (jb_v (x1.2))] [(jb_v (x6.2)), (jb_v (x1.2))] σ6 Q
    refine jw_ic (p := 115) rfl jM153 jq153_112 (jc_ne r1 r6) (fun c8 => ?_) (fun c8 => ?_)
    · have h8 := jo_n c8 h7
      refine jw_iconst (p := 120) rfl jM153 jq153_119 ?_
      cases h8
      exact jw_iret jM153 jq153_120 (fun _ => Or.inl rfl) (k σ6 s6 (jb_rn rfl))
    · have h8 := jo_p (Decidable.byContradiction c8) h7
      refine jw_iconst (p := 116) rfl jM153 jq153_115 ?_
      refine jw_goto jM153 jq153_116 ?_
      cases h8
      exact jw_iret jM153 jq153_120 (fun _ => Or.inr rfl) (k σ6 s6 (jb_rn rfl))
  · have h5 := jo_p (Decidable.byContradiction c5) h3
    refine jaL0 (p := 82) rfl jM153 jq153_81 ?_
    refine jaL4 (p := 84) rfl jM153 jq153_82 ?_
    refine jaL5 (p := 86) rfl jM153 jq153_84 ?_
    refine jaL6 (p := 88) rfl jM153 jq153_86 ?_
    refine jw_callS [(.ref 2), (.ref 92), (.ref 93), (.ref 94)] jM153 jq153_88 rfl rfl rfl jM149 rfl rfl ?_
    obtain ⟨x9, b10, h10⟩ := jo_b h5
    refine jy149  b10 (fun σ9 s9 r9 => ?_) σ4 s4
    show jb_w (d + 9) 153 91 [some (.ref 2), some (jb_v l1), some (jb_v l2), some (jb_v l3), some (.ref 92), some (.ref 93), some (.ref 94), some (.ref 95), some (.ref 96), some (.ref 97), some (jb_v l10), some (jb_v (x1.2))] [(jb_v (x9.2))] σ9 Q
    refine jw_goto jM153 jq153_91 ?_
    obtain ⟨c11, h11⟩ := jo_i h10
    cases h11
    exact jw_iret jM153 jq153_120 (fun _ => c11) (k σ9 s9 r9)
def fl153 (K : jc_K) (G : jg_G) (l1 : Int) (l2 : Int) (l3 : Int) : Option ((jc_K × jg_G) × Int) := if l1 = 0 then (jo_l (jl_low l3 (3 : Int)) fun x20 => if x20 = 0 then ((fc126 K ).bind fun x23 => if 0 < ((x23.2) + 1) then if -2147483648 ≤ ((x23.2) + 1) ∧ ((x23.2) + 1) < 2147483648 then jo_l (jl_low (jl_sh l3 2) ((x23.2) + 1)) fun x27 => fl153_60 (x23.1) G l1 l2 l3 x27 else none else none) else (if 0 ≤ (12 + l2) ∧ (12 + l2) < 16 then if G 94 (12 + l2) = 0 then ((fc126 K ).bind fun x35 => if 0 < ((x35.2) + 1) then if -2147483648 ≤ ((x35.2) + 1) ∧ ((x35.2) + 1) < 2147483648 then jo_l (jl_low (jl_sh l3 2) ((x35.2) + 1)) fun x39 => fl153_60 (x35.1) G l1 l2 l3 x39 else none else none) else (if 0 < (G 94 (12 + l2)) then jo_l (jl_low (jl_sh l3 2) (G 94 (12 + l2))) fun x32 => if 0 ≤ ((16 * l2) + x32) ∧ ((16 * l2) + x32) < 64 then fl153_60 K G l1 l2 l3 (G 95 ((16 * l2) + x32)) else none else none) else none)) else (if l1 = 1 then ((jy_ok (fc113 K l2)).bind fun x14 => if x14.2 = (-4) then ((fl149 (x14.1) G ).bind fun x17 => if x17.2 = 0 ∨ x17.2 = 1 then some ((x17.1.1, x17.1.2), x17.2) else none) else (fl153_154 jo_N (x14.1) G l1 l2 l3 (x14.2) 0)) else ((jy_ok (fc114 K l2)).bind fun x3 => if x3.2 = (-4) then ((fl149 (x3.1) G ).bind fun x11 => if x11.2 = 0 ∨ x11.2 = 1 then some ((x11.1.1, x11.1.2), x11.2) else none) else ((fl148 (x3.1) G l2 0).bind fun x6 => (fl147 (x6.1.1) (x6.1.2) l2).bind fun x8 => if x3.2 = x6.2 then (some ((x8.1.1, x8.1.2), 1)) else (some ((x8.1.1, x8.1.2), 0)))))
theorem jy153 {d : Nat} {L : Nat} {xs : Nat → Int32} {Q : ib_O → Prop} {K : jc_K} {G : jg_G} {l1 : Int} {l2 : Int} {l3 : Int} (hl1 : jb_r l1) (hl2 : jb_r l2) (hl3 : jb_r l3) {r : (jc_K × jg_G) × Int} (h : fl153 K G l1 l2 l3 = some r) (k : ∀ σ, jy_S L xs r.1.1 r.1.2 σ → jb_r r.2 → Q (.inl (some (jb_v r.2)), σ)) : jy_W L xs K G (d + 9) 153 0 [some (.ref 2), some (jb_v l1), some (jb_v l2), some (jb_v l3), some (.ref 92), some (.ref 93), some (.ref 94), some (.ref 95), some (.ref 96), some (.ref 97), none, none] [] Q := by
  intro σ s
  unfold fl153 at h
  refine jiL1 (p := 1) rfl jM153 jq153_0 ?_
  refine jw_if (p := 4) rfl jM153 jq153_1 (jc_ne hl1 jb_r0) (fun c1 => ?_) (fun c1 => ?_)
  · have h1 := jo_n c1 h
    refine jiL1 (p := 122) rfl jM153 jq153_121 ?_
    refine jw_iconst (p := 123) rfl jM153 jq153_122 ?_
    refine jw_ic (p := 126) rfl jM153 jq153_123 (jc_ne hl1 (jb_rn rfl)) (fun c2 => ?_) (fun c2 => ?_)
    · have h2 := jo_n c2 h1
      refine jaL0 (p := 233) rfl jM153 jq153_232 ?_
      refine jiL2 (p := 234) rfl jM153 jq153_233 ?_
      refine jw_callV [(jb_v l2)] jM153 jq153_234 rfl rfl (jo_2 s.1) rfl jM114 rfl rfl ?_
      obtain ⟨x3, b4, h4⟩ := jo_b h2
      refine jd114 hl2 (jy_okb b4) (fun σ3 ts3 r3 => ?_) σ s.c
      have s3 := s.c' ts3
      have r3 := r3 _ rfl
      show jb_w (d + 9) 153 237 [some (.ref 2), some (jb_v l1), some (jb_v l2), some (jb_v l3), some (.ref 92), some (.ref 93), some (.ref 94), some (.ref 95), some (.ref 96), some (.ref 97), none, none] [(jb_v (x3.2))] σ3 Q
      refine jiS10 (p := 239) rfl jM153 jq153_237 ?_
      refine jiL10 (p := 241) rfl jM153 jq153_239 ?_
      refine jw_bipush (p := 243) rfl jM153 jq153_241 (by decide) ?_
      refine jw_ic (p := 246) rfl jM153 jq153_243 (jc_ne r3 (jb_rn rfl)) (fun c5 => ?_) (fun c5 => ?_)
      · have h5 := jo_n c5 h4
        refine jiL2 (p := 258) rfl jM153 jq153_257 ?_
        refine jw_iconst (p := 259) rfl jM153 jq153_258 ?_
        refine jaL4 (p := 261) rfl jM153 jq153_259 ?_
        refine jaL6 (p := 263) rfl jM153 jq153_261 ?_
        refine jaL7 (p := 265) rfl jM153 jq153_263 ?_
        refine jaL8 (p := 267) rfl jM153 jq153_265 ?_
        refine jaL9 (p := 269) rfl jM153 jq153_267 ?_
        refine jw_callS [(jb_v l2), (jb_v 0), (.ref 92), (.ref 94), (.ref 95), (.ref 96), (.ref 97)] jM153 jq153_269 rfl rfl rfl jM148 rfl rfl ?_
        obtain ⟨x6, b7, h7⟩ := jo_b h5
        refine jy148 hl2 (jb_rn rfl) b7 (fun σ6 s6 r6 => ?_) σ3 s3
        show jb_w (d + 9) 153 272 [some (.ref 2), some (jb_v l1), some (jb_v l2), some (jb_v l3), some (.ref 92), some (.ref 93), some (.ref 94), some (.ref 95), some (.ref 96), some (.ref 97), some (jb_v (x3.2)), none] [(jb_v (x6.2))] σ6 Q
        refine jiS11 (p := 274) rfl jM153 jq153_272 ?_
        refine jiL2 (p := 275) rfl jM153 jq153_274 ?_
        refine jaL5 (p := 277) rfl jM153 jq153_275 ?_
        refine jaL6 (p := 279) rfl jM153 jq153_277 ?_
        refine jw_callS [(jb_v l2), (.ref 93), (.ref 94)] jM153 jq153_279 rfl rfl rfl jM147 rfl rfl ?_
        obtain ⟨x8, b9, h9⟩ := jo_b h7
        refine jy147 hl2 b9 (fun σ8 s8 => ?_) σ6 s6
        show jb_w (d + 9) 153 282 [some (.ref 2), some (jb_v l1), some (jb_v l2), some (jb_v l3), some (.ref 92), some (.ref 93), some (.ref 94), some (.ref 95), some (.ref 96), some (.ref 97), some (jb_v (x3.2)), some (jb_v (x6.2))] [] σ8 Q
        refine jiL10 (p := 284) rfl jM153 jq153_282 ?_
        refine jiL11 (p := 286) rfl jM153 jq153_284 ?_
        refine jw_ic (p := 289) rfl jM153 jq153_286 (jc_ne r3 r6) (fun c10 => ?_) (fun c10 => ?_)
        · have h10 := jo_n c10 h9
          refine jw_iconst (p := 294) rfl jM153 jq153_293 ?_
          cases h10
          exact jw_iret jM153 jq153_294 (fun _ => Or.inl rfl) (k σ8 s8 (jb_rn rfl))
        · have h10 := jo_p (Decidable.byContradiction c10) h9
          refine jw_iconst (p := 290) rfl jM153 jq153_289 ?_
          refine jw_goto jM153 jq153_290 ?_
          cases h10
          exact jw_iret jM153 jq153_294 (fun _ => Or.inr rfl) (k σ8 s8 (jb_rn rfl))
      · have h5 := jo_p (Decidable.byContradiction c5) h4
        refine jaL0 (p := 247) rfl jM153 jq153_246 ?_
        refine jaL4 (p := 249) rfl jM153 jq153_247 ?_
        refine jaL5 (p := 251) rfl jM153 jq153_249 ?_
        refine jaL6 (p := 253) rfl jM153 jq153_251 ?_
        refine jw_callS [(.ref 2), (.ref 92), (.ref 93), (.ref 94)] jM153 jq153_253 rfl rfl rfl jM149 rfl rfl ?_
        obtain ⟨x11, b12, h12⟩ := jo_b h5
        refine jy149  b12 (fun σ11 s11 r11 => ?_) σ3 s3
        show jb_w (d + 9) 153 256 [some (.ref 2), some (jb_v l1), some (jb_v l2), some (jb_v l3), some (.ref 92), some (.ref 93), some (.ref 94), some (.ref 95), some (.ref 96), some (.ref 97), some (jb_v (x3.2)), none] [(jb_v (x11.2))] σ11 Q
        obtain ⟨c13, h13⟩ := jo_i h12
        cases h13
        exact jw_iret jM153 jq153_256 (fun _ => c13) (k σ11 s11 r11)
    · have h2 := jo_p (Decidable.byContradiction c2) h1
      refine jaL0 (p := 127) rfl jM153 jq153_126 ?_
      refine jiL2 (p := 128) rfl jM153 jq153_127 ?_
      refine jw_callV [(jb_v l2)] jM153 jq153_128 rfl rfl (jo_2 s.1) rfl jM113 rfl rfl ?_
      obtain ⟨x14, b15, h15⟩ := jo_b h2
      refine jd113 hl2 (jy_okb b15) (fun σ14 ts14 r14 => ?_) σ s.c
      have s14 := s.c' ts14
      have r14 := r14 _ rfl
      show jb_w (d + 9) 153 131 [some (.ref 2), some (jb_v l1), some (jb_v l2), some (jb_v l3), some (.ref 92), some (.ref 93), some (.ref 94), some (.ref 95), some (.ref 96), some (.ref 97), none, none] [(jb_v (x14.2))] σ14 Q
      refine jiS10 (p := 133) rfl jM153 jq153_131 ?_
      refine jiL10 (p := 135) rfl jM153 jq153_133 ?_
      refine jw_bipush (p := 137) rfl jM153 jq153_135 (by decide) ?_
      refine jw_ic (p := 140) rfl jM153 jq153_137 (jc_ne r14 (jb_rn rfl)) (fun c16 => ?_) (fun c16 => ?_)
      · have h16 := jo_n c16 h15
        refine jw_iconst (p := 152) rfl jM153 jq153_151 ?_
        refine jiS11 (p := 154) rfl jM153 jq153_152 ?_
        exact jy153_154 jo_N hl1 hl2 hl3 r14 (jb_rn rfl) h16 k σ14 s14
      · have h16 := jo_p (Decidable.byContradiction c16) h15
        refine jaL0 (p := 141) rfl jM153 jq153_140 ?_
        refine jaL4 (p := 143) rfl jM153 jq153_141 ?_
        refine jaL5 (p := 145) rfl jM153 jq153_143 ?_
        refine jaL6 (p := 147) rfl jM153 jq153_145 ?_
        refine jw_callS [(.ref 2), (.ref 92), (.ref 93), (.ref 94)] jM153 jq153_147 rfl rfl rfl jM149 rfl rfl ?_
        obtain ⟨x17, b18, h18⟩ := jo_b h16
        refine jy149  b18 (fun σ17 s17 r17 => ?_) σ14 s14
        show jb_w (d + 9) 153 150 [some (.ref 2), some (jb_v l1), some (jb_v l2), some (jb_v l3), some (.ref 92), some (.ref 93), some (.ref 94), some (.ref 95), some (.ref 96), some (.ref 97), some (jb_v (x14.2)), none] [(jb_v (x17.2))] σ17 Q
        obtain ⟨c19, h19⟩ := jo_i h18
        cases h19
        exact jw_iret jM153 jq153_150 (fun _ => c19) (k σ17 s17 r17)
  · have h1 := jo_p (Decidable.byContradiction c1) h
    refine jiL3 (p := 5) rfl jM153 jq153_4 ?_
    refine jw_iconst (p := 6) rfl jM153 jq153_5 ?_
    refine jw_callS [(jb_v l3), (jb_v 3)] jM153 jq153_6 rfl rfl rfl jM146 rfl rfl ?_
    obtain ⟨x20, e21, h21⟩ := jo_lb h1
    refine jy_low hl3 (by decide) (jb_rn rfl) (fun r20 => ?_) s
    rw [e21] at r20 ⊢
    show jb_w (d + 9) 153 9 [some (.ref 2), some (jb_v l1), some (jb_v l2), some (jb_v l3), some (.ref 92), some (.ref 93), some (.ref 94), some (.ref 95), some (.ref 96), some (.ref 97), none, none] [(jb_v x20)] σ Q
    refine jw_if (p := 12) rfl jM153 jq153_9 (jc_eq r20 jb_r0) (fun c22 => ?_) (fun c22 => ?_)
    · have h22 := jo_p c22 h21
      refine jiL3 (p := 23) rfl jM153 jq153_22 ?_
      refine jw_iconst (p := 24) rfl jM153 jq153_23 ?_
      refine jw_ishr (p := 25) rfl jM153 jq153_24 ?_
      refine jaL0 (p := 26) rfl jM153 jq153_25 ?_
      refine jw_callV [] jM153 jq153_26 rfl rfl (jo_2 s.1) rfl jM126 rfl rfl ?_
      obtain ⟨x23, b24, h24⟩ := jo_b h22
      refine jd126  b24 (fun σ23 ts23 r23 => ?_) σ s.c
      have s23 := s.c' ts23
      show jb_w (d + 9) 153 29 [some (.ref 2), some (jb_v l1), some (jb_v l2), some (jb_v l3), some (.ref 92), some (.ref 93), some (.ref 94), some (.ref 95), some (.ref 96), some (.ref 97), none, none] [(jb_v (x23.2)), (jb_v (jl_sh l3 2))] σ23 Q
      refine jw_iconst (p := 30) rfl jM153 jq153_29 ?_
      refine jw_iadd (p := 31) rfl jM153 jq153_30 ?_
      refine jw_callS [(jb_v (jl_sh l3 2)), (jb_v ((x23.2) + 1))] jM153 jq153_31 rfl rfl rfl jM146 rfl rfl ?_
      obtain ⟨c25, h25⟩ := jo_i h24
      obtain ⟨c26, h26⟩ := jo_i h25
      obtain ⟨x27, e28, h28⟩ := jo_lb h26
      refine jy_low (jl_sh_r _ _) c25 c26 (fun r27 => ?_) s23
      rw [e28] at r27 ⊢
      show jb_w (d + 9) 153 34 [some (.ref 2), some (jb_v l1), some (jb_v l2), some (jb_v l3), some (.ref 92), some (.ref 93), some (.ref 94), some (.ref 95), some (.ref 96), some (.ref 97), none, none] [(jb_v x27)] σ23 Q
      refine jw_goto jM153 jq153_34 ?_
      refine jiS10 (p := 60) rfl jM153 jq153_58 ?_
      exact jy153_60 hl1 hl2 hl3 r27 h28 k σ23 s23
    · have h22 := jo_n c22 h21
      refine jaL6 (p := 14) rfl jM153 jq153_12 ?_
      refine jw_bipush (p := 16) rfl jM153 jq153_14 (by decide) ?_
      refine jiL2 (p := 17) rfl jM153 jq153_16 ?_
      refine jw_iadd (p := 18) rfl jM153 jq153_17 ?_
      obtain ⟨c29, h29⟩ := jo_i h22
      refine jg_iald (p := 19) rfl jM153 jq153_18 (ja_94 s.1) c29.1 c29.2 s.g (by decide) rfl ?_
      refine jw_if (p := 22) rfl jM153 jq153_19 (jc_ne (s.r _ _) jb_r0) (fun c30 => ?_) (fun c30 => ?_)
      · have h30 := jo_n c30 h29
        refine jaL7 (p := 39) rfl jM153 jq153_37 ?_
        refine jw_bipush (p := 41) rfl jM153 jq153_39 (by decide) ?_
        refine jiL2 (p := 42) rfl jM153 jq153_41 ?_
        refine jw_imul (p := 43) rfl jM153 jq153_42 ?_
        refine jiL3 (p := 44) rfl jM153 jq153_43 ?_
        refine jw_iconst (p := 45) rfl jM153 jq153_44 ?_
        refine jw_ishr (p := 46) rfl jM153 jq153_45 ?_
        refine jaL6 (p := 48) rfl jM153 jq153_46 ?_
        refine jw_bipush (p := 50) rfl jM153 jq153_48 (by decide) ?_
        refine jiL2 (p := 51) rfl jM153 jq153_50 ?_
        refine jw_iadd (p := 52) rfl jM153 jq153_51 ?_
        refine jg_iald (p := 53) rfl jM153 jq153_52 (ja_94 s.1) c29.1 c29.2 s.g (by decide) rfl ?_
        refine jw_callS [(jb_v (jl_sh l3 2)), (jb_v (G 94 (12 + l2)))] jM153 jq153_53 rfl rfl rfl jM146 rfl rfl ?_
        obtain ⟨c31, h31⟩ := jo_i h30
        obtain ⟨x32, e33, h33⟩ := jo_lb h31
        refine jy_low (jl_sh_r _ _) c31 (s.r _ _) (fun r32 => ?_) s
        rw [e33] at r32 ⊢
        show jb_w (d + 9) 153 56 [some (.ref 2), some (jb_v l1), some (jb_v l2), some (jb_v l3), some (.ref 92), some (.ref 93), some (.ref 94), some (.ref 95), some (.ref 96), some (.ref 97), none, none] [(jb_v x32), (jb_v (16 * l2)), (.ref 95)] σ Q
        refine jw_iadd (p := 57) rfl jM153 jq153_56 ?_
        obtain ⟨c34, h34⟩ := jo_i h33
        refine jg_iald (p := 58) rfl jM153 jq153_57 (ja_95 s.1) c34.1 c34.2 s.g (by decide) rfl ?_
        refine jiS10 (p := 60) rfl jM153 jq153_58 ?_
        exact jy153_60 hl1 hl2 hl3 (s.r _ _) h34 k σ s
      · have h30 := jo_p (Decidable.byContradiction c30) h29
        refine jiL3 (p := 23) rfl jM153 jq153_22 ?_
        refine jw_iconst (p := 24) rfl jM153 jq153_23 ?_
        refine jw_ishr (p := 25) rfl jM153 jq153_24 ?_
        refine jaL0 (p := 26) rfl jM153 jq153_25 ?_
        refine jw_callV [] jM153 jq153_26 rfl rfl (jo_2 s.1) rfl jM126 rfl rfl ?_
        obtain ⟨x35, b36, h36⟩ := jo_b h30
        refine jd126  b36 (fun σ35 ts35 r35 => ?_) σ s.c
        have s35 := s.c' ts35
        show jb_w (d + 9) 153 29 [some (.ref 2), some (jb_v l1), some (jb_v l2), some (jb_v l3), some (.ref 92), some (.ref 93), some (.ref 94), some (.ref 95), some (.ref 96), some (.ref 97), none, none] [(jb_v (x35.2)), (jb_v (jl_sh l3 2))] σ35 Q
        refine jw_iconst (p := 30) rfl jM153 jq153_29 ?_
        refine jw_iadd (p := 31) rfl jM153 jq153_30 ?_
        refine jw_callS [(jb_v (jl_sh l3 2)), (jb_v ((x35.2) + 1))] jM153 jq153_31 rfl rfl rfl jM146 rfl rfl ?_
        obtain ⟨c37, h37⟩ := jo_i h36
        obtain ⟨c38, h38⟩ := jo_i h37
        obtain ⟨x39, e40, h40⟩ := jo_lb h38
        refine jy_low (jl_sh_r _ _) c37 c38 (fun r39 => ?_) s35
        rw [e40] at r39 ⊢
        show jb_w (d + 9) 153 34 [some (.ref 2), some (jb_v l1), some (jb_v l2), some (jb_v l3), some (.ref 92), some (.ref 93), some (.ref 94), some (.ref 95), some (.ref 96), some (.ref 97), none, none] [(jb_v x39)] σ35 Q
        refine jw_goto jM153 jq153_34 ?_
        refine jiS10 (p := 60) rfl jM153 jq153_58 ?_
        exact jy153_60 hl1 hl2 hl3 r39 h40 k σ35 s35
-- 154 law need 10
def fl154_s (L : Nat) (xs : Nat → Int32) : Nat → Nat → jc_K → jg_G → Int → Int → Int → Int → Int → Int → Int → Int → Option ((jc_K × jg_G) × Int)
  | 0, _, _, _, _, _, _, _, _, _, _, _ => none
  | m + 1, t, K, G, l8, l9, l10, l11, l12, l13, l14, l15 => if t = 85 then (if 90 ≤ l9 then (if l8 = 0 ∨ l8 = 1 then some ((K, G), l8) else none) else (if l8 = 0 then (if l8 = 0 ∨ l8 = 1 then some ((K, G), l8) else none) else (if 0 ≤ l9 then jo_l (jl_cell L xs l9) fun x6 => jo_l (jl_low x6 (24 : Int)) fun x8 => jo_l (jl_low (jl_sh x6 5) (4 : Int)) fun x10 => (fc126 K ).bind fun x12 => if 180 ≤ x12.2 then (fl154_s L xs m 161 (x12.1) G l8 l9 x6 x8 x10 (jl_sh x6 7) 0 0) else (if 0 ≤ (12 + x10) ∧ (12 + x10) < 16 then if 14 ≤ G 94 (12 + x10) then (fl154_s L xs m 161 (x12.1) G l8 l9 x6 x8 x10 (jl_sh x6 7) 0 0) else (fl154_s L xs m 161 (x12.1) G l8 l9 x6 x8 x10 (jl_sh x6 7) 1 0) else none) else none))) else if t = 161 then (if 0 ≤ (4 + l12) ∧ (4 + l12) < 16 then if G 94 (4 + l12) = 0 then ((jy_ok (fc107 K l12)).bind fun x19 => fl154_s L xs m 185 (x19.1) (jg_u G 94 (4 + l12) 1) l8 l9 l10 l11 l12 l13 l14 0) else (fl154_s L xs m 185 K G l8 l9 l10 l11 l12 l13 l14 0) else none) else if t = 185 then (if 12 ≤ l11 then (if 15 ≤ l11 then (if l11 = 15 then (if l14 = 0 then (fl154_s L xs m 490 K G 1 l9 l10 l11 l12 l13 l14 0) else ((fl152 K G 2 l12 l13).bind fun x57 => if x57.2 = 0 then (fl154_s L xs m 490 (x57.1.1) (x57.1.2) 0 l9 l10 l11 l12 l13 l14 0) else (fl154_s L xs m 490 (x57.1.1) (x57.1.2) 1 l9 l10 l11 l12 l13 l14 0))) else (if 21 ≤ l11 then (if l11 = 21 then (jo_l (jl_low l13 (2 : Int)) fun x36 => if x36 = 0 then (jo_l (jl_low (jl_sh l13 1) (24 : Int)) fun x44 => (jy_ok (fc116 K x44)).bind fun x46 => fl154_s L xs m 422 (x46.1) G l8 l9 l10 l11 l12 l13 l14 (x46.2)) else ((fc126 K ).bind fun x39 => if 190 ≤ x39.2 then (fl154_s L xs m 422 (x39.1) G l8 l9 l10 l11 l12 l13 l14 0) else ((jy_ok (fc115 (x39.1) )).bind fun x42 => fl154_s L xs m 422 (x42.1) G l8 l9 l10 l11 l12 l13 l14 (x42.2)))) else (if l11 = 22 then (jo_l (jl_low l13 (25 : Int)) fun x32 => (jy_ok (fc117 K x32)).bind fun x34 => fl154_s L xs m 490 (x34.1) G l8 l9 l10 l11 l12 l13 l14 0) else ((fc118 K ).bind fun x28 => (fl149 (x28.1) G ).bind fun x30 => fl154_s L xs m 490 (x30.1.1) (x30.1.2) (x30.2) l9 l10 l11 l12 l13 l14 0))) else (if 17 ≤ l11 then (if 20 ≤ l11 then ((fl153 K G 2 l12 l13).bind fun x50 => fl154_s L xs m 490 (x50.1.1) (x50.1.2) (x50.2) l9 l10 l11 l12 l13 l14 0) else ((fl153 K G 1 l12 l13).bind fun x52 => fl154_s L xs m 490 (x52.1.1) (x52.1.2) (x52.2) l9 l10 l11 l12 l13 l14 0)) else ((fl153 K G 0 l12 l13).bind fun x54 => fl154_s L xs m 490 (x54.1.1) (x54.1.2) (x54.2) l9 l10 l11 l12 l13 l14 0)))) else (if l14 = 0 then (fl154_s L xs m 490 K G 1 l9 l10 l11 l12 l13 l14 0) else ((fl152 K G 1 l12 l13).bind fun x61 => if x61.2 = 0 then (fl154_s L xs m 490 (x61.1.1) (x61.1.2) 0 l9 l10 l11 l12 l13 l14 0) else (fl154_s L xs m 490 (x61.1.1) (x61.1.2) 1 l9 l10 l11 l12 l13 l14 0)))) else (if l14 = 0 then (fl154_s L xs m 490 K G 1 l9 l10 l11 l12 l13 l14 0) else ((fl152 K G 0 l12 l13).bind fun x65 => if x65.2 = 0 then (fl154_s L xs m 490 (x65.1.1) (x65.1.2) 0 l9 l10 l11 l12 l13 l14 0) else (fl154_s L xs m 490 (x65.1.1) (x65.1.2) 1 l9 l10 l11 l12 l13 l14 0)))) else if t = 422 then (if l15 = (-4) then ((fl149 K G ).bind fun x70 => fl154_s L xs m 490 (x70.1.1) (x70.1.2) (x70.2) l9 l10 l11 l12 l13 l14 0) else (if l15 < 0 then (fl154_s L xs m 490 K G 0 l9 l10 l11 l12 l13 l14 0) else (fl154_s L xs m 490 K G 1 l9 l10 l11 l12 l13 l14 0))) else if t = 490 then (if l8 = 0 then (if -2147483648 ≤ (l9 + 1) ∧ (l9 + 1) < 2147483648 then fl154_s L xs m 85 K G 0 (l9 + 1) 0 0 0 0 0 0 else none) else ((fl151 K G l13).bind fun x74 => if x74.2 = 0 then (if -2147483648 ≤ (l9 + 1) ∧ (l9 + 1) < 2147483648 then fl154_s L xs m 85 (x74.1.1) (x74.1.2) 0 (l9 + 1) 0 0 0 0 0 0 else none) else (if -2147483648 ≤ (l9 + 1) ∧ (l9 + 1) < 2147483648 then fl154_s L xs m 85 (x74.1.1) (x74.1.2) 1 (l9 + 1) 0 0 0 0 0 0 else none))) else none
theorem jy154_s {d : Nat} {L : Nat} {xs : Nat → Int32} {Q : ib_O → Prop} : ∀ (m : Nat), (∀ {K : jc_K} {G : jg_G} {l8 : Int} {l9 : Int} {o10 : Option Value} {o11 : Option Value} {o12 : Option Value} {o13 : Option Value} {o14 : Option Value} {o15 : Option Value} (hl8 : jb_r l8) (hl9 : jb_r l9) {r : (jc_K × jg_G) × Int} (h : fl154_s L xs m 85 K G l8 l9 0 0 0 0 0 0 = some r) (k : ∀ σ, jy_S L xs r.1.1 r.1.2 σ → jb_r r.2 → Q (.inl (some (jb_v r.2)), σ)), jy_W L xs K G (d + 10) 154 85 [some (.ref 1), some (.ref 2), some (.ref 92), some (.ref 93), some (.ref 94), some (.ref 95), some (.ref 96), some (.ref 97), some (jb_v l8), some (jb_v l9), o10, o11, o12, o13, o14, o15] [] Q) ∧ (∀ {K : jc_K} {G : jg_G} {l8 : Int} {l9 : Int} {l10 : Int} {l11 : Int} {l12 : Int} {l13 : Int} {l14 : Int} {o15 : Option Value} (hl8 : jb_r l8) (hl9 : jb_r l9) (hl10 : jb_r l10) (hl11 : jb_r l11) (hl12 : jb_r l12) (hl13 : jb_r l13) (hl14 : jb_r l14) {r : (jc_K × jg_G) × Int} (h : fl154_s L xs m 161 K G l8 l9 l10 l11 l12 l13 l14 0 = some r) (k : ∀ σ, jy_S L xs r.1.1 r.1.2 σ → jb_r r.2 → Q (.inl (some (jb_v r.2)), σ)), jy_W L xs K G (d + 10) 154 161 [some (.ref 1), some (.ref 2), some (.ref 92), some (.ref 93), some (.ref 94), some (.ref 95), some (.ref 96), some (.ref 97), some (jb_v l8), some (jb_v l9), some (jb_v l10), some (jb_v l11), some (jb_v l12), some (jb_v l13), some (jb_v l14), o15] [] Q) ∧ (∀ {K : jc_K} {G : jg_G} {l8 : Int} {l9 : Int} {l10 : Int} {l11 : Int} {l12 : Int} {l13 : Int} {l14 : Int} {o15 : Option Value} (hl8 : jb_r l8) (hl9 : jb_r l9) (hl10 : jb_r l10) (hl11 : jb_r l11) (hl12 : jb_r l12) (hl13 : jb_r l13) (hl14 : jb_r l14) {r : (jc_K × jg_G) × Int} (h : fl154_s L xs m 185 K G l8 l9 l10 l11 l12 l13 l14 0 = some r) (k : ∀ σ, jy_S L xs r.1.1 r.1.2 σ → jb_r r.2 → Q (.inl (some (jb_v r.2)), σ)), jy_W L xs K G (d + 10) 154 185 [some (.ref 1), some (.ref 2), some (.ref 92), some (.ref 93), some (.ref 94), some (.ref 95), some (.ref 96), some (.ref 97), some (jb_v l8), some (jb_v l9), some (jb_v l10), some (jb_v l11), some (jb_v l12), some (jb_v l13), some (jb_v l14), o15] [] Q) ∧ (∀ {K : jc_K} {G : jg_G} {l8 : Int} {l9 : Int} {l10 : Int} {l11 : Int} {l12 : Int} {l13 : Int} {l14 : Int} {l15 : Int} (hl8 : jb_r l8) (hl9 : jb_r l9) (hl10 : jb_r l10) (hl11 : jb_r l11) (hl12 : jb_r l12) (hl13 : jb_r l13) (hl14 : jb_r l14) (hl15 : jb_r l15) {r : (jc_K × jg_G) × Int} (h : fl154_s L xs m 422 K G l8 l9 l10 l11 l12 l13 l14 l15 = some r) (k : ∀ σ, jy_S L xs r.1.1 r.1.2 σ → jb_r r.2 → Q (.inl (some (jb_v r.2)), σ)), jy_W L xs K G (d + 10) 154 422 [some (.ref 1), some (.ref 2), some (.ref 92), some (.ref 93), some (.ref 94), some (.ref 95), some (.ref 96), some (.ref 97), some (jb_v l8), some (jb_v l9), some (jb_v l10), some (jb_v l11), some (jb_v l12), some (jb_v l13), some (jb_v l14), some (jb_v l15)] [] Q) ∧ (∀ {K : jc_K} {G : jg_G} {l8 : Int} {l9 : Int} {l10 : Int} {l11 : Int} {l12 : Int} {l13 : Int} {l14 : Int} {o15 : Option Value} (hl8 : jb_r l8) (hl9 : jb_r l9) (hl10 : jb_r l10) (hl11 : jb_r l11) (hl12 : jb_r l12) (hl13 : jb_r l13) (hl14 : jb_r l14) {r : (jc_K × jg_G) × Int} (h : fl154_s L xs m 490 K G l8 l9 l10 l11 l12 l13 l14 0 = some r) (k : ∀ σ, jy_S L xs r.1.1 r.1.2 σ → jb_r r.2 → Q (.inl (some (jb_v r.2)), σ)), jy_W L xs K G (d + 10) 154 490 [some (.ref 1), some (.ref 2), some (.ref 92), some (.ref 93), some (.ref 94), some (.ref 95), some (.ref 96), some (.ref 97), some (jb_v l8), some (jb_v l9), some (jb_v l10), some (jb_v l11), some (jb_v l12), some (jb_v l13), some (jb_v l14), o15] [] Q) := by
  intro m
  induction m with
  | zero =>
    refine ⟨?_, ?_, ?_, ?_, ?_⟩
    · intro K G l8 l9 o10 o11 o12 o13 o14 o15 hl8 hl9 r h k
      cases h
    · intro K G l8 l9 l10 l11 l12 l13 l14 o15 hl8 hl9 hl10 hl11 hl12 hl13 hl14 r h k
      cases h
    · intro K G l8 l9 l10 l11 l12 l13 l14 o15 hl8 hl9 hl10 hl11 hl12 hl13 hl14 r h k
      cases h
    · intro K G l8 l9 l10 l11 l12 l13 l14 l15 hl8 hl9 hl10 hl11 hl12 hl13 hl14 hl15 r h k
      cases h
    · intro K G l8 l9 l10 l11 l12 l13 l14 o15 hl8 hl9 hl10 hl11 hl12 hl13 hl14 r h k
      cases h
  | succ m ih =>
    refine ⟨?_, ?_, ?_, ?_, ?_⟩
    · intro K G l8 l9 o10 o11 o12 o13 o14 o15 hl8 hl9 r h k σ s
      unfold fl154_s at h
      have h := jo_p rfl h
      refine jiL9 (p := 87) rfl jM154 jq154_85 ?_
      refine jw_bipush (p := 89) rfl jM154 jq154_87 (by decide) ?_
      refine jw_ic (p := 92) rfl jM154 jq154_89 (jc_ge hl9 (jb_rn rfl)) (fun c1 => ?_) (fun c1 => ?_)
      · have h1 := jo_p c1 h
        refine jiL8 (p := 523) rfl jM154 jq154_521 ?_
        obtain ⟨c2, h2⟩ := jo_i h1
        cases h2
        exact jw_iret jM154 jq154_523 (fun _ => c2) (k σ s hl8)
      · have h1 := jo_n c1 h
        refine jiL8 (p := 94) rfl jM154 jq154_92 ?_
        refine jw_if (p := 97) rfl jM154 jq154_94 (jc_eq hl8 jb_r0) (fun c3 => ?_) (fun c3 => ?_)
        · have h3 := jo_p c3 h1
          refine jiL8 (p := 523) rfl jM154 jq154_521 ?_
          obtain ⟨c4, h4⟩ := jo_i h3
          cases h4
          exact jw_iret jM154 jq154_523 (fun _ => c4) (k σ s hl8)
        · have h3 := jo_n c3 h1
          refine jaL0 (p := 98) rfl jM154 jq154_97 ?_
          refine jiL9 (p := 100) rfl jM154 jq154_98 ?_
          refine jw_callS [(.ref 1), (jb_v l9)] jM154 jq154_100 rfl rfl rfl jM145 rfl rfl ?_
          obtain ⟨c5, h5⟩ := jo_i h3
          obtain ⟨x6, e7, h7⟩ := jo_lb h5
          refine jy_cell c5 hl9 (fun r6 => ?_) s
          rw [e7] at r6 ⊢
          show jb_w (d + 10) 154 103 [some (.ref 1), some (.ref 2), some (.ref 92), some (.ref 93), some (.ref 94), some (.ref 95), some (.ref 96), some (.ref 97), some (jb_v l8), some (jb_v l9), o10, o11, o12, o13, o14, o15] [(jb_v x6)] σ Q
          refine jiS10 (p := 105) rfl jM154 jq154_103 ?_
          refine jiL10 (p := 107) rfl jM154 jq154_105 ?_
          refine jw_bipush (p := 109) rfl jM154 jq154_107 (by decide) ?_
          refine jw_callS [(jb_v x6), (jb_v 24)] jM154 jq154_109 rfl rfl rfl jM146 rfl rfl ?_
          obtain ⟨x8, e9, h9⟩ := jo_lb h7
          refine jy_low r6 (by decide) (jb_rn rfl) (fun r8 => ?_) s
          rw [e9] at r8 ⊢
          show jb_w (d + 10) 154 112 [some (.ref 1), some (.ref 2), some (.ref 92), some (.ref 93), some (.ref 94), some (.ref 95), some (.ref 96), some (.ref 97), some (jb_v l8), some (jb_v l9), some (jb_v x6), o11, o12, o13, o14, o15] [(jb_v x8)] σ Q
          refine jiS11 (p := 114) rfl jM154 jq154_112 ?_
          refine jiL10 (p := 116) rfl jM154 jq154_114 ?_
          refine jw_iconst (p := 117) rfl jM154 jq154_116 ?_
          refine jw_ishr (p := 118) rfl jM154 jq154_117 ?_
          refine jw_iconst (p := 119) rfl jM154 jq154_118 ?_
          refine jw_callS [(jb_v (jl_sh x6 5)), (jb_v 4)] jM154 jq154_119 rfl rfl rfl jM146 rfl rfl ?_
          obtain ⟨x10, e11, h11⟩ := jo_lb h9
          refine jy_low (jl_sh_r _ _) (by decide) (jb_rn rfl) (fun r10 => ?_) s
          rw [e11] at r10 ⊢
          show jb_w (d + 10) 154 122 [some (.ref 1), some (.ref 2), some (.ref 92), some (.ref 93), some (.ref 94), some (.ref 95), some (.ref 96), some (.ref 97), some (jb_v l8), some (jb_v l9), some (jb_v x6), some (jb_v x8), o12, o13, o14, o15] [(jb_v x10)] σ Q
          refine jiS12 (p := 124) rfl jM154 jq154_122 ?_
          refine jiL10 (p := 126) rfl jM154 jq154_124 ?_
          refine jw_bipush (p := 128) rfl jM154 jq154_126 (by decide) ?_
          refine jw_ishr (p := 129) rfl jM154 jq154_128 ?_
          refine jiS13 (p := 131) rfl jM154 jq154_129 ?_
          refine jaL1 (p := 132) rfl jM154 jq154_131 ?_
          refine jw_callV [] jM154 jq154_132 rfl rfl (jo_2 s.1) rfl jM126 rfl rfl ?_
          obtain ⟨x12, b13, h13⟩ := jo_b h11
          refine jd126  b13 (fun σ12 ts12 r12 => ?_) σ s.c
          have s12 := s.c' ts12
          show jb_w (d + 10) 154 135 [some (.ref 1), some (.ref 2), some (.ref 92), some (.ref 93), some (.ref 94), some (.ref 95), some (.ref 96), some (.ref 97), some (jb_v l8), some (jb_v l9), some (jb_v x6), some (jb_v x8), some (jb_v x10), some (jb_v (jl_sh x6 7)), o14, o15] [(jb_v (x12.2))] σ12 Q
          refine jw_sipush (p := 138) rfl jM154 jq154_135 (by decide) ?_
          refine jw_ic (p := 141) rfl jM154 jq154_138 (jc_ge r12 (jb_rn rfl)) (fun c14 => ?_) (fun c14 => ?_)
          · have h14 := jo_p c14 h13
            refine jw_iconst (p := 159) rfl jM154 jq154_158 ?_
            refine jiS14 (p := 161) rfl jM154 jq154_159 ?_
            exact ih.2.1 hl8 hl9 r6 r8 r10 (jl_sh_r _ _) (jb_rn rfl) h14 k σ12 s12
          · have h14 := jo_n c14 h13
            refine jaL4 (p := 143) rfl jM154 jq154_141 ?_
            refine jw_bipush (p := 145) rfl jM154 jq154_143 (by decide) ?_
            refine jiL12 (p := 147) rfl jM154 jq154_145 ?_
            refine jw_iadd (p := 148) rfl jM154 jq154_147 ?_
            obtain ⟨c15, h15⟩ := jo_i h14
            refine jg_iald (p := 149) rfl jM154 jq154_148 (ja_94 s12.1) c15.1 c15.2 s12.g (by decide) rfl ?_
            refine jw_bipush (p := 151) rfl jM154 jq154_149 (by decide) ?_
            refine jw_ic (p := 154) rfl jM154 jq154_151 (jc_ge (s12.r _ _) (jb_rn rfl)) (fun c16 => ?_) (fun c16 => ?_)
            · have h16 := jo_p c16 h15
              refine jw_iconst (p := 159) rfl jM154 jq154_158 ?_
              refine jiS14 (p := 161) rfl jM154 jq154_159 ?_
              exact ih.2.1 hl8 hl9 r6 r8 r10 (jl_sh_r _ _) (jb_rn rfl) h16 k σ12 s12
            · have h16 := jo_n c16 h15
              refine jw_iconst (p := 155) rfl jM154 jq154_154 ?_
              refine jw_goto jM154 jq154_155 ?_
              refine jiS14 (p := 161) rfl jM154 jq154_159 ?_
              exact ih.2.1 hl8 hl9 r6 r8 r10 (jl_sh_r _ _) (jb_rn rfl) h16 k σ12 s12
    · intro K G l8 l9 l10 l11 l12 l13 l14 o15 hl8 hl9 hl10 hl11 hl12 hl13 hl14 r h k σ s
      unfold fl154_s at h
      have h := jo_p rfl (jo_n (by decide) h)
      refine jaL4 (p := 163) rfl jM154 jq154_161 ?_
      refine jw_iconst (p := 164) rfl jM154 jq154_163 ?_
      refine jiL12 (p := 166) rfl jM154 jq154_164 ?_
      refine jw_iadd (p := 167) rfl jM154 jq154_166 ?_
      obtain ⟨c17, h17⟩ := jo_i h
      refine jg_iald (p := 168) rfl jM154 jq154_167 (ja_94 s.1) c17.1 c17.2 s.g (by decide) rfl ?_
      refine jw_if (p := 171) rfl jM154 jq154_168 (jc_ne (s.r _ _) jb_r0) (fun c18 => ?_) (fun c18 => ?_)
      · have h18 := jo_n c18 h17
        exact ih.2.2.1 hl8 hl9 hl10 hl11 hl12 hl13 hl14 h18 k σ s
      · have h18 := jo_p (Decidable.byContradiction c18) h17
        refine jaL1 (p := 172) rfl jM154 jq154_171 ?_
        refine jiL12 (p := 174) rfl jM154 jq154_172 ?_
        refine jw_callV [(jb_v l12)] jM154 jq154_174 rfl rfl (jo_2 s.1) rfl jM107 rfl rfl ?_
        obtain ⟨x19, b20, h20⟩ := jo_b h18
        refine jd107 hl12 (jy_okb b20) (fun σ19 ts19 _ => ?_) σ s.c
        have s19 := s.c' ts19
        show jb_w (d + 10) 154 177 [some (.ref 1), some (.ref 2), some (.ref 92), some (.ref 93), some (.ref 94), some (.ref 95), some (.ref 96), some (.ref 97), some (jb_v l8), some (jb_v l9), some (jb_v l10), some (jb_v l11), some (jb_v l12), some (jb_v l13), some (jb_v l14), o15] [] σ19 Q
        refine jaL4 (p := 179) rfl jM154 jq154_177 ?_
        refine jw_iconst (p := 180) rfl jM154 jq154_179 ?_
        refine jiL12 (p := 182) rfl jM154 jq154_180 ?_
        refine jw_iadd (p := 183) rfl jM154 jq154_182 ?_
        refine jw_iconst (p := 184) rfl jM154 jq154_183 ?_
        refine jg_iast (p := 185) rfl jM154 jq154_184 (ja_94 s19.1) c17.1 c17.2 s19.g (by decide) (jb_rn rfl) ?_
        intro σ21 ts21
        have s21 := s19.g' ts21
        exact ih.2.2.1 hl8 hl9 hl10 hl11 hl12 hl13 hl14 h20 k σ21 s21
    · intro K G l8 l9 l10 l11 l12 l13 l14 o15 hl8 hl9 hl10 hl11 hl12 hl13 hl14 r h k σ s
      unfold fl154_s at h
      have h := jo_p rfl (jo_n (by decide) (jo_n (by decide) h))
      refine jiL11 (p := 187) rfl jM154 jq154_185 ?_
      refine jw_bipush (p := 189) rfl jM154 jq154_187 (by decide) ?_
      refine jw_ic (p := 192) rfl jM154 jq154_189 (jc_ge hl11 (jb_rn rfl)) (fun c22 => ?_) (fun c22 => ?_)
      · have h22 := jo_p c22 h
        refine jiL11 (p := 231) rfl jM154 jq154_229 ?_
        refine jw_bipush (p := 233) rfl jM154 jq154_231 (by decide) ?_
        refine jw_ic (p := 236) rfl jM154 jq154_233 (jc_ge hl11 (jb_rn rfl)) (fun c23 => ?_) (fun c23 => ?_)
        · have h23 := jo_p c23 h22
          refine jiL11 (p := 275) rfl jM154 jq154_273 ?_
          refine jw_bipush (p := 277) rfl jM154 jq154_275 (by decide) ?_
          refine jw_ic (p := 280) rfl jM154 jq154_277 (jc_ne hl11 (jb_rn rfl)) (fun c24 => ?_) (fun c24 => ?_)
          · have h24 := jo_n c24 h23
            refine jiL11 (p := 319) rfl jM154 jq154_317 ?_
            refine jw_bipush (p := 321) rfl jM154 jq154_319 (by decide) ?_
            refine jw_ic (p := 324) rfl jM154 jq154_321 (jc_ge hl11 (jb_rn rfl)) (fun c25 => ?_) (fun c25 => ?_)
            · have h25 := jo_p c25 h24
              refine jiL11 (p := 372) rfl jM154 jq154_370 ?_
              refine jw_bipush (p := 374) rfl jM154 jq154_372 (by decide) ?_
              refine jw_ic (p := 377) rfl jM154 jq154_374 (jc_ne hl11 (jb_rn rfl)) (fun c26 => ?_) (fun c26 => ?_)
              · have h26 := jo_n c26 h25
                refine jiL11 (p := 457) rfl jM154 jq154_455 ?_
                refine jw_bipush (p := 459) rfl jM154 jq154_457 (by decide) ?_
                refine jw_ic (p := 462) rfl jM154 jq154_459 (jc_ne hl11 (jb_rn rfl)) (fun c27 => ?_) (fun c27 => ?_)
                · have h27 := jo_n c27 h26
                  refine jaL1 (p := 477) rfl jM154 jq154_476 ?_
                  refine jw_callV [] jM154 jq154_477 rfl rfl (jo_2 s.1) rfl jM118 rfl rfl ?_
                  obtain ⟨x28, b29, h29⟩ := jo_b h27
                  refine jd118  b29 (fun σ28 ts28 => ?_) σ s.c
                  have s28 := s.c' ts28
                  show jb_w (d + 10) 154 480 [some (.ref 1), some (.ref 2), some (.ref 92), some (.ref 93), some (.ref 94), some (.ref 95), some (.ref 96), some (.ref 97), some (jb_v l8), some (jb_v l9), some (jb_v l10), some (jb_v l11), some (jb_v l12), some (jb_v l13), some (jb_v l14), o15] [] σ28 Q
                  refine jaL1 (p := 481) rfl jM154 jq154_480 ?_
                  refine jaL2 (p := 482) rfl jM154 jq154_481 ?_
                  refine jaL3 (p := 483) rfl jM154 jq154_482 ?_
                  refine jaL4 (p := 485) rfl jM154 jq154_483 ?_
                  refine jw_callS [(.ref 2), (.ref 92), (.ref 93), (.ref 94)] jM154 jq154_485 rfl rfl rfl jM149 rfl rfl ?_
                  obtain ⟨x30, b31, h31⟩ := jo_b h29
                  refine jy149  b31 (fun σ30 s30 r30 => ?_) σ28 s28
                  show jb_w (d + 10) 154 488 [some (.ref 1), some (.ref 2), some (.ref 92), some (.ref 93), some (.ref 94), some (.ref 95), some (.ref 96), some (.ref 97), some (jb_v l8), some (jb_v l9), some (jb_v l10), some (jb_v l11), some (jb_v l12), some (jb_v l13), some (jb_v l14), o15] [(jb_v (x30.2))] σ30 Q
                  refine jiS8 (p := 490) rfl jM154 jq154_488 ?_
                  exact ih.2.2.2.2 r30 hl9 hl10 hl11 hl12 hl13 hl14 h31 k σ30 s30
                · have h27 := jo_p (Decidable.byContradiction c27) h26
                  refine jaL1 (p := 463) rfl jM154 jq154_462 ?_
                  refine jiL13 (p := 465) rfl jM154 jq154_463 ?_
                  refine jw_bipush (p := 467) rfl jM154 jq154_465 (by decide) ?_
                  refine jw_callS [(jb_v l13), (jb_v 25)] jM154 jq154_467 rfl rfl rfl jM146 rfl rfl ?_
                  obtain ⟨x32, e33, h33⟩ := jo_lb h27
                  refine jy_low hl13 (by decide) (jb_rn rfl) (fun r32 => ?_) s
                  rw [e33] at r32 ⊢
                  show jb_w (d + 10) 154 470 [some (.ref 1), some (.ref 2), some (.ref 92), some (.ref 93), some (.ref 94), some (.ref 95), some (.ref 96), some (.ref 97), some (jb_v l8), some (jb_v l9), some (jb_v l10), some (jb_v l11), some (jb_v l12), some (jb_v l13), some (jb_v l14), o15] [(jb_v x32), (.ref 2)] σ Q
                  refine jw_callV [(jb_v x32)] jM154 jq154_470 rfl rfl (jo_2 s.1) rfl jM117 rfl rfl ?_
                  obtain ⟨x34, b35, h35⟩ := jo_b h33
                  refine jd117 r32 (jy_okb b35) (fun σ34 ts34 _ => ?_) σ s.c
                  have s34 := s.c' ts34
                  show jb_w (d + 10) 154 473 [some (.ref 1), some (.ref 2), some (.ref 92), some (.ref 93), some (.ref 94), some (.ref 95), some (.ref 96), some (.ref 97), some (jb_v l8), some (jb_v l9), some (jb_v l10), some (jb_v l11), some (jb_v l12), some (jb_v l13), some (jb_v l14), o15] [] σ34 Q
                  refine jw_goto jM154 jq154_473 ?_
                  exact ih.2.2.2.2 hl8 hl9 hl10 hl11 hl12 hl13 hl14 h35 k σ34 s34
              · have h26 := jo_p (Decidable.byContradiction c26) h25
                refine jiL13 (p := 379) rfl jM154 jq154_377 ?_
                refine jw_iconst (p := 380) rfl jM154 jq154_379 ?_
                refine jw_callS [(jb_v l13), (jb_v 2)] jM154 jq154_380 rfl rfl rfl jM146 rfl rfl ?_
                obtain ⟨x36, e37, h37⟩ := jo_lb h26
                refine jy_low hl13 (by decide) (jb_rn rfl) (fun r36 => ?_) s
                rw [e37] at r36 ⊢
                show jb_w (d + 10) 154 383 [some (.ref 1), some (.ref 2), some (.ref 92), some (.ref 93), some (.ref 94), some (.ref 95), some (.ref 96), some (.ref 97), some (jb_v l8), some (jb_v l9), some (jb_v l10), some (jb_v l11), some (jb_v l12), some (jb_v l13), some (jb_v l14), o15] [(jb_v x36)] σ Q
                refine jw_if (p := 386) rfl jM154 jq154_383 (jc_ne r36 jb_r0) (fun c38 => ?_) (fun c38 => ?_)
                · have h38 := jo_n c38 h37
                  refine jaL1 (p := 403) rfl jM154 jq154_402 ?_
                  refine jw_callV [] jM154 jq154_403 rfl rfl (jo_2 s.1) rfl jM126 rfl rfl ?_
                  obtain ⟨x39, b40, h40⟩ := jo_b h38
                  refine jd126  b40 (fun σ39 ts39 r39 => ?_) σ s.c
                  have s39 := s.c' ts39
                  show jb_w (d + 10) 154 406 [some (.ref 1), some (.ref 2), some (.ref 92), some (.ref 93), some (.ref 94), some (.ref 95), some (.ref 96), some (.ref 97), some (jb_v l8), some (jb_v l9), some (jb_v l10), some (jb_v l11), some (jb_v l12), some (jb_v l13), some (jb_v l14), o15] [(jb_v (x39.2))] σ39 Q
                  refine jw_sipush (p := 409) rfl jM154 jq154_406 (by decide) ?_
                  refine jw_ic (p := 412) rfl jM154 jq154_409 (jc_ge r39 (jb_rn rfl)) (fun c41 => ?_) (fun c41 => ?_)
                  · have h41 := jo_p c41 h40
                    refine jw_iconst (p := 420) rfl jM154 jq154_419 ?_
                    refine jiS15 (p := 422) rfl jM154 jq154_420 ?_
                    exact ih.2.2.2.1 hl8 hl9 hl10 hl11 hl12 hl13 hl14 (jb_rn rfl) h41 k σ39 s39
                  · have h41 := jo_n c41 h40
                    refine jaL1 (p := 413) rfl jM154 jq154_412 ?_
                    refine jw_callV [] jM154 jq154_413 rfl rfl (jo_2 s39.1) rfl jM115 rfl rfl ?_
                    obtain ⟨x42, b43, h43⟩ := jo_b h41
                    refine jd115  (jy_okb b43) (fun σ42 ts42 r42 => ?_) σ39 s39.c
                    have s42 := s39.c' ts42
                    have r42 := r42 _ rfl
                    show jb_w (d + 10) 154 416 [some (.ref 1), some (.ref 2), some (.ref 92), some (.ref 93), some (.ref 94), some (.ref 95), some (.ref 96), some (.ref 97), some (jb_v l8), some (jb_v l9), some (jb_v l10), some (jb_v l11), some (jb_v l12), some (jb_v l13), some (jb_v l14), o15] [(jb_v (x42.2))] σ42 Q
                    refine jw_goto jM154 jq154_416 ?_
                    refine jiS15 (p := 422) rfl jM154 jq154_420 ?_
                    exact ih.2.2.2.1 hl8 hl9 hl10 hl11 hl12 hl13 hl14 r42 h43 k σ42 s42
                · have h38 := jo_p (Decidable.byContradiction c38) h37
                  refine jaL1 (p := 387) rfl jM154 jq154_386 ?_
                  refine jiL13 (p := 389) rfl jM154 jq154_387 ?_
                  refine jw_iconst (p := 390) rfl jM154 jq154_389 ?_
                  refine jw_ishr (p := 391) rfl jM154 jq154_390 ?_
                  refine jw_bipush (p := 393) rfl jM154 jq154_391 (by decide) ?_
                  refine jw_callS [(jb_v (jl_sh l13 1)), (jb_v 24)] jM154 jq154_393 rfl rfl rfl jM146 rfl rfl ?_
                  obtain ⟨x44, e45, h45⟩ := jo_lb h38
                  refine jy_low (jl_sh_r _ _) (by decide) (jb_rn rfl) (fun r44 => ?_) s
                  rw [e45] at r44 ⊢
                  show jb_w (d + 10) 154 396 [some (.ref 1), some (.ref 2), some (.ref 92), some (.ref 93), some (.ref 94), some (.ref 95), some (.ref 96), some (.ref 97), some (jb_v l8), some (jb_v l9), some (jb_v l10), some (jb_v l11), some (jb_v l12), some (jb_v l13), some (jb_v l14), o15] [(jb_v x44), (.ref 2)] σ Q
                  refine jw_callV [(jb_v x44)] jM154 jq154_396 rfl rfl (jo_2 s.1) rfl jM116 rfl rfl ?_
                  obtain ⟨x46, b47, h47⟩ := jo_b h45
                  refine jd116 r44 (jy_okb b47) (fun σ46 ts46 r46 => ?_) σ s.c
                  have s46 := s.c' ts46
                  have r46 := r46 _ rfl
                  show jb_w (d + 10) 154 399 [some (.ref 1), some (.ref 2), some (.ref 92), some (.ref 93), some (.ref 94), some (.ref 95), some (.ref 96), some (.ref 97), some (jb_v l8), some (jb_v l9), some (jb_v l10), some (jb_v l11), some (jb_v l12), some (jb_v l13), some (jb_v l14), o15] [(jb_v (x46.2))] σ46 Q
                  refine jw_goto jM154 jq154_399 ?_
                  refine jiS15 (p := 422) rfl jM154 jq154_420 ?_
                  exact ih.2.2.2.1 hl8 hl9 hl10 hl11 hl12 hl13 hl14 r46 h47 k σ46 s46
            · have h25 := jo_n c25 h24
              refine jaL1 (p := 325) rfl jM154 jq154_324 ?_
              refine jiL11 (p := 327) rfl jM154 jq154_325 ?_
              refine jw_bipush (p := 329) rfl jM154 jq154_327 (by decide) ?_
              refine jw_ic (p := 332) rfl jM154 jq154_329 (jc_ge hl11 (jb_rn rfl)) (fun c48 => ?_) (fun c48 => ?_)
              · have h48 := jo_p c48 h25
                refine jiL11 (p := 338) rfl jM154 jq154_336 ?_
                refine jw_bipush (p := 340) rfl jM154 jq154_338 (by decide) ?_
                refine jw_ic (p := 343) rfl jM154 jq154_340 (jc_ge hl11 (jb_rn rfl)) (fun c49 => ?_) (fun c49 => ?_)
                · have h49 := jo_p c49 h48
                  refine jw_iconst (p := 348) rfl jM154 jq154_347 ?_
                  refine jiL12 (p := 350) rfl jM154 jq154_348 ?_
                  refine jiL13 (p := 352) rfl jM154 jq154_350 ?_
                  refine jaL2 (p := 353) rfl jM154 jq154_352 ?_
                  refine jaL3 (p := 354) rfl jM154 jq154_353 ?_
                  refine jaL4 (p := 356) rfl jM154 jq154_354 ?_
                  refine jaL5 (p := 358) rfl jM154 jq154_356 ?_
                  refine jaL6 (p := 360) rfl jM154 jq154_358 ?_
                  refine jaL7 (p := 362) rfl jM154 jq154_360 ?_
                  refine jw_callS [(.ref 2), (jb_v 2), (jb_v l12), (jb_v l13), (.ref 92), (.ref 93), (.ref 94), (.ref 95), (.ref 96), (.ref 97)] jM154 jq154_362 rfl rfl rfl jM153 rfl rfl ?_
                  obtain ⟨x50, b51, h51⟩ := jo_b h49
                  refine jy153 (jb_rn rfl) hl12 hl13 b51 (fun σ50 s50 r50 => ?_) σ s
                  show jb_w (d + 10) 154 365 [some (.ref 1), some (.ref 2), some (.ref 92), some (.ref 93), some (.ref 94), some (.ref 95), some (.ref 96), some (.ref 97), some (jb_v l8), some (jb_v l9), some (jb_v l10), some (jb_v l11), some (jb_v l12), some (jb_v l13), some (jb_v l14), o15] [(jb_v (x50.2))] σ50 Q
                  refine jiS8 (p := 367) rfl jM154 jq154_365 ?_
                  refine jw_goto jM154 jq154_367 ?_
                  exact ih.2.2.2.2 r50 hl9 hl10 hl11 hl12 hl13 hl14 h51 k σ50 s50
                · have h49 := jo_n c49 h48
                  refine jw_iconst (p := 344) rfl jM154 jq154_343 ?_
                  refine jw_goto jM154 jq154_344 ?_
                  refine jiL12 (p := 350) rfl jM154 jq154_348 ?_
                  refine jiL13 (p := 352) rfl jM154 jq154_350 ?_
                  refine jaL2 (p := 353) rfl jM154 jq154_352 ?_
                  refine jaL3 (p := 354) rfl jM154 jq154_353 ?_
                  refine jaL4 (p := 356) rfl jM154 jq154_354 ?_
                  refine jaL5 (p := 358) rfl jM154 jq154_356 ?_
                  refine jaL6 (p := 360) rfl jM154 jq154_358 ?_
                  refine jaL7 (p := 362) rfl jM154 jq154_360 ?_
                  refine jw_callS [(.ref 2), (jb_v 1), (jb_v l12), (jb_v l13), (.ref 92), (.ref 93), (.ref 94), (.ref 95), (.ref 96), (.ref 97)] jM154 jq154_362 rfl rfl rfl jM153 rfl rfl ?_
                  obtain ⟨x52, b53, h53⟩ := jo_b h49
                  refine jy153 (jb_rn rfl) hl12 hl13 b53 (fun σ52 s52 r52 => ?_) σ s
                  show jb_w (d + 10) 154 365 [some (.ref 1), some (.ref 2), some (.ref 92), some (.ref 93), some (.ref 94), some (.ref 95), some (.ref 96), some (.ref 97), some (jb_v l8), some (jb_v l9), some (jb_v l10), some (jb_v l11), some (jb_v l12), some (jb_v l13), some (jb_v l14), o15] [(jb_v (x52.2))] σ52 Q
                  refine jiS8 (p := 367) rfl jM154 jq154_365 ?_
                  refine jw_goto jM154 jq154_367 ?_
                  exact ih.2.2.2.2 r52 hl9 hl10 hl11 hl12 hl13 hl14 h53 k σ52 s52
              · have h48 := jo_n c48 h25
                refine jw_iconst (p := 333) rfl jM154 jq154_332 ?_
                refine jw_goto jM154 jq154_333 ?_
                refine jiL12 (p := 350) rfl jM154 jq154_348 ?_
                refine jiL13 (p := 352) rfl jM154 jq154_350 ?_
                refine jaL2 (p := 353) rfl jM154 jq154_352 ?_
                refine jaL3 (p := 354) rfl jM154 jq154_353 ?_
                refine jaL4 (p := 356) rfl jM154 jq154_354 ?_
                refine jaL5 (p := 358) rfl jM154 jq154_356 ?_
                refine jaL6 (p := 360) rfl jM154 jq154_358 ?_
                refine jaL7 (p := 362) rfl jM154 jq154_360 ?_
                refine jw_callS [(.ref 2), (jb_v 0), (jb_v l12), (jb_v l13), (.ref 92), (.ref 93), (.ref 94), (.ref 95), (.ref 96), (.ref 97)] jM154 jq154_362 rfl rfl rfl jM153 rfl rfl ?_
                obtain ⟨x54, b55, h55⟩ := jo_b h48
                refine jy153 (jb_rn rfl) hl12 hl13 b55 (fun σ54 s54 r54 => ?_) σ s
                show jb_w (d + 10) 154 365 [some (.ref 1), some (.ref 2), some (.ref 92), some (.ref 93), some (.ref 94), some (.ref 95), some (.ref 96), some (.ref 97), some (jb_v l8), some (jb_v l9), some (jb_v l10), some (jb_v l11), some (jb_v l12), some (jb_v l13), some (jb_v l14), o15] [(jb_v (x54.2))] σ54 Q
                refine jiS8 (p := 367) rfl jM154 jq154_365 ?_
                refine jw_goto jM154 jq154_367 ?_
                exact ih.2.2.2.2 r54 hl9 hl10 hl11 hl12 hl13 hl14 h55 k σ54 s54
          · have h24 := jo_p (Decidable.byContradiction c24) h23
            refine jiL14 (p := 282) rfl jM154 jq154_280 ?_
            refine jw_if (p := 285) rfl jM154 jq154_282 (jc_eq hl14 jb_r0) (fun c56 => ?_) (fun c56 => ?_)
            · have h56 := jo_p c56 h24
              refine jw_iconst (p := 308) rfl jM154 jq154_307 ?_
              refine jw_goto jM154 jq154_308 ?_
              refine jiS8 (p := 314) rfl jM154 jq154_312 ?_
              refine jw_goto jM154 jq154_314 ?_
              exact ih.2.2.2.2 (jb_rn rfl) hl9 hl10 hl11 hl12 hl13 hl14 h56 k σ s
            · have h56 := jo_n c56 h24
              refine jaL1 (p := 286) rfl jM154 jq154_285 ?_
              refine jw_iconst (p := 287) rfl jM154 jq154_286 ?_
              refine jiL12 (p := 289) rfl jM154 jq154_287 ?_
              refine jiL13 (p := 291) rfl jM154 jq154_289 ?_
              refine jaL2 (p := 292) rfl jM154 jq154_291 ?_
              refine jaL3 (p := 293) rfl jM154 jq154_292 ?_
              refine jaL4 (p := 295) rfl jM154 jq154_293 ?_
              refine jaL5 (p := 297) rfl jM154 jq154_295 ?_
              refine jaL6 (p := 299) rfl jM154 jq154_297 ?_
              refine jaL7 (p := 301) rfl jM154 jq154_299 ?_
              refine jw_callS [(.ref 2), (jb_v 2), (jb_v l12), (jb_v l13), (.ref 92), (.ref 93), (.ref 94), (.ref 95), (.ref 96), (.ref 97)] jM154 jq154_301 rfl rfl rfl jM152 rfl rfl ?_
              obtain ⟨x57, b58, h58⟩ := jo_b h56
              refine jy152 (jb_rn rfl) hl12 hl13 b58 (fun σ57 s57 r57 => ?_) σ s
              show jb_w (d + 10) 154 304 [some (.ref 1), some (.ref 2), some (.ref 92), some (.ref 93), some (.ref 94), some (.ref 95), some (.ref 96), some (.ref 97), some (jb_v l8), some (jb_v l9), some (jb_v l10), some (jb_v l11), some (jb_v l12), some (jb_v l13), some (jb_v l14), o15] [(jb_v (x57.2))] σ57 Q
              refine jw_if (p := 307) rfl jM154 jq154_304 (jc_eq r57 jb_r0) (fun c59 => ?_) (fun c59 => ?_)
              · have h59 := jo_p c59 h58
                refine jw_iconst (p := 312) rfl jM154 jq154_311 ?_
                refine jiS8 (p := 314) rfl jM154 jq154_312 ?_
                refine jw_goto jM154 jq154_314 ?_
                exact ih.2.2.2.2 (jb_rn rfl) hl9 hl10 hl11 hl12 hl13 hl14 h59 k σ57 s57
              · have h59 := jo_n c59 h58
                refine jw_iconst (p := 308) rfl jM154 jq154_307 ?_
                refine jw_goto jM154 jq154_308 ?_
                refine jiS8 (p := 314) rfl jM154 jq154_312 ?_
                refine jw_goto jM154 jq154_314 ?_
                exact ih.2.2.2.2 (jb_rn rfl) hl9 hl10 hl11 hl12 hl13 hl14 h59 k σ57 s57
        · have h23 := jo_n c23 h22
          refine jiL14 (p := 238) rfl jM154 jq154_236 ?_
          refine jw_if (p := 241) rfl jM154 jq154_238 (jc_eq hl14 jb_r0) (fun c60 => ?_) (fun c60 => ?_)
          · have h60 := jo_p c60 h23
            refine jw_iconst (p := 264) rfl jM154 jq154_263 ?_
            refine jw_goto jM154 jq154_264 ?_
            refine jiS8 (p := 270) rfl jM154 jq154_268 ?_
            refine jw_goto jM154 jq154_270 ?_
            exact ih.2.2.2.2 (jb_rn rfl) hl9 hl10 hl11 hl12 hl13 hl14 h60 k σ s
          · have h60 := jo_n c60 h23
            refine jaL1 (p := 242) rfl jM154 jq154_241 ?_
            refine jw_iconst (p := 243) rfl jM154 jq154_242 ?_
            refine jiL12 (p := 245) rfl jM154 jq154_243 ?_
            refine jiL13 (p := 247) rfl jM154 jq154_245 ?_
            refine jaL2 (p := 248) rfl jM154 jq154_247 ?_
            refine jaL3 (p := 249) rfl jM154 jq154_248 ?_
            refine jaL4 (p := 251) rfl jM154 jq154_249 ?_
            refine jaL5 (p := 253) rfl jM154 jq154_251 ?_
            refine jaL6 (p := 255) rfl jM154 jq154_253 ?_
            refine jaL7 (p := 257) rfl jM154 jq154_255 ?_
            refine jw_callS [(.ref 2), (jb_v 1), (jb_v l12), (jb_v l13), (.ref 92), (.ref 93), (.ref 94), (.ref 95), (.ref 96), (.ref 97)] jM154 jq154_257 rfl rfl rfl jM152 rfl rfl ?_
            obtain ⟨x61, b62, h62⟩ := jo_b h60
            refine jy152 (jb_rn rfl) hl12 hl13 b62 (fun σ61 s61 r61 => ?_) σ s
            show jb_w (d + 10) 154 260 [some (.ref 1), some (.ref 2), some (.ref 92), some (.ref 93), some (.ref 94), some (.ref 95), some (.ref 96), some (.ref 97), some (jb_v l8), some (jb_v l9), some (jb_v l10), some (jb_v l11), some (jb_v l12), some (jb_v l13), some (jb_v l14), o15] [(jb_v (x61.2))] σ61 Q
            refine jw_if (p := 263) rfl jM154 jq154_260 (jc_eq r61 jb_r0) (fun c63 => ?_) (fun c63 => ?_)
            · have h63 := jo_p c63 h62
              refine jw_iconst (p := 268) rfl jM154 jq154_267 ?_
              refine jiS8 (p := 270) rfl jM154 jq154_268 ?_
              refine jw_goto jM154 jq154_270 ?_
              exact ih.2.2.2.2 (jb_rn rfl) hl9 hl10 hl11 hl12 hl13 hl14 h63 k σ61 s61
            · have h63 := jo_n c63 h62
              refine jw_iconst (p := 264) rfl jM154 jq154_263 ?_
              refine jw_goto jM154 jq154_264 ?_
              refine jiS8 (p := 270) rfl jM154 jq154_268 ?_
              refine jw_goto jM154 jq154_270 ?_
              exact ih.2.2.2.2 (jb_rn rfl) hl9 hl10 hl11 hl12 hl13 hl14 h63 k σ61 s61
      · have h22 := jo_n c22 h
        refine jiL14 (p := 194) rfl jM154 jq154_192 ?_
        refine jw_if (p := 197) rfl jM154 jq154_194 (jc_eq hl14 jb_r0) (fun c64 => ?_) (fun c64 => ?_)
        · have h64 := jo_p c64 h22
          refine jw_iconst (p := 220) rfl jM154 jq154_219 ?_
          refine jw_goto jM154 jq154_220 ?_
          refine jiS8 (p := 226) rfl jM154 jq154_224 ?_
          refine jw_goto jM154 jq154_226 ?_
          exact ih.2.2.2.2 (jb_rn rfl) hl9 hl10 hl11 hl12 hl13 hl14 h64 k σ s
        · have h64 := jo_n c64 h22
          refine jaL1 (p := 198) rfl jM154 jq154_197 ?_
          refine jw_iconst (p := 199) rfl jM154 jq154_198 ?_
          refine jiL12 (p := 201) rfl jM154 jq154_199 ?_
          refine jiL13 (p := 203) rfl jM154 jq154_201 ?_
          refine jaL2 (p := 204) rfl jM154 jq154_203 ?_
          refine jaL3 (p := 205) rfl jM154 jq154_204 ?_
          refine jaL4 (p := 207) rfl jM154 jq154_205 ?_
          refine jaL5 (p := 209) rfl jM154 jq154_207 ?_
          refine jaL6 (p := 211) rfl jM154 jq154_209 ?_
          refine jaL7 (p := 213) rfl jM154 jq154_211 ?_
          refine jw_callS [(.ref 2), (jb_v 0), (jb_v l12), (jb_v l13), (.ref 92), (.ref 93), (.ref 94), (.ref 95), (.ref 96), (.ref 97)] jM154 jq154_213 rfl rfl rfl jM152 rfl rfl ?_
          obtain ⟨x65, b66, h66⟩ := jo_b h64
          refine jy152 (jb_rn rfl) hl12 hl13 b66 (fun σ65 s65 r65 => ?_) σ s
          show jb_w (d + 10) 154 216 [some (.ref 1), some (.ref 2), some (.ref 92), some (.ref 93), some (.ref 94), some (.ref 95), some (.ref 96), some (.ref 97), some (jb_v l8), some (jb_v l9), some (jb_v l10), some (jb_v l11), some (jb_v l12), some (jb_v l13), some (jb_v l14), o15] [(jb_v (x65.2))] σ65 Q
          refine jw_if (p := 219) rfl jM154 jq154_216 (jc_eq r65 jb_r0) (fun c67 => ?_) (fun c67 => ?_)
          · have h67 := jo_p c67 h66
            refine jw_iconst (p := 224) rfl jM154 jq154_223 ?_
            refine jiS8 (p := 226) rfl jM154 jq154_224 ?_
            refine jw_goto jM154 jq154_226 ?_
            exact ih.2.2.2.2 (jb_rn rfl) hl9 hl10 hl11 hl12 hl13 hl14 h67 k σ65 s65
          · have h67 := jo_n c67 h66
            refine jw_iconst (p := 220) rfl jM154 jq154_219 ?_
            refine jw_goto jM154 jq154_220 ?_
            refine jiS8 (p := 226) rfl jM154 jq154_224 ?_
            refine jw_goto jM154 jq154_226 ?_
            exact ih.2.2.2.2 (jb_rn rfl) hl9 hl10 hl11 hl12 hl13 hl14 h67 k σ65 s65
    · intro K G l8 l9 l10 l11 l12 l13 l14 l15 hl8 hl9 hl10 hl11 hl12 hl13 hl14 hl15 r h k σ s
      unfold fl154_s at h
      have h := jo_p rfl (jo_n (by decide) (jo_n (by decide) (jo_n (by decide) h)))
      refine jiL15 (p := 424) rfl jM154 jq154_422 ?_
      refine jw_bipush (p := 426) rfl jM154 jq154_424 (by decide) ?_
      refine jw_ic (p := 429) rfl jM154 jq154_426 (jc_ne hl15 (jb_rn rfl)) (fun c68 => ?_) (fun c68 => ?_)
      · have h68 := jo_n c68 h
        refine jiL15 (p := 442) rfl jM154 jq154_440 ?_
        refine jw_if (p := 445) rfl jM154 jq154_442 (jc_lt hl15 jb_r0) (fun c69 => ?_) (fun c69 => ?_)
        · have h69 := jo_p c69 h68
          refine jw_iconst (p := 450) rfl jM154 jq154_449 ?_
          refine jiS8 (p := 452) rfl jM154 jq154_450 ?_
          refine jw_goto jM154 jq154_452 ?_
          exact ih.2.2.2.2 (jb_rn rfl) hl9 hl10 hl11 hl12 hl13 hl14 h69 k σ s
        · have h69 := jo_n c69 h68
          refine jw_iconst (p := 446) rfl jM154 jq154_445 ?_
          refine jw_goto jM154 jq154_446 ?_
          refine jiS8 (p := 452) rfl jM154 jq154_450 ?_
          refine jw_goto jM154 jq154_452 ?_
          exact ih.2.2.2.2 (jb_rn rfl) hl9 hl10 hl11 hl12 hl13 hl14 h69 k σ s
      · have h68 := jo_p (Decidable.byContradiction c68) h
        refine jaL1 (p := 430) rfl jM154 jq154_429 ?_
        refine jaL2 (p := 431) rfl jM154 jq154_430 ?_
        refine jaL3 (p := 432) rfl jM154 jq154_431 ?_
        refine jaL4 (p := 434) rfl jM154 jq154_432 ?_
        refine jw_callS [(.ref 2), (.ref 92), (.ref 93), (.ref 94)] jM154 jq154_434 rfl rfl rfl jM149 rfl rfl ?_
        obtain ⟨x70, b71, h71⟩ := jo_b h68
        refine jy149  b71 (fun σ70 s70 r70 => ?_) σ s
        show jb_w (d + 10) 154 437 [some (.ref 1), some (.ref 2), some (.ref 92), some (.ref 93), some (.ref 94), some (.ref 95), some (.ref 96), some (.ref 97), some (jb_v l8), some (jb_v l9), some (jb_v l10), some (jb_v l11), some (jb_v l12), some (jb_v l13), some (jb_v l14), some (jb_v l15)] [(jb_v (x70.2))] σ70 Q
        refine jw_goto jM154 jq154_437 ?_
        refine jiS8 (p := 452) rfl jM154 jq154_450 ?_
        refine jw_goto jM154 jq154_452 ?_
        exact ih.2.2.2.2 r70 hl9 hl10 hl11 hl12 hl13 hl14 h71 k σ70 s70
    · intro K G l8 l9 l10 l11 l12 l13 l14 o15 hl8 hl9 hl10 hl11 hl12 hl13 hl14 r h k σ s
      unfold fl154_s at h
      have h := jo_p rfl (jo_n (by decide) (jo_n (by decide) (jo_n (by decide) (jo_n (by decide) h))))
      refine jiL8 (p := 492) rfl jM154 jq154_490 ?_
      refine jw_if (p := 495) rfl jM154 jq154_492 (jc_eq hl8 jb_r0) (fun c72 => ?_) (fun c72 => ?_)
      · have h72 := jo_p c72 h
        refine jw_iconst (p := 513) rfl jM154 jq154_512 ?_
        refine jiS8 (p := 515) rfl jM154 jq154_513 ?_
        refine jiI9 (p := 518) rfl jM154 jq154_515 ?_
        refine jw_goto jM154 jq154_518 ?_
        obtain ⟨c73, h73⟩ := jo_i h72
        exact ih.1 (jb_rn rfl) c73 h73 k σ s
      · have h72 := jo_n c72 h
        refine jaL1 (p := 496) rfl jM154 jq154_495 ?_
        refine jiL13 (p := 498) rfl jM154 jq154_496 ?_
        refine jaL2 (p := 499) rfl jM154 jq154_498 ?_
        refine jaL3 (p := 500) rfl jM154 jq154_499 ?_
        refine jaL4 (p := 502) rfl jM154 jq154_500 ?_
        refine jw_callS [(.ref 2), (jb_v l13), (.ref 92), (.ref 93), (.ref 94)] jM154 jq154_502 rfl rfl rfl jM151 rfl rfl ?_
        obtain ⟨x74, b75, h75⟩ := jo_b h72
        refine jy151 hl13 b75 (fun σ74 s74 r74 => ?_) σ s
        show jb_w (d + 10) 154 505 [some (.ref 1), some (.ref 2), some (.ref 92), some (.ref 93), some (.ref 94), some (.ref 95), some (.ref 96), some (.ref 97), some (jb_v l8), some (jb_v l9), some (jb_v l10), some (jb_v l11), some (jb_v l12), some (jb_v l13), some (jb_v l14), o15] [(jb_v (x74.2))] σ74 Q
        refine jw_if (p := 508) rfl jM154 jq154_505 (jc_eq r74 jb_r0) (fun c76 => ?_) (fun c76 => ?_)
        · have h76 := jo_p c76 h75
          refine jw_iconst (p := 513) rfl jM154 jq154_512 ?_
          refine jiS8 (p := 515) rfl jM154 jq154_513 ?_
          refine jiI9 (p := 518) rfl jM154 jq154_515 ?_
          refine jw_goto jM154 jq154_518 ?_
          obtain ⟨c77, h77⟩ := jo_i h76
          exact ih.1 (jb_rn rfl) c77 h77 k σ74 s74
        · have h76 := jo_n c76 h75
          refine jw_iconst (p := 509) rfl jM154 jq154_508 ?_
          refine jw_goto jM154 jq154_509 ?_
          refine jiS8 (p := 515) rfl jM154 jq154_513 ?_
          refine jiI9 (p := 518) rfl jM154 jq154_515 ?_
          refine jw_goto jM154 jq154_518 ?_
          obtain ⟨c78, h78⟩ := jo_i h76
          exact ih.1 (jb_rn rfl) c78 h78 k σ74 s74

def fl154_48 (L : Nat) (xs : Nat → Int32) : Nat → jc_K → jg_G → Int → Int → Option ((jc_K × jg_G) × Int)
  | 0, _, _, _, _ => none
  | m + 1, K, G, l8, l9 => if 64 ≤ l9 then (fl154_s L xs jo_N 85 K G l8 0 0 0 0 0 0 0) else (if 0 ≤ l9 ∧ l9 < 64 then if 0 ≤ l9 then if 0 ≤ (l9 % 32) ∧ (l9 % 32) < 32 then if 0 ≤ l9 then if 0 ≤ (l9 % 4) ∧ (l9 % 4) < 16 then if -2147483648 ≤ (l9 + 1) ∧ (l9 + 1) < 2147483648 then fl154_48 L xs m K (jg_u (jg_u (jg_u G 92 l9 (-1)) 93 (l9 % 32) (-1)) 94 (l9 % 4) (-1)) l8 (l9 + 1) else none else none else none else none else none else none)
theorem jy154_48 {d : Nat} {L : Nat} {xs : Nat → Int32} {Q : ib_O → Prop} : ∀ (m : Nat) {K : jc_K} {G : jg_G} {l8 : Int} {l9 : Int} (hl8 : jb_r l8) (hl9 : jb_r l9) {r : (jc_K × jg_G) × Int} (h : fl154_48 L xs m K G l8 l9 = some r) (k : ∀ σ, jy_S L xs r.1.1 r.1.2 σ → jb_r r.2 → Q (.inl (some (jb_v r.2)), σ)), jy_W L xs K G (d + 10) 154 48 [some (.ref 1), some (.ref 2), some (.ref 92), some (.ref 93), some (.ref 94), some (.ref 95), some (.ref 96), some (.ref 97), some (jb_v l8), some (jb_v l9), none, none, none, none, none, none] [] Q := by
  intro m
  induction m with
  | zero =>
    intro K G l8 l9 hl8 hl9 r h k
    cases h
  | succ m ih =>
    intro K G l8 l9 hl8 hl9 r h k σ s
    unfold fl154_48 at h
    refine jiL9 (p := 50) rfl jM154 jq154_48 ?_
    refine jw_bipush (p := 52) rfl jM154 jq154_50 (by decide) ?_
    refine jw_ic (p := 55) rfl jM154 jq154_52 (jc_ge hl9 (jb_rn rfl)) (fun c1 => ?_) (fun c1 => ?_)
    · have h1 := jo_p c1 h
      refine jw_iconst (p := 83) rfl jM154 jq154_82 ?_
      refine jiS9 (p := 85) rfl jM154 jq154_83 ?_
      exact (jy154_s jo_N).1 hl8 (jb_rn rfl) h1 k σ s
    · have h1 := jo_n c1 h
      refine jaL2 (p := 56) rfl jM154 jq154_55 ?_
      refine jiL9 (p := 58) rfl jM154 jq154_56 ?_
      refine jw_iconst (p := 59) rfl jM154 jq154_58 ?_
      obtain ⟨c2, h2⟩ := jo_i h1
      refine jg_iast (p := 60) rfl jM154 jq154_59 (ja_92 s.1) c2.1 c2.2 s.g (by decide) (jb_rn rfl) ?_
      intro σ3 ts3
      have s3 := s.g' ts3
      refine jaL3 (p := 61) rfl jM154 jq154_60 ?_
      refine jiL9 (p := 63) rfl jM154 jq154_61 ?_
      refine jw_bipush (p := 65) rfl jM154 jq154_63 (by decide) ?_
      obtain ⟨c4, h4⟩ := jo_i h2
      refine jw_irem (p := 66) rfl jM154 jq154_65 c4 hl9 (by decide) (jb_rn rfl) ?_
      refine jw_iconst (p := 67) rfl jM154 jq154_66 ?_
      obtain ⟨c5, h5⟩ := jo_i h4
      refine jg_iast (p := 68) rfl jM154 jq154_67 (ja_93 s3.1) c5.1 c5.2 s3.g (by decide) (jb_rn rfl) ?_
      intro σ6 ts6
      have s6 := s3.g' ts6
      refine jaL4 (p := 70) rfl jM154 jq154_68 ?_
      refine jiL9 (p := 72) rfl jM154 jq154_70 ?_
      refine jw_iconst (p := 73) rfl jM154 jq154_72 ?_
      obtain ⟨c7, h7⟩ := jo_i h5
      refine jw_irem (p := 74) rfl jM154 jq154_73 c7 hl9 (by decide) (jb_rn rfl) ?_
      refine jw_iconst (p := 75) rfl jM154 jq154_74 ?_
      obtain ⟨c8, h8⟩ := jo_i h7
      refine jg_iast (p := 76) rfl jM154 jq154_75 (ja_94 s6.1) c8.1 c8.2 s6.g (by decide) (jb_rn rfl) ?_
      intro σ9 ts9
      have s9 := s6.g' ts9
      refine jiI9 (p := 79) rfl jM154 jq154_76 ?_
      refine jw_goto jM154 jq154_79 ?_
      obtain ⟨c10, h10⟩ := jo_i h8
      exact ih hl8 c10 h10 k σ9 s9
