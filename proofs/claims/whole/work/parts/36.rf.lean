/-! the reference as functions: written by wip/tools/genf.py (gr5.py) -/
-- 155 takesPart need 1
def fo155_13 : Nat → jg_G → Int → Int → Int → Int → Int → Option (jg_G × Int)
  | 0, _, _, _, _, _, _ => none
  | m + 1, G, l1, l2, l3, l4, l5 => if l4 ≤ l5 then (if 0 ≤ ((67 * l2) + 2) ∧ ((67 * l2) + 2) < 305118 then if -2147483648 ≤ (l4 - l3) ∧ (l4 - l3) < 2147483648 then some (jg_u G 93 ((67 * l2) + 2) (l4 - l3), 0) else none else none) else (if 0 ≤ (((67 * l1) + 3) + (2 * l5)) ∧ (((67 * l1) + 3) + (2 * l5)) < 305118 then if 0 ≤ (((67 * l1) + 4) + (2 * l5)) ∧ (((67 * l1) + 4) + (2 * l5)) < 305118 then if 0 ≤ (((67 * l2) + 3) + (2 * (l5 - l3))) ∧ (((67 * l2) + 3) + (2 * (l5 - l3))) < 305118 then if 0 ≤ (((67 * l2) + 4) + (2 * (l5 - l3))) ∧ (((67 * l2) + 4) + (2 * (l5 - l3))) < 305118 then if -2147483648 ≤ (l5 + 1) ∧ (l5 + 1) < 2147483648 then fo155_13 m (jg_u (jg_u G 93 (((67 * l2) + 3) + (2 * (l5 - l3))) (G 93 (((67 * l1) + 3) + (2 * l5)))) 93 (((67 * l2) + 4) + (2 * (l5 - l3))) (G 93 (((67 * l1) + 4) + (2 * l5)))) l1 l2 l3 l4 (l5 + 1) else none else none else none else none else none)
theorem jf155_13 {d : Nat} {σ0 : ib_H} {Q : ib_O → Prop} : ∀ (m : Nat) {G : jg_G} {l1 : Int} {l2 : Int} {l3 : Int} {l4 : Int} {l5 : Int} (hl1 : jb_r l1) (hl2 : jb_r l2) (hl3 : jb_r l3) (hl4 : jb_r l4) (hl5 : jb_r l5) {r : jg_G × Int} (h : fo155_13 m G l1 l2 l3 l4 l5 = some r) (k : ∀ σ, jg_S σ0 r.1 σ → Q (.inl none, σ)), jg_W σ0 G (d + 1) 155 13 [some (.ref 92), some (jb_v l1), some (jb_v l2), some (jb_v l3), some (jb_v l4), some (jb_v l5)] [] Q := by
  intro m
  induction m with
  | zero =>
    intro G l1 l2 l3 l4 l5 hl1 hl2 hl3 hl4 hl5 r h k
    cases h
  | succ m ih =>
    intro G l1 l2 l3 l4 l5 hl1 hl2 hl3 hl4 hl5 r h k σ s
    unfold fo155_13 at h
    refine jiL5 (p := 15) rfl jM155 jq155_13 ?_
    refine jiL4 (p := 17) rfl jM155 jq155_15 ?_
    refine jw_ic (p := 20) rfl jM155 jq155_17 (jc_ge hl5 hl4) (fun c1 => ?_) (fun c1 => ?_)
    · have h1 := jo_p c1 h
      refine jaL0 (p := 50) rfl jM155 jq155_49 ?_
      refine jw_getP (p := 53) (i := 1) (q := 93) rfl jM155 jq155_50 rfl (jo_92 s.1) je_11_1 (jp_92_1 s.1) ?_
      refine jw_bipush (p := 55) rfl jM155 jq155_53 (by decide) ?_
      refine jiL2 (p := 56) rfl jM155 jq155_55 ?_
      refine jw_imul (p := 57) rfl jM155 jq155_56 ?_
      refine jw_iconst (p := 58) rfl jM155 jq155_57 ?_
      refine jw_iadd (p := 59) rfl jM155 jq155_58 ?_
      refine jiL4 (p := 61) rfl jM155 jq155_59 ?_
      refine jiL3 (p := 62) rfl jM155 jq155_61 ?_
      refine jw_isub (p := 63) rfl jM155 jq155_62 ?_
      obtain ⟨c2, h2⟩ := jo_i h1
      obtain ⟨c3, h3⟩ := jo_i h2
      refine jg_iast (p := 64) rfl jM155 jq155_63 (ja_93 s.1) c2.1 c2.2 s (by decide) c3 ?_
      intro σ4 s4
      cases h3
      exact jw_vret jM155 jq155_64 (k σ4 s4)
    · have h1 := jo_n c1 h
      refine jaL0 (p := 21) rfl jM155 jq155_20 ?_
      refine jiL2 (p := 22) rfl jM155 jq155_21 ?_
      refine jiL5 (p := 24) rfl jM155 jq155_22 ?_
      refine jiL3 (p := 25) rfl jM155 jq155_24 ?_
      refine jw_isub (p := 26) rfl jM155 jq155_25 ?_
      refine jaL0 (p := 27) rfl jM155 jq155_26 ?_
      refine jiL1 (p := 28) rfl jM155 jq155_27 ?_
      refine jiL5 (p := 30) rfl jM155 jq155_28 ?_
      refine jw_callV [(jb_v l1), (jb_v l5)] jM155 jq155_30 rfl rfl (jo_92 s.1) rfl jM151 rfl rfl ?_
      show jb_w d 151 0 [some (.ref 92), some (jb_v l1), some (jb_v l5)] [] σ (jb_k (d + 1) 155 30 [some (.ref 92), some (jb_v l1), some (jb_v l2), some (jb_v l3), some (jb_v l4), some (jb_v l5)] [(jb_v (l5 - l3)), (jb_v l2), (.ref 92)] Q)
      refine jaL0 (p := 1) rfl jM151 jq151_0 ?_
      refine jw_getP (p := 4) (i := 1) (q := 93) rfl jM151 jq151_1 rfl (jo_92 s.1) je_11_1 (jp_92_1 s.1) ?_
      refine jw_bipush (p := 6) rfl jM151 jq151_4 (by decide) ?_
      refine jiL1 (p := 7) rfl jM151 jq151_6 ?_
      refine jw_imul (p := 8) rfl jM151 jq151_7 ?_
      refine jw_iconst (p := 9) rfl jM151 jq151_8 ?_
      refine jw_iadd (p := 10) rfl jM151 jq151_9 ?_
      refine jw_iconst (p := 11) rfl jM151 jq151_10 ?_
      refine jiL2 (p := 12) rfl jM151 jq151_11 ?_
      refine jw_imul (p := 13) rfl jM151 jq151_12 ?_
      refine jw_iadd (p := 14) rfl jM151 jq151_13 ?_
      obtain ⟨c5, h5⟩ := jo_i h1
      refine jg_iald (p := 15) rfl jM151 jq151_14 (ja_93 s.1) c5.1 c5.2 s (by decide) rfl ?_
      refine jw_iret jM151 jq151_15 (fun z => absurd z (by decide)) ?_
      show jb_w (d + 1) 155 33 [some (.ref 92), some (jb_v l1), some (jb_v l2), some (jb_v l3), some (jb_v l4), some (jb_v l5)] [(jb_v (G 93 (((67 * l1) + 3) + (2 * l5)))), (jb_v (l5 - l3)), (jb_v l2), (.ref 92)] σ Q
      refine jaL0 (p := 34) rfl jM155 jq155_33 ?_
      refine jiL1 (p := 35) rfl jM155 jq155_34 ?_
      refine jiL5 (p := 37) rfl jM155 jq155_35 ?_
      refine jw_callV [(jb_v l1), (jb_v l5)] jM155 jq155_37 rfl rfl (jo_92 s.1) rfl jM152 rfl rfl ?_
      show jb_w d 152 0 [some (.ref 92), some (jb_v l1), some (jb_v l5)] [] σ (jb_k (d + 1) 155 37 [some (.ref 92), some (jb_v l1), some (jb_v l2), some (jb_v l3), some (jb_v l4), some (jb_v l5)] [(jb_v (G 93 (((67 * l1) + 3) + (2 * l5)))), (jb_v (l5 - l3)), (jb_v l2), (.ref 92)] Q)
      refine jaL0 (p := 1) rfl jM152 jq152_0 ?_
      refine jw_getP (p := 4) (i := 1) (q := 93) rfl jM152 jq152_1 rfl (jo_92 s.1) je_11_1 (jp_92_1 s.1) ?_
      refine jw_bipush (p := 6) rfl jM152 jq152_4 (by decide) ?_
      refine jiL1 (p := 7) rfl jM152 jq152_6 ?_
      refine jw_imul (p := 8) rfl jM152 jq152_7 ?_
      refine jw_iconst (p := 9) rfl jM152 jq152_8 ?_
      refine jw_iadd (p := 10) rfl jM152 jq152_9 ?_
      refine jw_iconst (p := 11) rfl jM152 jq152_10 ?_
      refine jiL2 (p := 12) rfl jM152 jq152_11 ?_
      refine jw_imul (p := 13) rfl jM152 jq152_12 ?_
      refine jw_iadd (p := 14) rfl jM152 jq152_13 ?_
      obtain ⟨c6, h6⟩ := jo_i h5
      refine jg_iald (p := 15) rfl jM152 jq152_14 (ja_93 s.1) c6.1 c6.2 s (by decide) rfl ?_
      refine jw_iret jM152 jq152_15 (fun z => absurd z (by decide)) ?_
      show jb_w (d + 1) 155 40 [some (.ref 92), some (jb_v l1), some (jb_v l2), some (jb_v l3), some (jb_v l4), some (jb_v l5)] [(jb_v (G 93 (((67 * l1) + 4) + (2 * l5)))), (jb_v (G 93 (((67 * l1) + 3) + (2 * l5)))), (jb_v (l5 - l3)), (jb_v l2), (.ref 92)] σ Q
      refine jw_callV [(jb_v l2), (jb_v (l5 - l3)), (jb_v (G 93 (((67 * l1) + 3) + (2 * l5)))), (jb_v (G 93 (((67 * l1) + 4) + (2 * l5))))] jM155 jq155_40 rfl rfl (jo_92 s.1) rfl jM153 rfl rfl ?_
      show jb_w d 153 0 [some (.ref 92), some (jb_v l2), some (jb_v (l5 - l3)), some (jb_v (G 93 (((67 * l1) + 3) + (2 * l5)))), some (jb_v (G 93 (((67 * l1) + 4) + (2 * l5))))] [] σ (jb_k (d + 1) 155 40 [some (.ref 92), some (jb_v l1), some (jb_v l2), some (jb_v l3), some (jb_v l4), some (jb_v l5)] [] Q)
      refine jaL0 (p := 1) rfl jM153 jq153_0 ?_
      refine jw_getP (p := 4) (i := 1) (q := 93) rfl jM153 jq153_1 rfl (jo_92 s.1) je_11_1 (jp_92_1 s.1) ?_
      refine jw_bipush (p := 6) rfl jM153 jq153_4 (by decide) ?_
      refine jiL1 (p := 7) rfl jM153 jq153_6 ?_
      refine jw_imul (p := 8) rfl jM153 jq153_7 ?_
      refine jw_iconst (p := 9) rfl jM153 jq153_8 ?_
      refine jw_iadd (p := 10) rfl jM153 jq153_9 ?_
      refine jw_iconst (p := 11) rfl jM153 jq153_10 ?_
      refine jiL2 (p := 12) rfl jM153 jq153_11 ?_
      refine jw_imul (p := 13) rfl jM153 jq153_12 ?_
      refine jw_iadd (p := 14) rfl jM153 jq153_13 ?_
      refine jiL3 (p := 15) rfl jM153 jq153_14 ?_
      obtain ⟨c7, h7⟩ := jo_i h6
      refine jg_iast (p := 16) rfl jM153 jq153_15 (ja_93 s.1) c7.1 c7.2 s (by decide) (s.r _ _) ?_
      intro σ8 s8
      refine jaL0 (p := 17) rfl jM153 jq153_16 ?_
      refine jw_getP (p := 20) (i := 1) (q := 93) rfl jM153 jq153_17 rfl (jo_92 s8.1) je_11_1 (jp_92_1 s8.1) ?_
      refine jw_bipush (p := 22) rfl jM153 jq153_20 (by decide) ?_
      refine jiL1 (p := 23) rfl jM153 jq153_22 ?_
      refine jw_imul (p := 24) rfl jM153 jq153_23 ?_
      refine jw_iconst (p := 25) rfl jM153 jq153_24 ?_
      refine jw_iadd (p := 26) rfl jM153 jq153_25 ?_
      refine jw_iconst (p := 27) rfl jM153 jq153_26 ?_
      refine jiL2 (p := 28) rfl jM153 jq153_27 ?_
      refine jw_imul (p := 29) rfl jM153 jq153_28 ?_
      refine jw_iadd (p := 30) rfl jM153 jq153_29 ?_
      refine jiL4 (p := 32) rfl jM153 jq153_30 ?_
      obtain ⟨c9, h9⟩ := jo_i h7
      refine jg_iast (p := 33) rfl jM153 jq153_32 (ja_93 s8.1) c9.1 c9.2 s8 (by decide) (s.r _ _) ?_
      intro σ10 s10
      refine jw_vret jM153 jq153_33 ?_
      show jb_w (d + 1) 155 43 [some (.ref 92), some (jb_v l1), some (jb_v l2), some (jb_v l3), some (jb_v l4), some (jb_v l5)] [] σ10 Q
      refine jiI5 (p := 46) rfl jM155 jq155_43 ?_
      refine jw_goto jM155 jq155_46 ?_
      obtain ⟨c11, h11⟩ := jo_i h9
      exact ih hl1 hl2 hl3 hl4 c11 h11 k σ10 s10
def fo155 (G : jg_G) (l1 : Int) (l2 : Int) (l3 : Int) (l4 : Int) : Option (jg_G × Int) := if 0 ≤ (67 * l1) ∧ (67 * l1) < 305118 then if 0 ≤ l2 ∧ l2 < 4554 then fo155_13 jo_N (fr_empties G l2 (G 93 (67 * l1))) l1 l2 l3 l4 l3 else none else none
theorem jf155 {d : Nat} {σ0 : ib_H} {Q : ib_O → Prop} {G : jg_G} {l1 : Int} {l2 : Int} {l3 : Int} {l4 : Int} (hl1 : jb_r l1) (hl2 : jb_r l2) (hl3 : jb_r l3) (hl4 : jb_r l4) {r : jg_G × Int} (h : fo155 G l1 l2 l3 l4 = some r) (k : ∀ σ, jg_S σ0 r.1 σ → Q (.inl none, σ)) : jg_W σ0 G (d + 1) 155 0 [some (.ref 92), some (jb_v l1), some (jb_v l2), some (jb_v l3), some (jb_v l4), none] [] Q := by
  intro σ s
  unfold fo155 at h
  refine jaL0 (p := 1) rfl jM155 jq155_0 ?_
  refine jiL2 (p := 2) rfl jM155 jq155_1 ?_
  refine jaL0 (p := 3) rfl jM155 jq155_2 ?_
  refine jiL1 (p := 4) rfl jM155 jq155_3 ?_
  refine jw_callV [(jb_v l1)] jM155 jq155_4 rfl rfl (jo_92 s.1) rfl jM149 rfl rfl ?_
  show jb_w d 149 0 [some (.ref 92), some (jb_v l1)] [] σ (jb_k (d + 1) 155 4 [some (.ref 92), some (jb_v l1), some (jb_v l2), some (jb_v l3), some (jb_v l4), none] [(jb_v l2), (.ref 92)] Q)
  refine jaL0 (p := 1) rfl jM149 jq149_0 ?_
  refine jw_getP (p := 4) (i := 1) (q := 93) rfl jM149 jq149_1 rfl (jo_92 s.1) je_11_1 (jp_92_1 s.1) ?_
  refine jw_bipush (p := 6) rfl jM149 jq149_4 (by decide) ?_
  refine jiL1 (p := 7) rfl jM149 jq149_6 ?_
  refine jw_imul (p := 8) rfl jM149 jq149_7 ?_
  obtain ⟨c1, h1⟩ := jo_i h
  refine jg_iald (p := 9) rfl jM149 jq149_8 (ja_93 s.1) c1.1 c1.2 s (by decide) rfl ?_
  refine jw_iret jM149 jq149_9 (fun z => absurd z (by decide)) ?_
  show jb_w (d + 1) 155 7 [some (.ref 92), some (jb_v l1), some (jb_v l2), some (jb_v l3), some (jb_v l4), none] [(jb_v (G 93 (67 * l1))), (jb_v l2), (.ref 92)] σ Q
  refine jw_callV [(jb_v l2), (jb_v (G 93 (67 * l1)))] jM155 jq155_7 rfl rfl (jo_92 s.1) rfl jM154 rfl rfl ?_
  obtain ⟨c2, h2⟩ := jo_i h1
  refine cs154 c2 (s.r _ _) (fun σ3 s3 => ?_) σ s
  show jb_w (d + 1) 155 10 [some (.ref 92), some (jb_v l1), some (jb_v l2), some (jb_v l3), some (jb_v l4), none] [] σ3 Q
  refine jiL3 (p := 11) rfl jM155 jq155_10 ?_
  refine jiS5 (p := 13) rfl jM155 jq155_11 ?_
  exact jf155_13 jo_N hl1 hl2 hl3 hl4 hl3 h2 k σ3 s3
-- 171 acts need 2
def fo171_160 : Nat → jg_G → Int → Int → Int → Int → Int → Int → Int → Int → Option (jg_G × Int)
  | 0, _, _, _, _, _, _, _, _, _ => none
  | m + 1, G, l1, l2, l3, l4, l5, l7, l8, l9 => if 0 ≤ l5 ∧ l5 < 1501 then if G 105 l5 ≤ l9 then (some (G, l5)) else (if 0 ≤ ((3 * l5) + l9) ∧ ((3 * l5) + l9) < 4503 then if 0 ≤ (G 106 ((3 * l5) + l9)) ∧ (G 106 ((3 * l5) + l9)) < 24 then jo_l (fr_ro G (G 106 ((3 * l5) + l9))) fun x5 => if 0 ≤ x5 ∧ x5 < 4554 then if 0 ≤ ((54 + (3 * (l5 - 1))) + l9) ∧ ((54 + (3 * (l5 - 1))) + l9) < 4554 then if -2147483648 ≤ (l9 + 1) ∧ (l9 + 1) < 2147483648 then fo171_160 m (fr_copies G x5 ((54 + (3 * (l5 - 1))) + l9)) l1 l2 l3 l4 l5 l7 l8 (l9 + 1) else none else none else none else none else none) else none
theorem jf171_160 {d : Nat} {σ0 : ib_H} {Q : ib_O → Prop} : ∀ (m : Nat) {G : jg_G} {l1 : Int} {l2 : Int} {l3 : Int} {l4 : Int} {l5 : Int} {l7 : Int} {l8 : Int} {l9 : Int} (hl1 : jb_r l1) (hl2 : jb_r l2) (hl3 : jb_r l3) (hl4 : jb_r l4) (hl5 : jb_r l5) (hl7 : jb_r l7) (hl8 : jb_r l8) (hl9 : jb_r l9) {r : jg_G × Int} (h : fo171_160 m G l1 l2 l3 l4 l5 l7 l8 l9 = some r) (k : ∀ σ, jg_S σ0 r.1 σ → jb_r r.2 → Q (.inl (some (jb_v r.2)), σ)), jg_W σ0 G (d + 2) 171 160 [some (.ref 92), some (jb_v l1), some (jb_v l2), some (jb_v l3), some (jb_v l4), some (jb_v l5), some (.ref 106), some (jb_v l7), some (jb_v l8), some (jb_v l9)] [] Q := by
  intro m
  induction m with
  | zero =>
    intro G l1 l2 l3 l4 l5 l7 l8 l9 hl1 hl2 hl3 hl4 hl5 hl7 hl8 hl9 r h k
    cases h
  | succ m ih =>
    intro G l1 l2 l3 l4 l5 l7 l8 l9 hl1 hl2 hl3 hl4 hl5 hl7 hl8 hl9 r h k σ s
    unfold fo171_160 at h
    refine jiL9 (p := 162) rfl jM171 jq171_160 ?_
    refine jaL0 (p := 163) rfl jM171 jq171_162 ?_
    refine jw_getP (p := 166) (i := 21) (q := 105) rfl jM171 jq171_163 rfl (jo_92 s.1) je_11_21 (jp_92_21 s.1) ?_
    refine jiL5 (p := 168) rfl jM171 jq171_166 ?_
    obtain ⟨c1, h1⟩ := jo_i h
    refine jg_iald (p := 169) rfl jM171 jq171_168 (ja_105 s.1) c1.1 c1.2 s (by decide) rfl ?_
    refine jw_ic (p := 172) rfl jM171 jq171_169 (jc_ge hl9 (s.r _ _)) (fun c2 => ?_) (fun c2 => ?_)
    · have h2 := jo_p c2 h1
      refine jiL5 (p := 205) rfl jM171 jq171_203 ?_
      cases h2
      exact jw_iret jM171 jq171_205 (fun z => absurd z (by decide)) (k σ s hl5)
    · have h2 := jo_n c2 h1
      refine jaL0 (p := 173) rfl jM171 jq171_172 ?_
      refine jaL0 (p := 174) rfl jM171 jq171_173 ?_
      refine jaL6 (p := 176) rfl jM171 jq171_174 ?_
      refine jw_iconst (p := 177) rfl jM171 jq171_176 ?_
      refine jiL5 (p := 179) rfl jM171 jq171_177 ?_
      refine jw_imul (p := 180) rfl jM171 jq171_179 ?_
      refine jiL9 (p := 182) rfl jM171 jq171_180 ?_
      refine jw_iadd (p := 183) rfl jM171 jq171_182 ?_
      obtain ⟨c3, h3⟩ := jo_i h2
      refine jg_iald (p := 184) rfl jM171 jq171_183 (ja_106 s.1) c3.1 c3.2 s (by decide) rfl ?_
      refine jw_callV [(jb_v (G 106 ((3 * l5) + l9)))] jM171 jq171_184 rfl rfl (jo_92 s.1) rfl jM161 rfl rfl ?_
      obtain ⟨c4, h4⟩ := jo_i h3
      obtain ⟨x5, e6, h6⟩ := jo_lb h4
      refine cs161 c4 (fun σ5 s5 r5 => ?_) σ s
      rw [e6] at r5 ⊢
      show jb_w (d + 2) 171 187 [some (.ref 92), some (jb_v l1), some (jb_v l2), some (jb_v l3), some (jb_v l4), some (jb_v l5), some (.ref 106), some (jb_v l7), some (jb_v l8), some (jb_v l9)] [(jb_v x5), (.ref 92)] σ5 Q
      refine jiL5 (p := 189) rfl jM171 jq171_187 ?_
      refine jiL9 (p := 191) rfl jM171 jq171_189 ?_
      refine jw_callS [(jb_v l5), (jb_v l9)] jM171 jq171_191 rfl rfl rfl jM170 rfl rfl ?_
      show jb_w (d + 1) 170 0 [some (jb_v l5), some (jb_v l9)] [] σ5 (jb_k (d + 2) 171 191 [some (.ref 92), some (jb_v l1), some (jb_v l2), some (jb_v l3), some (jb_v l4), some (jb_v l5), some (.ref 106), some (jb_v l7), some (jb_v l8), some (jb_v l9)] [(jb_v x5), (.ref 92)] Q)
      refine jw_bipush (p := 2) rfl jM170 jq170_0 (by decide) ?_
      refine jw_iconst (p := 3) rfl jM170 jq170_2 ?_
      refine jiL0 (p := 4) rfl jM170 jq170_3 ?_
      refine jw_iconst (p := 5) rfl jM170 jq170_4 ?_
      refine jw_isub (p := 6) rfl jM170 jq170_5 ?_
      refine jw_imul (p := 7) rfl jM170 jq170_6 ?_
      refine jw_iadd (p := 8) rfl jM170 jq170_7 ?_
      refine jiL1 (p := 9) rfl jM170 jq170_8 ?_
      refine jw_iadd (p := 10) rfl jM170 jq170_9 ?_
      refine jw_iret jM170 jq170_10 (fun z => absurd z (by decide)) ?_
      show jb_w (d + 2) 171 194 [some (.ref 92), some (jb_v l1), some (jb_v l2), some (jb_v l3), some (jb_v l4), some (jb_v l5), some (.ref 106), some (jb_v l7), some (jb_v l8), some (jb_v l9)] [(jb_v ((54 + (3 * (l5 - 1))) + l9)), (jb_v x5), (.ref 92)] σ5 Q
      refine jw_callV [(jb_v x5), (jb_v ((54 + (3 * (l5 - 1))) + l9))] jM171 jq171_194 rfl rfl (jo_92 s5.1) rfl jM148 rfl rfl ?_
      obtain ⟨c7, h7⟩ := jo_i h6
      obtain ⟨c8, h8⟩ := jo_i h7
      refine cs148 c7 c8 (fun σ9 s9 => ?_) σ5 s5
      show jb_w (d + 2) 171 197 [some (.ref 92), some (jb_v l1), some (jb_v l2), some (jb_v l3), some (jb_v l4), some (jb_v l5), some (.ref 106), some (jb_v l7), some (jb_v l8), some (jb_v l9)] [] σ9 Q
      refine jiI9 (p := 200) rfl jM171 jq171_197 ?_
      refine jw_goto jM171 jq171_200 ?_
      obtain ⟨c10, h10⟩ := jo_i h8
      exact ih hl1 hl2 hl3 hl4 hl5 hl7 hl8 c10 h10 k σ9 s9
def fo171 (G : jg_G) (l1 : Int) (l2 : Int) (l3 : Int) (l4 : Int) : Option (jg_G × Int) := if 0 ≤ G 92 12 ∧ G 92 12 < 1500 then if -1 ≤ ((-1) : Int) ∧ ((-1) : Int) < 4 then jo_l (G 92 12 + 1) fun x3 => if l3 ≤ l2 then (if l4 = (-1) then (if 0 ≤ (3 * x3) ∧ (3 * x3) < 4503 then if 0 ≤ ((3 * x3) + 1) ∧ ((3 * x3) + 1) < 4503 then if 0 ≤ ((3 * x3) + 2) ∧ ((3 * x3) + 2) < 4503 then if 0 ≤ x3 ∧ x3 < 1501 then fo171_160 jo_N (jg_u (jg_u (jg_u (jg_u (fr_no G l1 ((-1) : Int)) 106 (3 * x3) l3) 106 ((3 * x3) + 1) l2) 106 ((3 * x3) + 2) (-1)) 105 x3 2) l1 l2 l3 l4 x3 l3 l2 0 else none else none else none else none) else (if l3 ≤ l4 then (if 0 ≤ (3 * x3) ∧ (3 * x3) < 4503 then if l4 ≤ l2 then (if 0 ≤ ((3 * x3) + 1) ∧ ((3 * x3) + 1) < 4503 then if 0 ≤ ((3 * x3) + 2) ∧ ((3 * x3) + 2) < 4503 then if 0 ≤ x3 ∧ x3 < 1501 then fo171_160 jo_N (jg_u (jg_u (jg_u (jg_u (fr_no G l1 ((-1) : Int)) 106 (3 * x3) l3) 106 ((3 * x3) + 1) l4) 106 ((3 * x3) + 2) l2) 105 x3 3) l1 l2 l3 l4 x3 l3 l2 0 else none else none else none) else (if 0 ≤ ((3 * x3) + 1) ∧ ((3 * x3) + 1) < 4503 then if 0 ≤ ((3 * x3) + 2) ∧ ((3 * x3) + 2) < 4503 then if 0 ≤ x3 ∧ x3 < 1501 then fo171_160 jo_N (jg_u (jg_u (jg_u (jg_u (fr_no G l1 ((-1) : Int)) 106 (3 * x3) l3) 106 ((3 * x3) + 1) l2) 106 ((3 * x3) + 2) l4) 105 x3 3) l1 l2 l3 l4 x3 l3 l2 0 else none else none else none) else none) else (if 0 ≤ (3 * x3) ∧ (3 * x3) < 4503 then if l4 ≤ l2 then (if 0 ≤ ((3 * x3) + 1) ∧ ((3 * x3) + 1) < 4503 then if 0 ≤ ((3 * x3) + 2) ∧ ((3 * x3) + 2) < 4503 then if 0 ≤ x3 ∧ x3 < 1501 then fo171_160 jo_N (jg_u (jg_u (jg_u (jg_u (fr_no G l1 ((-1) : Int)) 106 (3 * x3) l4) 106 ((3 * x3) + 1) l3) 106 ((3 * x3) + 2) l2) 105 x3 3) l1 l2 l3 l4 x3 l3 l2 0 else none else none else none) else (if 0 ≤ ((3 * x3) + 1) ∧ ((3 * x3) + 1) < 4503 then if 0 ≤ ((3 * x3) + 2) ∧ ((3 * x3) + 2) < 4503 then if 0 ≤ x3 ∧ x3 < 1501 then fo171_160 jo_N (jg_u (jg_u (jg_u (jg_u (fr_no G l1 ((-1) : Int)) 106 (3 * x3) l4) 106 ((3 * x3) + 1) l2) 106 ((3 * x3) + 2) l4) 105 x3 3) l1 l2 l3 l4 x3 l3 l2 0 else none else none else none) else none))) else (if l4 = (-1) then (if 0 ≤ (3 * x3) ∧ (3 * x3) < 4503 then if 0 ≤ ((3 * x3) + 1) ∧ ((3 * x3) + 1) < 4503 then if 0 ≤ ((3 * x3) + 2) ∧ ((3 * x3) + 2) < 4503 then if 0 ≤ x3 ∧ x3 < 1501 then fo171_160 jo_N (jg_u (jg_u (jg_u (jg_u (fr_no G l1 ((-1) : Int)) 106 (3 * x3) l2) 106 ((3 * x3) + 1) l3) 106 ((3 * x3) + 2) (-1)) 105 x3 2) l1 l2 l3 l4 x3 l2 l3 0 else none else none else none else none) else (if l2 ≤ l4 then (if 0 ≤ (3 * x3) ∧ (3 * x3) < 4503 then if l4 ≤ l3 then (if 0 ≤ ((3 * x3) + 1) ∧ ((3 * x3) + 1) < 4503 then if 0 ≤ ((3 * x3) + 2) ∧ ((3 * x3) + 2) < 4503 then if 0 ≤ x3 ∧ x3 < 1501 then fo171_160 jo_N (jg_u (jg_u (jg_u (jg_u (fr_no G l1 ((-1) : Int)) 106 (3 * x3) l2) 106 ((3 * x3) + 1) l4) 106 ((3 * x3) + 2) l3) 105 x3 3) l1 l2 l3 l4 x3 l2 l3 0 else none else none else none) else (if 0 ≤ ((3 * x3) + 1) ∧ ((3 * x3) + 1) < 4503 then if 0 ≤ ((3 * x3) + 2) ∧ ((3 * x3) + 2) < 4503 then if 0 ≤ x3 ∧ x3 < 1501 then fo171_160 jo_N (jg_u (jg_u (jg_u (jg_u (fr_no G l1 ((-1) : Int)) 106 (3 * x3) l2) 106 ((3 * x3) + 1) l3) 106 ((3 * x3) + 2) l4) 105 x3 3) l1 l2 l3 l4 x3 l2 l3 0 else none else none else none) else none) else (if 0 ≤ (3 * x3) ∧ (3 * x3) < 4503 then if l4 ≤ l3 then (if 0 ≤ ((3 * x3) + 1) ∧ ((3 * x3) + 1) < 4503 then if 0 ≤ ((3 * x3) + 2) ∧ ((3 * x3) + 2) < 4503 then if 0 ≤ x3 ∧ x3 < 1501 then fo171_160 jo_N (jg_u (jg_u (jg_u (jg_u (fr_no G l1 ((-1) : Int)) 106 (3 * x3) l4) 106 ((3 * x3) + 1) l2) 106 ((3 * x3) + 2) l3) 105 x3 3) l1 l2 l3 l4 x3 l2 l3 0 else none else none else none) else (if 0 ≤ ((3 * x3) + 1) ∧ ((3 * x3) + 1) < 4503 then if 0 ≤ ((3 * x3) + 2) ∧ ((3 * x3) + 2) < 4503 then if 0 ≤ x3 ∧ x3 < 1501 then fo171_160 jo_N (jg_u (jg_u (jg_u (jg_u (fr_no G l1 ((-1) : Int)) 106 (3 * x3) l4) 106 ((3 * x3) + 1) l3) 106 ((3 * x3) + 2) l4) 105 x3 3) l1 l2 l3 l4 x3 l2 l3 0 else none else none else none) else none))) else none else none
theorem jf171 {d : Nat} {σ0 : ib_H} {Q : ib_O → Prop} {G : jg_G} {l1 : Int} {l2 : Int} {l3 : Int} {l4 : Int} (hl1 : jb_r l1) (hl2 : jb_r l2) (hl3 : jb_r l3) (hl4 : jb_r l4) {r : jg_G × Int} (h : fo171 G l1 l2 l3 l4 = some r) (k : ∀ σ, jg_S σ0 r.1 σ → jb_r r.2 → Q (.inl (some (jb_v r.2)), σ)) : jg_W σ0 G (d + 2) 171 0 [some (.ref 92), some (jb_v l1), some (jb_v l2), some (jb_v l3), some (jb_v l4), none, none, none, none, none] [] Q := by
  intro σ s
  unfold fo171 at h
  refine jaL0 (p := 1) rfl jM171 jq171_0 ?_
  refine jiL1 (p := 2) rfl jM171 jq171_1 ?_
  refine jw_iconst (p := 3) rfl jM171 jq171_2 ?_
  refine jw_callV [(jb_v l1), (jb_v (-1))] jM171 jq171_3 rfl rfl (jo_92 s.1) rfl jM169 rfl rfl ?_
  obtain ⟨c1, h1⟩ := jo_i h
  obtain ⟨c2, h2⟩ := jo_i h1
  obtain ⟨x3, e4, h4⟩ := jo_lb h2
  refine cs169 c1 c2 hl1 (fun σ3 s3 r3 => ?_) σ s
  rw [e4] at r3 ⊢
  show jb_w (d + 2) 171 6 [some (.ref 92), some (jb_v l1), some (jb_v l2), some (jb_v l3), some (jb_v l4), none, none, none, none, none] [(jb_v x3)] σ3 Q
  refine jiS5 (p := 8) rfl jM171 jq171_6 ?_
  refine jaL0 (p := 9) rfl jM171 jq171_8 ?_
  refine jw_getP (p := 12) (i := 22) (q := 106) rfl jM171 jq171_9 rfl (jo_92 s3.1) je_11_22 (jp_92_22 s3.1) ?_
  refine jaS6 (p := 14) rfl jM171 jq171_12 ?_
  refine jiL2 (p := 15) rfl jM171 jq171_14 ?_
  refine jiL3 (p := 16) rfl jM171 jq171_15 ?_
  refine jw_ic (p := 19) rfl jM171 jq171_16 (jc_ge hl2 hl3) (fun c5 => ?_) (fun c5 => ?_)
  · have h5 := jo_p c5 h4
    refine jiL3 (p := 24) rfl jM171 jq171_23 ?_
    refine jiS7 (p := 26) rfl jM171 jq171_24 ?_
    refine jiL2 (p := 27) rfl jM171 jq171_26 ?_
    refine jiL3 (p := 28) rfl jM171 jq171_27 ?_
    refine jw_ic (p := 31) rfl jM171 jq171_28 (jc_ge hl2 hl3) (fun _ => ?_) (fun z => absurd c5 z)
    refine jiL2 (p := 36) rfl jM171 jq171_35 ?_
    refine jiS8 (p := 38) rfl jM171 jq171_36 ?_
    refine jaL6 (p := 40) rfl jM171 jq171_38 ?_
    refine jw_iconst (p := 41) rfl jM171 jq171_40 ?_
    refine jiL5 (p := 43) rfl jM171 jq171_41 ?_
    refine jw_imul (p := 44) rfl jM171 jq171_43 ?_
    refine jiL4 (p := 46) rfl jM171 jq171_44 ?_
    refine jw_iconst (p := 47) rfl jM171 jq171_46 ?_
    refine jw_ic (p := 50) rfl jM171 jq171_47 (jc_eq hl4 (jb_rn rfl)) (fun c6 => ?_) (fun c6 => ?_)
    · have h6 := jo_p c6 h5
      refine jiL7 (p := 64) rfl jM171 jq171_62 ?_
      obtain ⟨c7, h7⟩ := jo_i h6
      refine jg_iast (p := 65) rfl jM171 jq171_64 (ja_106 s3.1) c7.1 c7.2 s3 (by decide) hl3 ?_
      intro σ8 s8
      refine jaL6 (p := 67) rfl jM171 jq171_65 ?_
      refine jw_iconst (p := 68) rfl jM171 jq171_67 ?_
      refine jiL5 (p := 70) rfl jM171 jq171_68 ?_
      refine jw_imul (p := 71) rfl jM171 jq171_70 ?_
      refine jw_iconst (p := 72) rfl jM171 jq171_71 ?_
      refine jw_iadd (p := 73) rfl jM171 jq171_72 ?_
      refine jiL4 (p := 75) rfl jM171 jq171_73 ?_
      refine jw_iconst (p := 76) rfl jM171 jq171_75 ?_
      refine jw_ic (p := 79) rfl jM171 jq171_76 (jc_eq hl4 (jb_rn rfl)) (fun _ => ?_) (fun z => absurd c6 z)
      refine jiL8 (p := 88) rfl jM171 jq171_86 ?_
      refine jw_goto jM171 jq171_88 ?_
      obtain ⟨c9, h9⟩ := jo_i h7
      refine jg_iast (p := 106) rfl jM171 jq171_105 (ja_106 s8.1) c9.1 c9.2 s8 (by decide) hl2 ?_
      intro σ10 s10
      refine jaL6 (p := 108) rfl jM171 jq171_106 ?_
      refine jw_iconst (p := 109) rfl jM171 jq171_108 ?_
      refine jiL5 (p := 111) rfl jM171 jq171_109 ?_
      refine jw_imul (p := 112) rfl jM171 jq171_111 ?_
      refine jw_iconst (p := 113) rfl jM171 jq171_112 ?_
      refine jw_iadd (p := 114) rfl jM171 jq171_113 ?_
      refine jiL4 (p := 116) rfl jM171 jq171_114 ?_
      refine jw_iconst (p := 117) rfl jM171 jq171_116 ?_
      refine jw_ic (p := 120) rfl jM171 jq171_117 (jc_ne hl4 (jb_rn rfl)) (fun z => absurd c6 z) (fun _ => ?_)
      refine jw_iconst (p := 121) rfl jM171 jq171_120 ?_
      refine jw_goto jM171 jq171_121 ?_
      obtain ⟨c11, h11⟩ := jo_i h9
      refine jg_iast (p := 139) rfl jM171 jq171_138 (ja_106 s10.1) c11.1 c11.2 s10 (by decide) (jb_rn rfl) ?_
      intro σ12 s12
      refine jaL0 (p := 140) rfl jM171 jq171_139 ?_
      refine jw_getP (p := 143) (i := 21) (q := 105) rfl jM171 jq171_140 rfl (jo_92 s12.1) je_11_21 (jp_92_21 s12.1) ?_
      refine jiL5 (p := 145) rfl jM171 jq171_143 ?_
      refine jiL4 (p := 147) rfl jM171 jq171_145 ?_
      refine jw_iconst (p := 148) rfl jM171 jq171_147 ?_
      refine jw_ic (p := 151) rfl jM171 jq171_148 (jc_ne hl4 (jb_rn rfl)) (fun z => absurd c6 z) (fun _ => ?_)
      refine jw_iconst (p := 152) rfl jM171 jq171_151 ?_
      refine jw_goto jM171 jq171_152 ?_
      obtain ⟨c13, h13⟩ := jo_i h11
      refine jg_iast (p := 157) rfl jM171 jq171_156 (ja_105 s12.1) c13.1 c13.2 s12 (by decide) (jb_rn rfl) ?_
      intro σ14 s14
      refine jw_iconst (p := 158) rfl jM171 jq171_157 ?_
      refine jiS9 (p := 160) rfl jM171 jq171_158 ?_
      exact jf171_160 jo_N hl1 hl2 hl3 hl4 r3 hl3 hl2 (jb_rn rfl) h13 k σ14 s14
    · have h6 := jo_n c6 h5
      refine jiL4 (p := 52) rfl jM171 jq171_50 ?_
      refine jiL7 (p := 54) rfl jM171 jq171_52 ?_
      refine jw_ic (p := 57) rfl jM171 jq171_54 (jc_ge hl4 hl3) (fun c15 => ?_) (fun c15 => ?_)
      · have h15 := jo_p c15 h6
        refine jiL7 (p := 64) rfl jM171 jq171_62 ?_
        obtain ⟨c16, h16⟩ := jo_i h15
        refine jg_iast (p := 65) rfl jM171 jq171_64 (ja_106 s3.1) c16.1 c16.2 s3 (by decide) hl3 ?_
        intro σ17 s17
        refine jaL6 (p := 67) rfl jM171 jq171_65 ?_
        refine jw_iconst (p := 68) rfl jM171 jq171_67 ?_
        refine jiL5 (p := 70) rfl jM171 jq171_68 ?_
        refine jw_imul (p := 71) rfl jM171 jq171_70 ?_
        refine jw_iconst (p := 72) rfl jM171 jq171_71 ?_
        refine jw_iadd (p := 73) rfl jM171 jq171_72 ?_
        refine jiL4 (p := 75) rfl jM171 jq171_73 ?_
        refine jw_iconst (p := 76) rfl jM171 jq171_75 ?_
        refine jw_ic (p := 79) rfl jM171 jq171_76 (jc_eq hl4 (jb_rn rfl)) (fun z => absurd z c6) (fun _ => ?_)
        refine jiL4 (p := 81) rfl jM171 jq171_79 ?_
        refine jiL8 (p := 83) rfl jM171 jq171_81 ?_
        refine jw_ic (p := 86) rfl jM171 jq171_83 (jc_le hl4 hl2) (fun c18 => ?_) (fun c18 => ?_)
        · have h18 := jo_p c18 h16
          refine jiL4 (p := 93) rfl jM171 jq171_91 ?_
          refine jiL7 (p := 95) rfl jM171 jq171_93 ?_
          refine jw_ic (p := 98) rfl jM171 jq171_95 (jc_ge hl4 hl3) (fun _ => ?_) (fun z => absurd c15 z)
          refine jiL4 (p := 105) rfl jM171 jq171_103 ?_
          obtain ⟨c19, h19⟩ := jo_i h18
          refine jg_iast (p := 106) rfl jM171 jq171_105 (ja_106 s17.1) c19.1 c19.2 s17 (by decide) hl4 ?_
          intro σ20 s20
          refine jaL6 (p := 108) rfl jM171 jq171_106 ?_
          refine jw_iconst (p := 109) rfl jM171 jq171_108 ?_
          refine jiL5 (p := 111) rfl jM171 jq171_109 ?_
          refine jw_imul (p := 112) rfl jM171 jq171_111 ?_
          refine jw_iconst (p := 113) rfl jM171 jq171_112 ?_
          refine jw_iadd (p := 114) rfl jM171 jq171_113 ?_
          refine jiL4 (p := 116) rfl jM171 jq171_114 ?_
          refine jw_iconst (p := 117) rfl jM171 jq171_116 ?_
          refine jw_ic (p := 120) rfl jM171 jq171_117 (jc_ne hl4 (jb_rn rfl)) (fun _ => ?_) (fun z => absurd c6 z)
          refine jiL4 (p := 126) rfl jM171 jq171_124 ?_
          refine jiL8 (p := 128) rfl jM171 jq171_126 ?_
          refine jw_ic (p := 131) rfl jM171 jq171_128 (jc_le hl4 hl2) (fun _ => ?_) (fun z => absurd c18 z)
          refine jiL8 (p := 138) rfl jM171 jq171_136 ?_
          obtain ⟨c21, h21⟩ := jo_i h19
          refine jg_iast (p := 139) rfl jM171 jq171_138 (ja_106 s20.1) c21.1 c21.2 s20 (by decide) hl2 ?_
          intro σ22 s22
          refine jaL0 (p := 140) rfl jM171 jq171_139 ?_
          refine jw_getP (p := 143) (i := 21) (q := 105) rfl jM171 jq171_140 rfl (jo_92 s22.1) je_11_21 (jp_92_21 s22.1) ?_
          refine jiL5 (p := 145) rfl jM171 jq171_143 ?_
          refine jiL4 (p := 147) rfl jM171 jq171_145 ?_
          refine jw_iconst (p := 148) rfl jM171 jq171_147 ?_
          refine jw_ic (p := 151) rfl jM171 jq171_148 (jc_ne hl4 (jb_rn rfl)) (fun _ => ?_) (fun z => absurd c6 z)
          refine jw_iconst (p := 156) rfl jM171 jq171_155 ?_
          obtain ⟨c23, h23⟩ := jo_i h21
          refine jg_iast (p := 157) rfl jM171 jq171_156 (ja_105 s22.1) c23.1 c23.2 s22 (by decide) (jb_rn rfl) ?_
          intro σ24 s24
          refine jw_iconst (p := 158) rfl jM171 jq171_157 ?_
          refine jiS9 (p := 160) rfl jM171 jq171_158 ?_
          exact jf171_160 jo_N hl1 hl2 hl3 hl4 r3 hl3 hl2 (jb_rn rfl) h23 k σ24 s24
        · have h18 := jo_n c18 h16
          refine jiL8 (p := 88) rfl jM171 jq171_86 ?_
          refine jw_goto jM171 jq171_88 ?_
          obtain ⟨c25, h25⟩ := jo_i h18
          refine jg_iast (p := 106) rfl jM171 jq171_105 (ja_106 s17.1) c25.1 c25.2 s17 (by decide) hl2 ?_
          intro σ26 s26
          refine jaL6 (p := 108) rfl jM171 jq171_106 ?_
          refine jw_iconst (p := 109) rfl jM171 jq171_108 ?_
          refine jiL5 (p := 111) rfl jM171 jq171_109 ?_
          refine jw_imul (p := 112) rfl jM171 jq171_111 ?_
          refine jw_iconst (p := 113) rfl jM171 jq171_112 ?_
          refine jw_iadd (p := 114) rfl jM171 jq171_113 ?_
          refine jiL4 (p := 116) rfl jM171 jq171_114 ?_
          refine jw_iconst (p := 117) rfl jM171 jq171_116 ?_
          refine jw_ic (p := 120) rfl jM171 jq171_117 (jc_ne hl4 (jb_rn rfl)) (fun _ => ?_) (fun z => absurd c6 z)
          refine jiL4 (p := 126) rfl jM171 jq171_124 ?_
          refine jiL8 (p := 128) rfl jM171 jq171_126 ?_
          refine jw_ic (p := 131) rfl jM171 jq171_128 (jc_le hl4 hl2) (fun z => absurd z c18) (fun _ => ?_)
          refine jiL4 (p := 133) rfl jM171 jq171_131 ?_
          refine jw_goto jM171 jq171_133 ?_
          obtain ⟨c27, h27⟩ := jo_i h25
          refine jg_iast (p := 139) rfl jM171 jq171_138 (ja_106 s26.1) c27.1 c27.2 s26 (by decide) hl4 ?_
          intro σ28 s28
          refine jaL0 (p := 140) rfl jM171 jq171_139 ?_
          refine jw_getP (p := 143) (i := 21) (q := 105) rfl jM171 jq171_140 rfl (jo_92 s28.1) je_11_21 (jp_92_21 s28.1) ?_
          refine jiL5 (p := 145) rfl jM171 jq171_143 ?_
          refine jiL4 (p := 147) rfl jM171 jq171_145 ?_
          refine jw_iconst (p := 148) rfl jM171 jq171_147 ?_
          refine jw_ic (p := 151) rfl jM171 jq171_148 (jc_ne hl4 (jb_rn rfl)) (fun _ => ?_) (fun z => absurd c6 z)
          refine jw_iconst (p := 156) rfl jM171 jq171_155 ?_
          obtain ⟨c29, h29⟩ := jo_i h27
          refine jg_iast (p := 157) rfl jM171 jq171_156 (ja_105 s28.1) c29.1 c29.2 s28 (by decide) (jb_rn rfl) ?_
          intro σ30 s30
          refine jw_iconst (p := 158) rfl jM171 jq171_157 ?_
          refine jiS9 (p := 160) rfl jM171 jq171_158 ?_
          exact jf171_160 jo_N hl1 hl2 hl3 hl4 r3 hl3 hl2 (jb_rn rfl) h29 k σ30 s30
      · have h15 := jo_n c15 h6
        refine jiL4 (p := 59) rfl jM171 jq171_57 ?_
        refine jw_goto jM171 jq171_59 ?_
        obtain ⟨c31, h31⟩ := jo_i h15
        refine jg_iast (p := 65) rfl jM171 jq171_64 (ja_106 s3.1) c31.1 c31.2 s3 (by decide) hl4 ?_
        intro σ32 s32
        refine jaL6 (p := 67) rfl jM171 jq171_65 ?_
        refine jw_iconst (p := 68) rfl jM171 jq171_67 ?_
        refine jiL5 (p := 70) rfl jM171 jq171_68 ?_
        refine jw_imul (p := 71) rfl jM171 jq171_70 ?_
        refine jw_iconst (p := 72) rfl jM171 jq171_71 ?_
        refine jw_iadd (p := 73) rfl jM171 jq171_72 ?_
        refine jiL4 (p := 75) rfl jM171 jq171_73 ?_
        refine jw_iconst (p := 76) rfl jM171 jq171_75 ?_
        refine jw_ic (p := 79) rfl jM171 jq171_76 (jc_eq hl4 (jb_rn rfl)) (fun z => absurd z c6) (fun _ => ?_)
        refine jiL4 (p := 81) rfl jM171 jq171_79 ?_
        refine jiL8 (p := 83) rfl jM171 jq171_81 ?_
        refine jw_ic (p := 86) rfl jM171 jq171_83 (jc_le hl4 hl2) (fun c33 => ?_) (fun c33 => ?_)
        · have h33 := jo_p c33 h31
          refine jiL4 (p := 93) rfl jM171 jq171_91 ?_
          refine jiL7 (p := 95) rfl jM171 jq171_93 ?_
          refine jw_ic (p := 98) rfl jM171 jq171_95 (jc_ge hl4 hl3) (fun z => absurd z c15) (fun _ => ?_)
          refine jiL7 (p := 100) rfl jM171 jq171_98 ?_
          refine jw_goto jM171 jq171_100 ?_
          obtain ⟨c34, h34⟩ := jo_i h33
          refine jg_iast (p := 106) rfl jM171 jq171_105 (ja_106 s32.1) c34.1 c34.2 s32 (by decide) hl3 ?_
          intro σ35 s35
          refine jaL6 (p := 108) rfl jM171 jq171_106 ?_
          refine jw_iconst (p := 109) rfl jM171 jq171_108 ?_
          refine jiL5 (p := 111) rfl jM171 jq171_109 ?_
          refine jw_imul (p := 112) rfl jM171 jq171_111 ?_
          refine jw_iconst (p := 113) rfl jM171 jq171_112 ?_
          refine jw_iadd (p := 114) rfl jM171 jq171_113 ?_
          refine jiL4 (p := 116) rfl jM171 jq171_114 ?_
          refine jw_iconst (p := 117) rfl jM171 jq171_116 ?_
          refine jw_ic (p := 120) rfl jM171 jq171_117 (jc_ne hl4 (jb_rn rfl)) (fun _ => ?_) (fun z => absurd c6 z)
          refine jiL4 (p := 126) rfl jM171 jq171_124 ?_
          refine jiL8 (p := 128) rfl jM171 jq171_126 ?_
          refine jw_ic (p := 131) rfl jM171 jq171_128 (jc_le hl4 hl2) (fun _ => ?_) (fun z => absurd c33 z)
          refine jiL8 (p := 138) rfl jM171 jq171_136 ?_
          obtain ⟨c36, h36⟩ := jo_i h34
          refine jg_iast (p := 139) rfl jM171 jq171_138 (ja_106 s35.1) c36.1 c36.2 s35 (by decide) hl2 ?_
          intro σ37 s37
          refine jaL0 (p := 140) rfl jM171 jq171_139 ?_
          refine jw_getP (p := 143) (i := 21) (q := 105) rfl jM171 jq171_140 rfl (jo_92 s37.1) je_11_21 (jp_92_21 s37.1) ?_
          refine jiL5 (p := 145) rfl jM171 jq171_143 ?_
          refine jiL4 (p := 147) rfl jM171 jq171_145 ?_
          refine jw_iconst (p := 148) rfl jM171 jq171_147 ?_
          refine jw_ic (p := 151) rfl jM171 jq171_148 (jc_ne hl4 (jb_rn rfl)) (fun _ => ?_) (fun z => absurd c6 z)
          refine jw_iconst (p := 156) rfl jM171 jq171_155 ?_
          obtain ⟨c38, h38⟩ := jo_i h36
          refine jg_iast (p := 157) rfl jM171 jq171_156 (ja_105 s37.1) c38.1 c38.2 s37 (by decide) (jb_rn rfl) ?_
          intro σ39 s39
          refine jw_iconst (p := 158) rfl jM171 jq171_157 ?_
          refine jiS9 (p := 160) rfl jM171 jq171_158 ?_
          exact jf171_160 jo_N hl1 hl2 hl3 hl4 r3 hl3 hl2 (jb_rn rfl) h38 k σ39 s39
        · have h33 := jo_n c33 h31
          refine jiL8 (p := 88) rfl jM171 jq171_86 ?_
          refine jw_goto jM171 jq171_88 ?_
          obtain ⟨c40, h40⟩ := jo_i h33
          refine jg_iast (p := 106) rfl jM171 jq171_105 (ja_106 s32.1) c40.1 c40.2 s32 (by decide) hl2 ?_
          intro σ41 s41
          refine jaL6 (p := 108) rfl jM171 jq171_106 ?_
          refine jw_iconst (p := 109) rfl jM171 jq171_108 ?_
          refine jiL5 (p := 111) rfl jM171 jq171_109 ?_
          refine jw_imul (p := 112) rfl jM171 jq171_111 ?_
          refine jw_iconst (p := 113) rfl jM171 jq171_112 ?_
          refine jw_iadd (p := 114) rfl jM171 jq171_113 ?_
          refine jiL4 (p := 116) rfl jM171 jq171_114 ?_
          refine jw_iconst (p := 117) rfl jM171 jq171_116 ?_
          refine jw_ic (p := 120) rfl jM171 jq171_117 (jc_ne hl4 (jb_rn rfl)) (fun _ => ?_) (fun z => absurd c6 z)
          refine jiL4 (p := 126) rfl jM171 jq171_124 ?_
          refine jiL8 (p := 128) rfl jM171 jq171_126 ?_
          refine jw_ic (p := 131) rfl jM171 jq171_128 (jc_le hl4 hl2) (fun z => absurd z c33) (fun _ => ?_)
          refine jiL4 (p := 133) rfl jM171 jq171_131 ?_
          refine jw_goto jM171 jq171_133 ?_
          obtain ⟨c42, h42⟩ := jo_i h40
          refine jg_iast (p := 139) rfl jM171 jq171_138 (ja_106 s41.1) c42.1 c42.2 s41 (by decide) hl4 ?_
          intro σ43 s43
          refine jaL0 (p := 140) rfl jM171 jq171_139 ?_
          refine jw_getP (p := 143) (i := 21) (q := 105) rfl jM171 jq171_140 rfl (jo_92 s43.1) je_11_21 (jp_92_21 s43.1) ?_
          refine jiL5 (p := 145) rfl jM171 jq171_143 ?_
          refine jiL4 (p := 147) rfl jM171 jq171_145 ?_
          refine jw_iconst (p := 148) rfl jM171 jq171_147 ?_
          refine jw_ic (p := 151) rfl jM171 jq171_148 (jc_ne hl4 (jb_rn rfl)) (fun _ => ?_) (fun z => absurd c6 z)
          refine jw_iconst (p := 156) rfl jM171 jq171_155 ?_
          obtain ⟨c44, h44⟩ := jo_i h42
          refine jg_iast (p := 157) rfl jM171 jq171_156 (ja_105 s43.1) c44.1 c44.2 s43 (by decide) (jb_rn rfl) ?_
          intro σ45 s45
          refine jw_iconst (p := 158) rfl jM171 jq171_157 ?_
          refine jiS9 (p := 160) rfl jM171 jq171_158 ?_
          exact jf171_160 jo_N hl1 hl2 hl3 hl4 r3 hl3 hl2 (jb_rn rfl) h44 k σ45 s45
  · have h5 := jo_n c5 h4
    refine jiL2 (p := 20) rfl jM171 jq171_19 ?_
    refine jw_goto jM171 jq171_20 ?_
    refine jiS7 (p := 26) rfl jM171 jq171_24 ?_
    refine jiL2 (p := 27) rfl jM171 jq171_26 ?_
    refine jiL3 (p := 28) rfl jM171 jq171_27 ?_
    refine jw_ic (p := 31) rfl jM171 jq171_28 (jc_ge hl2 hl3) (fun z => absurd z c5) (fun _ => ?_)
    refine jiL3 (p := 32) rfl jM171 jq171_31 ?_
    refine jw_goto jM171 jq171_32 ?_
    refine jiS8 (p := 38) rfl jM171 jq171_36 ?_
    refine jaL6 (p := 40) rfl jM171 jq171_38 ?_
    refine jw_iconst (p := 41) rfl jM171 jq171_40 ?_
    refine jiL5 (p := 43) rfl jM171 jq171_41 ?_
    refine jw_imul (p := 44) rfl jM171 jq171_43 ?_
    refine jiL4 (p := 46) rfl jM171 jq171_44 ?_
    refine jw_iconst (p := 47) rfl jM171 jq171_46 ?_
    refine jw_ic (p := 50) rfl jM171 jq171_47 (jc_eq hl4 (jb_rn rfl)) (fun c46 => ?_) (fun c46 => ?_)
    · have h46 := jo_p c46 h5
      refine jiL7 (p := 64) rfl jM171 jq171_62 ?_
      obtain ⟨c47, h47⟩ := jo_i h46
      refine jg_iast (p := 65) rfl jM171 jq171_64 (ja_106 s3.1) c47.1 c47.2 s3 (by decide) hl2 ?_
      intro σ48 s48
      refine jaL6 (p := 67) rfl jM171 jq171_65 ?_
      refine jw_iconst (p := 68) rfl jM171 jq171_67 ?_
      refine jiL5 (p := 70) rfl jM171 jq171_68 ?_
      refine jw_imul (p := 71) rfl jM171 jq171_70 ?_
      refine jw_iconst (p := 72) rfl jM171 jq171_71 ?_
      refine jw_iadd (p := 73) rfl jM171 jq171_72 ?_
      refine jiL4 (p := 75) rfl jM171 jq171_73 ?_
      refine jw_iconst (p := 76) rfl jM171 jq171_75 ?_
      refine jw_ic (p := 79) rfl jM171 jq171_76 (jc_eq hl4 (jb_rn rfl)) (fun _ => ?_) (fun z => absurd c46 z)
      refine jiL8 (p := 88) rfl jM171 jq171_86 ?_
      refine jw_goto jM171 jq171_88 ?_
      obtain ⟨c49, h49⟩ := jo_i h47
      refine jg_iast (p := 106) rfl jM171 jq171_105 (ja_106 s48.1) c49.1 c49.2 s48 (by decide) hl3 ?_
      intro σ50 s50
      refine jaL6 (p := 108) rfl jM171 jq171_106 ?_
      refine jw_iconst (p := 109) rfl jM171 jq171_108 ?_
      refine jiL5 (p := 111) rfl jM171 jq171_109 ?_
      refine jw_imul (p := 112) rfl jM171 jq171_111 ?_
      refine jw_iconst (p := 113) rfl jM171 jq171_112 ?_
      refine jw_iadd (p := 114) rfl jM171 jq171_113 ?_
      refine jiL4 (p := 116) rfl jM171 jq171_114 ?_
      refine jw_iconst (p := 117) rfl jM171 jq171_116 ?_
      refine jw_ic (p := 120) rfl jM171 jq171_117 (jc_ne hl4 (jb_rn rfl)) (fun z => absurd c46 z) (fun _ => ?_)
      refine jw_iconst (p := 121) rfl jM171 jq171_120 ?_
      refine jw_goto jM171 jq171_121 ?_
      obtain ⟨c51, h51⟩ := jo_i h49
      refine jg_iast (p := 139) rfl jM171 jq171_138 (ja_106 s50.1) c51.1 c51.2 s50 (by decide) (jb_rn rfl) ?_
      intro σ52 s52
      refine jaL0 (p := 140) rfl jM171 jq171_139 ?_
      refine jw_getP (p := 143) (i := 21) (q := 105) rfl jM171 jq171_140 rfl (jo_92 s52.1) je_11_21 (jp_92_21 s52.1) ?_
      refine jiL5 (p := 145) rfl jM171 jq171_143 ?_
      refine jiL4 (p := 147) rfl jM171 jq171_145 ?_
      refine jw_iconst (p := 148) rfl jM171 jq171_147 ?_
      refine jw_ic (p := 151) rfl jM171 jq171_148 (jc_ne hl4 (jb_rn rfl)) (fun z => absurd c46 z) (fun _ => ?_)
      refine jw_iconst (p := 152) rfl jM171 jq171_151 ?_
      refine jw_goto jM171 jq171_152 ?_
      obtain ⟨c53, h53⟩ := jo_i h51
      refine jg_iast (p := 157) rfl jM171 jq171_156 (ja_105 s52.1) c53.1 c53.2 s52 (by decide) (jb_rn rfl) ?_
      intro σ54 s54
      refine jw_iconst (p := 158) rfl jM171 jq171_157 ?_
      refine jiS9 (p := 160) rfl jM171 jq171_158 ?_
      exact jf171_160 jo_N hl1 hl2 hl3 hl4 r3 hl2 hl3 (jb_rn rfl) h53 k σ54 s54
    · have h46 := jo_n c46 h5
      refine jiL4 (p := 52) rfl jM171 jq171_50 ?_
      refine jiL7 (p := 54) rfl jM171 jq171_52 ?_
      refine jw_ic (p := 57) rfl jM171 jq171_54 (jc_ge hl4 hl2) (fun c55 => ?_) (fun c55 => ?_)
      · have h55 := jo_p c55 h46
        refine jiL7 (p := 64) rfl jM171 jq171_62 ?_
        obtain ⟨c56, h56⟩ := jo_i h55
        refine jg_iast (p := 65) rfl jM171 jq171_64 (ja_106 s3.1) c56.1 c56.2 s3 (by decide) hl2 ?_
        intro σ57 s57
        refine jaL6 (p := 67) rfl jM171 jq171_65 ?_
        refine jw_iconst (p := 68) rfl jM171 jq171_67 ?_
        refine jiL5 (p := 70) rfl jM171 jq171_68 ?_
        refine jw_imul (p := 71) rfl jM171 jq171_70 ?_
        refine jw_iconst (p := 72) rfl jM171 jq171_71 ?_
        refine jw_iadd (p := 73) rfl jM171 jq171_72 ?_
        refine jiL4 (p := 75) rfl jM171 jq171_73 ?_
        refine jw_iconst (p := 76) rfl jM171 jq171_75 ?_
        refine jw_ic (p := 79) rfl jM171 jq171_76 (jc_eq hl4 (jb_rn rfl)) (fun z => absurd z c46) (fun _ => ?_)
        refine jiL4 (p := 81) rfl jM171 jq171_79 ?_
        refine jiL8 (p := 83) rfl jM171 jq171_81 ?_
        refine jw_ic (p := 86) rfl jM171 jq171_83 (jc_le hl4 hl3) (fun c58 => ?_) (fun c58 => ?_)
        · have h58 := jo_p c58 h56
          refine jiL4 (p := 93) rfl jM171 jq171_91 ?_
          refine jiL7 (p := 95) rfl jM171 jq171_93 ?_
          refine jw_ic (p := 98) rfl jM171 jq171_95 (jc_ge hl4 hl2) (fun _ => ?_) (fun z => absurd c55 z)
          refine jiL4 (p := 105) rfl jM171 jq171_103 ?_
          obtain ⟨c59, h59⟩ := jo_i h58
          refine jg_iast (p := 106) rfl jM171 jq171_105 (ja_106 s57.1) c59.1 c59.2 s57 (by decide) hl4 ?_
          intro σ60 s60
          refine jaL6 (p := 108) rfl jM171 jq171_106 ?_
          refine jw_iconst (p := 109) rfl jM171 jq171_108 ?_
          refine jiL5 (p := 111) rfl jM171 jq171_109 ?_
          refine jw_imul (p := 112) rfl jM171 jq171_111 ?_
          refine jw_iconst (p := 113) rfl jM171 jq171_112 ?_
          refine jw_iadd (p := 114) rfl jM171 jq171_113 ?_
          refine jiL4 (p := 116) rfl jM171 jq171_114 ?_
          refine jw_iconst (p := 117) rfl jM171 jq171_116 ?_
          refine jw_ic (p := 120) rfl jM171 jq171_117 (jc_ne hl4 (jb_rn rfl)) (fun _ => ?_) (fun z => absurd c46 z)
          refine jiL4 (p := 126) rfl jM171 jq171_124 ?_
          refine jiL8 (p := 128) rfl jM171 jq171_126 ?_
          refine jw_ic (p := 131) rfl jM171 jq171_128 (jc_le hl4 hl3) (fun _ => ?_) (fun z => absurd c58 z)
          refine jiL8 (p := 138) rfl jM171 jq171_136 ?_
          obtain ⟨c61, h61⟩ := jo_i h59
          refine jg_iast (p := 139) rfl jM171 jq171_138 (ja_106 s60.1) c61.1 c61.2 s60 (by decide) hl3 ?_
          intro σ62 s62
          refine jaL0 (p := 140) rfl jM171 jq171_139 ?_
          refine jw_getP (p := 143) (i := 21) (q := 105) rfl jM171 jq171_140 rfl (jo_92 s62.1) je_11_21 (jp_92_21 s62.1) ?_
          refine jiL5 (p := 145) rfl jM171 jq171_143 ?_
          refine jiL4 (p := 147) rfl jM171 jq171_145 ?_
          refine jw_iconst (p := 148) rfl jM171 jq171_147 ?_
          refine jw_ic (p := 151) rfl jM171 jq171_148 (jc_ne hl4 (jb_rn rfl)) (fun _ => ?_) (fun z => absurd c46 z)
          refine jw_iconst (p := 156) rfl jM171 jq171_155 ?_
          obtain ⟨c63, h63⟩ := jo_i h61
          refine jg_iast (p := 157) rfl jM171 jq171_156 (ja_105 s62.1) c63.1 c63.2 s62 (by decide) (jb_rn rfl) ?_
          intro σ64 s64
          refine jw_iconst (p := 158) rfl jM171 jq171_157 ?_
          refine jiS9 (p := 160) rfl jM171 jq171_158 ?_
          exact jf171_160 jo_N hl1 hl2 hl3 hl4 r3 hl2 hl3 (jb_rn rfl) h63 k σ64 s64
        · have h58 := jo_n c58 h56
          refine jiL8 (p := 88) rfl jM171 jq171_86 ?_
          refine jw_goto jM171 jq171_88 ?_
          obtain ⟨c65, h65⟩ := jo_i h58
          refine jg_iast (p := 106) rfl jM171 jq171_105 (ja_106 s57.1) c65.1 c65.2 s57 (by decide) hl3 ?_
          intro σ66 s66
          refine jaL6 (p := 108) rfl jM171 jq171_106 ?_
          refine jw_iconst (p := 109) rfl jM171 jq171_108 ?_
          refine jiL5 (p := 111) rfl jM171 jq171_109 ?_
          refine jw_imul (p := 112) rfl jM171 jq171_111 ?_
          refine jw_iconst (p := 113) rfl jM171 jq171_112 ?_
          refine jw_iadd (p := 114) rfl jM171 jq171_113 ?_
          refine jiL4 (p := 116) rfl jM171 jq171_114 ?_
          refine jw_iconst (p := 117) rfl jM171 jq171_116 ?_
          refine jw_ic (p := 120) rfl jM171 jq171_117 (jc_ne hl4 (jb_rn rfl)) (fun _ => ?_) (fun z => absurd c46 z)
          refine jiL4 (p := 126) rfl jM171 jq171_124 ?_
          refine jiL8 (p := 128) rfl jM171 jq171_126 ?_
          refine jw_ic (p := 131) rfl jM171 jq171_128 (jc_le hl4 hl3) (fun z => absurd z c58) (fun _ => ?_)
          refine jiL4 (p := 133) rfl jM171 jq171_131 ?_
          refine jw_goto jM171 jq171_133 ?_
          obtain ⟨c67, h67⟩ := jo_i h65
          refine jg_iast (p := 139) rfl jM171 jq171_138 (ja_106 s66.1) c67.1 c67.2 s66 (by decide) hl4 ?_
          intro σ68 s68
          refine jaL0 (p := 140) rfl jM171 jq171_139 ?_
          refine jw_getP (p := 143) (i := 21) (q := 105) rfl jM171 jq171_140 rfl (jo_92 s68.1) je_11_21 (jp_92_21 s68.1) ?_
          refine jiL5 (p := 145) rfl jM171 jq171_143 ?_
          refine jiL4 (p := 147) rfl jM171 jq171_145 ?_
          refine jw_iconst (p := 148) rfl jM171 jq171_147 ?_
          refine jw_ic (p := 151) rfl jM171 jq171_148 (jc_ne hl4 (jb_rn rfl)) (fun _ => ?_) (fun z => absurd c46 z)
          refine jw_iconst (p := 156) rfl jM171 jq171_155 ?_
          obtain ⟨c69, h69⟩ := jo_i h67
          refine jg_iast (p := 157) rfl jM171 jq171_156 (ja_105 s68.1) c69.1 c69.2 s68 (by decide) (jb_rn rfl) ?_
          intro σ70 s70
          refine jw_iconst (p := 158) rfl jM171 jq171_157 ?_
          refine jiS9 (p := 160) rfl jM171 jq171_158 ?_
          exact jf171_160 jo_N hl1 hl2 hl3 hl4 r3 hl2 hl3 (jb_rn rfl) h69 k σ70 s70
      · have h55 := jo_n c55 h46
        refine jiL4 (p := 59) rfl jM171 jq171_57 ?_
        refine jw_goto jM171 jq171_59 ?_
        obtain ⟨c71, h71⟩ := jo_i h55
        refine jg_iast (p := 65) rfl jM171 jq171_64 (ja_106 s3.1) c71.1 c71.2 s3 (by decide) hl4 ?_
        intro σ72 s72
        refine jaL6 (p := 67) rfl jM171 jq171_65 ?_
        refine jw_iconst (p := 68) rfl jM171 jq171_67 ?_
        refine jiL5 (p := 70) rfl jM171 jq171_68 ?_
        refine jw_imul (p := 71) rfl jM171 jq171_70 ?_
        refine jw_iconst (p := 72) rfl jM171 jq171_71 ?_
        refine jw_iadd (p := 73) rfl jM171 jq171_72 ?_
        refine jiL4 (p := 75) rfl jM171 jq171_73 ?_
        refine jw_iconst (p := 76) rfl jM171 jq171_75 ?_
        refine jw_ic (p := 79) rfl jM171 jq171_76 (jc_eq hl4 (jb_rn rfl)) (fun z => absurd z c46) (fun _ => ?_)
        refine jiL4 (p := 81) rfl jM171 jq171_79 ?_
        refine jiL8 (p := 83) rfl jM171 jq171_81 ?_
        refine jw_ic (p := 86) rfl jM171 jq171_83 (jc_le hl4 hl3) (fun c73 => ?_) (fun c73 => ?_)
        · have h73 := jo_p c73 h71
          refine jiL4 (p := 93) rfl jM171 jq171_91 ?_
          refine jiL7 (p := 95) rfl jM171 jq171_93 ?_
          refine jw_ic (p := 98) rfl jM171 jq171_95 (jc_ge hl4 hl2) (fun z => absurd z c55) (fun _ => ?_)
          refine jiL7 (p := 100) rfl jM171 jq171_98 ?_
          refine jw_goto jM171 jq171_100 ?_
          obtain ⟨c74, h74⟩ := jo_i h73
          refine jg_iast (p := 106) rfl jM171 jq171_105 (ja_106 s72.1) c74.1 c74.2 s72 (by decide) hl2 ?_
          intro σ75 s75
          refine jaL6 (p := 108) rfl jM171 jq171_106 ?_
          refine jw_iconst (p := 109) rfl jM171 jq171_108 ?_
          refine jiL5 (p := 111) rfl jM171 jq171_109 ?_
          refine jw_imul (p := 112) rfl jM171 jq171_111 ?_
          refine jw_iconst (p := 113) rfl jM171 jq171_112 ?_
          refine jw_iadd (p := 114) rfl jM171 jq171_113 ?_
          refine jiL4 (p := 116) rfl jM171 jq171_114 ?_
          refine jw_iconst (p := 117) rfl jM171 jq171_116 ?_
          refine jw_ic (p := 120) rfl jM171 jq171_117 (jc_ne hl4 (jb_rn rfl)) (fun _ => ?_) (fun z => absurd c46 z)
          refine jiL4 (p := 126) rfl jM171 jq171_124 ?_
          refine jiL8 (p := 128) rfl jM171 jq171_126 ?_
          refine jw_ic (p := 131) rfl jM171 jq171_128 (jc_le hl4 hl3) (fun _ => ?_) (fun z => absurd c73 z)
          refine jiL8 (p := 138) rfl jM171 jq171_136 ?_
          obtain ⟨c76, h76⟩ := jo_i h74
          refine jg_iast (p := 139) rfl jM171 jq171_138 (ja_106 s75.1) c76.1 c76.2 s75 (by decide) hl3 ?_
          intro σ77 s77
          refine jaL0 (p := 140) rfl jM171 jq171_139 ?_
          refine jw_getP (p := 143) (i := 21) (q := 105) rfl jM171 jq171_140 rfl (jo_92 s77.1) je_11_21 (jp_92_21 s77.1) ?_
          refine jiL5 (p := 145) rfl jM171 jq171_143 ?_
          refine jiL4 (p := 147) rfl jM171 jq171_145 ?_
          refine jw_iconst (p := 148) rfl jM171 jq171_147 ?_
          refine jw_ic (p := 151) rfl jM171 jq171_148 (jc_ne hl4 (jb_rn rfl)) (fun _ => ?_) (fun z => absurd c46 z)
          refine jw_iconst (p := 156) rfl jM171 jq171_155 ?_
          obtain ⟨c78, h78⟩ := jo_i h76
          refine jg_iast (p := 157) rfl jM171 jq171_156 (ja_105 s77.1) c78.1 c78.2 s77 (by decide) (jb_rn rfl) ?_
          intro σ79 s79
          refine jw_iconst (p := 158) rfl jM171 jq171_157 ?_
          refine jiS9 (p := 160) rfl jM171 jq171_158 ?_
          exact jf171_160 jo_N hl1 hl2 hl3 hl4 r3 hl2 hl3 (jb_rn rfl) h78 k σ79 s79
        · have h73 := jo_n c73 h71
          refine jiL8 (p := 88) rfl jM171 jq171_86 ?_
          refine jw_goto jM171 jq171_88 ?_
          obtain ⟨c80, h80⟩ := jo_i h73
          refine jg_iast (p := 106) rfl jM171 jq171_105 (ja_106 s72.1) c80.1 c80.2 s72 (by decide) hl3 ?_
          intro σ81 s81
          refine jaL6 (p := 108) rfl jM171 jq171_106 ?_
          refine jw_iconst (p := 109) rfl jM171 jq171_108 ?_
          refine jiL5 (p := 111) rfl jM171 jq171_109 ?_
          refine jw_imul (p := 112) rfl jM171 jq171_111 ?_
          refine jw_iconst (p := 113) rfl jM171 jq171_112 ?_
          refine jw_iadd (p := 114) rfl jM171 jq171_113 ?_
          refine jiL4 (p := 116) rfl jM171 jq171_114 ?_
          refine jw_iconst (p := 117) rfl jM171 jq171_116 ?_
          refine jw_ic (p := 120) rfl jM171 jq171_117 (jc_ne hl4 (jb_rn rfl)) (fun _ => ?_) (fun z => absurd c46 z)
          refine jiL4 (p := 126) rfl jM171 jq171_124 ?_
          refine jiL8 (p := 128) rfl jM171 jq171_126 ?_
          refine jw_ic (p := 131) rfl jM171 jq171_128 (jc_le hl4 hl3) (fun z => absurd z c73) (fun _ => ?_)
          refine jiL4 (p := 133) rfl jM171 jq171_131 ?_
          refine jw_goto jM171 jq171_133 ?_
          obtain ⟨c82, h82⟩ := jo_i h80
          refine jg_iast (p := 139) rfl jM171 jq171_138 (ja_106 s81.1) c82.1 c82.2 s81 (by decide) hl4 ?_
          intro σ83 s83
          refine jaL0 (p := 140) rfl jM171 jq171_139 ?_
          refine jw_getP (p := 143) (i := 21) (q := 105) rfl jM171 jq171_140 rfl (jo_92 s83.1) je_11_21 (jp_92_21 s83.1) ?_
          refine jiL5 (p := 145) rfl jM171 jq171_143 ?_
          refine jiL4 (p := 147) rfl jM171 jq171_145 ?_
          refine jw_iconst (p := 148) rfl jM171 jq171_147 ?_
          refine jw_ic (p := 151) rfl jM171 jq171_148 (jc_ne hl4 (jb_rn rfl)) (fun _ => ?_) (fun z => absurd c46 z)
          refine jw_iconst (p := 156) rfl jM171 jq171_155 ?_
          obtain ⟨c84, h84⟩ := jo_i h82
          refine jg_iast (p := 157) rfl jM171 jq171_156 (ja_105 s83.1) c84.1 c84.2 s83 (by decide) (jb_rn rfl) ?_
          intro σ85 s85
          refine jw_iconst (p := 158) rfl jM171 jq171_157 ?_
          refine jiS9 (p := 160) rfl jM171 jq171_158 ?_
          exact jf171_160 jo_N hl1 hl2 hl3 hl4 r3 hl2 hl3 (jb_rn rfl) h84 k σ85 s85
-- 175 finds need 6
def fo175_9 : Nat → jg_G → Int → Int → Int → Option (jg_G × Int)
  | 0, _, _, _, _ => none
  | m + 1, G, l1, l2, l3 => if l3 = 0 then (some (G, 0)) else (if G 92 7 = 0 then ((fo168 G l2).bind fun x3 => if 0 ≤ ((x3.1) 92 29) ∧ ((x3.1) 92 29) < 25 then if -2147483648 ≤ (((x3.1) 92 29) + 1) ∧ (((x3.1) 92 29) + 1) < 2147483648 then if 0 ≤ l2 ∧ l2 < 24 then jo_l (fr_ro (jg_u (jg_u (x3.1) 112 ((x3.1) 92 29) l2) 92 29 (((x3.1) 92 29) + 1)) l2) fun x10 => if (x3.1) 92 7 = 0 then (if 0 ≤ (67 * x10) ∧ (67 * x10) < 305118 then if (x3.1) 93 (67 * x10) = 2 then (if 24 ≤ ((x3.1) 92 29) + 1 then (fo175_9 m (jg_u (jg_u (x3.1) 112 ((x3.1) 92 29) l2) 92 29 (((x3.1) 92 29) + 1)) l1 l2 0) else (if 0 ≤ x10 ∧ x10 < 4553 then if 0 ≤ (jg_u (jg_u (x3.1) 112 ((x3.1) 92 29) l2) 92 29 (((x3.1) 92 29) + 1)) 93 (67 * x10 + 2) ∧ (jg_u (jg_u (x3.1) 112 ((x3.1) 92 29) l2) 92 29 (((x3.1) 92 29) + 1)) 93 (67 * x10 + 2) ≤ 32 then jo_l (fr_ch (jg_u (jg_u (x3.1) 112 ((x3.1) 92 29) l2) 92 29 (((x3.1) 92 29) + 1)) x10 l1) fun x18 => fo175_9 m (jg_u (jg_u (x3.1) 112 ((x3.1) 92 29) l2) 92 29 (((x3.1) 92 29) + 1)) l1 x18 1 else none else none)) else (fo175_9 m (jg_u (jg_u (x3.1) 112 ((x3.1) 92 29) l2) 92 29 (((x3.1) 92 29) + 1)) l1 l2 0) else none) else (fo175_9 m (jg_u (jg_u (x3.1) 112 ((x3.1) 92 29) l2) 92 29 (((x3.1) 92 29) + 1)) l1 l2 0) else none else none else none) else (some (G, 0)))
theorem jf175_9 {d : Nat} {σ0 : ib_H} {Q : ib_O → Prop} : ∀ (m : Nat) {G : jg_G} {l1 : Int} {l2 : Int} {l3 : Int} {o4 : Option Value} (hl1 : jb_r l1) (hl2 : jb_r l2) (hl3 : jb_r l3) {r : jg_G × Int} (h : fo175_9 m G l1 l2 l3 = some r) (k : ∀ σ, jg_S σ0 r.1 σ → Q (.inl none, σ)), jg_W σ0 G (d + 6) 175 9 [some (.ref 92), some (jb_v l1), some (jb_v l2), some (jb_v l3), o4] [] Q := by
  intro m
  induction m with
  | zero =>
    intro G l1 l2 l3 o4 hl1 hl2 hl3 r h k
    cases h
  | succ m ih =>
    intro G l1 l2 l3 o4 hl1 hl2 hl3 r h k σ s
    unfold fo175_9 at h
    refine jiL3 (p := 10) rfl jM175 jq175_9 ?_
    refine jw_if (p := 13) rfl jM175 jq175_10 (jc_eq hl3 jb_r0) (fun c1 => ?_) (fun c1 => ?_)
    · have h1 := jo_p c1 h
      cases h1
      exact jw_vret jM175 jq175_103 (k σ s)
    · have h1 := jo_n c1 h
      refine jaL0 (p := 14) rfl jM175 jq175_13 ?_
      refine jg_getI (p := 17) (i := 7) rfl jM175 jq175_14 rfl (jo_92 s.1) jn_11_7 s (by decide) (by decide) rfl ?_
      refine jw_if (p := 20) rfl jM175 jq175_17 (jc_ne (s.r _ _) jb_r0) (fun c2 => ?_) (fun c2 => ?_)
      · have h2 := jo_n c2 h1
        cases h2
        exact jw_vret jM175 jq175_103 (k σ s)
      · have h2 := jo_p (Decidable.byContradiction c2) h1
        refine jaL0 (p := 21) rfl jM175 jq175_20 ?_
        refine jiL2 (p := 22) rfl jM175 jq175_21 ?_
        refine jw_callV [(jb_v l2)] jM175 jq175_22 rfl rfl (jo_92 s.1) rfl jM168 rfl rfl ?_
        obtain ⟨x3, b4, h4⟩ := jo_b h2
        refine jf168 hl2 b4 (fun σ3 s3 => ?_) σ s
        show jb_w (d + 6) 175 25 [some (.ref 92), some (jb_v l1), some (jb_v l2), some (jb_v l3), o4] [] σ3 Q
        refine jaL0 (p := 26) rfl jM175 jq175_25 ?_
        refine jw_getP (p := 29) (i := 28) (q := 112) rfl jM175 jq175_26 rfl (jo_92 s3.1) je_11_28 (jp_92_28 s3.1) ?_
        refine jaL0 (p := 30) rfl jM175 jq175_29 ?_
        refine jg_getI (p := 33) (i := 29) rfl jM175 jq175_30 rfl (jo_92 s3.1) jn_11_29 s3 (by decide) (by decide) rfl ?_
        refine jiL2 (p := 34) rfl jM175 jq175_33 ?_
        obtain ⟨c5, h5⟩ := jo_i h4
        refine jg_iast (p := 35) rfl jM175 jq175_34 (ja_112 s3.1) c5.1 c5.2 s3 (by decide) hl2 ?_
        intro σ6 s6
        refine jaL0 (p := 36) rfl jM175 jq175_35 ?_
        refine jw_dupA (p := 37) rfl jM175 jq175_36 ?_
        refine jg_getI (p := 40) (i := 29) rfl jM175 jq175_37 rfl (jo_92 s6.1) jn_11_29 s6 (by decide) (by decide) (jg_uN (by decide)) ?_
        refine jw_iconst (p := 41) rfl jM175 jq175_40 ?_
        refine jw_iadd (p := 42) rfl jM175 jq175_41 ?_
        obtain ⟨c7, h7⟩ := jo_i h5
        refine jg_putI (p := 45) (i := 29) rfl jM175 jq175_42 rfl (jo_92 s6.1) (Or.inl jz_11_29) s6 (by decide) (by decide) c7 ?_
        intro σ8 s8
        refine jaL0 (p := 46) rfl jM175 jq175_45 ?_
        refine jiL2 (p := 47) rfl jM175 jq175_46 ?_
        refine jw_callV [(jb_v l2)] jM175 jq175_47 rfl rfl (jo_92 s8.1) rfl jM161 rfl rfl ?_
        obtain ⟨c9, h9⟩ := jo_i h7
        obtain ⟨x10, e11, h11⟩ := jo_lb h9
        refine cs161 c9 (fun σ10 s10 r10 => ?_) σ8 s8
        rw [e11] at r10 ⊢
        show jb_w (d + 6) 175 50 [some (.ref 92), some (jb_v l1), some (jb_v l2), some (jb_v l3), o4] [(jb_v x10)] σ10 Q
        refine jiS4 (p := 52) rfl jM175 jq175_50 ?_
        refine jaL0 (p := 53) rfl jM175 jq175_52 ?_
        refine jg_getI (p := 56) (i := 7) rfl jM175 jq175_53 rfl (jo_92 s10.1) jn_11_7 s10 (by decide) (by decide) ((jg_uI (by decide)).trans (jg_uN (by decide))) ?_
        refine jw_if (p := 59) rfl jM175 jq175_56 (jc_ne (s3.r _ _) jb_r0) (fun c12 => ?_) (fun c12 => ?_)
        · have h12 := jo_n c12 h11
          refine jw_iconst (p := 83) rfl jM175 jq175_82 ?_
          refine jiS3 (p := 84) rfl jM175 jq175_83 ?_
          refine jiL3 (p := 85) rfl jM175 jq175_84 ?_
          refine jw_if (p := 88) rfl jM175 jq175_85 (jc_eq (jb_rn rfl) jb_r0) (fun _ => ?_) (fun z => absurd (by decide) z)
          refine jiL2 (p := 99) rfl jM175 jq175_98 ?_
          refine jiS2 (p := 100) rfl jM175 jq175_99 ?_
          refine jw_goto jM175 jq175_100 ?_
          exact ih hl1 hl2 (jb_rn rfl) h12 k σ10 s10
        · have h12 := jo_p (Decidable.byContradiction c12) h11
          refine jaL0 (p := 60) rfl jM175 jq175_59 ?_
          refine jiL4 (p := 62) rfl jM175 jq175_60 ?_
          refine jw_callV [(jb_v x10)] jM175 jq175_62 rfl rfl (jo_92 s10.1) rfl jM149 rfl rfl ?_
          show jb_w (d + 5) 149 0 [some (.ref 92), some (jb_v x10)] [] σ10 (jb_k (d + 6) 175 62 [some (.ref 92), some (jb_v l1), some (jb_v l2), some (jb_v l3), some (jb_v x10)] [] Q)
          refine jaL0 (p := 1) rfl jM149 jq149_0 ?_
          refine jw_getP (p := 4) (i := 1) (q := 93) rfl jM149 jq149_1 rfl (jo_92 s10.1) je_11_1 (jp_92_1 s10.1) ?_
          refine jw_bipush (p := 6) rfl jM149 jq149_4 (by decide) ?_
          refine jiL1 (p := 7) rfl jM149 jq149_6 ?_
          refine jw_imul (p := 8) rfl jM149 jq149_7 ?_
          obtain ⟨c13, h13⟩ := jo_i h12
          refine jg_iald (p := 9) rfl jM149 jq149_8 (ja_93 s10.1) c13.1 c13.2 s10 (by decide) ((jg_uN (by decide)).trans (jg_uN (by decide))) ?_
          refine jw_iret jM149 jq149_9 (fun z => absurd z (by decide)) ?_
          show jb_w (d + 6) 175 65 [some (.ref 92), some (jb_v l1), some (jb_v l2), some (jb_v l3), some (jb_v x10)] [(jb_v ((x3.1) 93 (67 * x10)))] σ10 Q
          refine jw_iconst (p := 66) rfl jM175 jq175_65 ?_
          refine jw_ic (p := 69) rfl jM175 jq175_66 (jc_ne (s3.r _ _) (jb_rn rfl)) (fun c14 => ?_) (fun c14 => ?_)
          · have h14 := jo_n c14 h13
            refine jw_iconst (p := 83) rfl jM175 jq175_82 ?_
            refine jiS3 (p := 84) rfl jM175 jq175_83 ?_
            refine jiL3 (p := 85) rfl jM175 jq175_84 ?_
            refine jw_if (p := 88) rfl jM175 jq175_85 (jc_eq (jb_rn rfl) jb_r0) (fun _ => ?_) (fun z => absurd (by decide) z)
            refine jiL2 (p := 99) rfl jM175 jq175_98 ?_
            refine jiS2 (p := 100) rfl jM175 jq175_99 ?_
            refine jw_goto jM175 jq175_100 ?_
            exact ih hl1 hl2 (jb_rn rfl) h14 k σ10 s10
          · have h14 := jo_p (Decidable.byContradiction c14) h13
            refine jaL0 (p := 70) rfl jM175 jq175_69 ?_
            refine jg_getI (p := 73) (i := 29) rfl jM175 jq175_70 rfl (jo_92 s10.1) jn_11_29 s10 (by decide) (by decide) jg_uH ?_
            refine jw_bipush (p := 75) rfl jM175 jq175_73 (by decide) ?_
            refine jw_ic (p := 78) rfl jM175 jq175_75 (jc_ge c7 (jb_rn rfl)) (fun c15 => ?_) (fun c15 => ?_)
            · have h15 := jo_p c15 h14
              refine jw_iconst (p := 83) rfl jM175 jq175_82 ?_
              refine jiS3 (p := 84) rfl jM175 jq175_83 ?_
              refine jiL3 (p := 85) rfl jM175 jq175_84 ?_
              refine jw_if (p := 88) rfl jM175 jq175_85 (jc_eq (jb_rn rfl) jb_r0) (fun _ => ?_) (fun z => absurd (by decide) z)
              refine jiL2 (p := 99) rfl jM175 jq175_98 ?_
              refine jiS2 (p := 100) rfl jM175 jq175_99 ?_
              refine jw_goto jM175 jq175_100 ?_
              exact ih hl1 hl2 (jb_rn rfl) h15 k σ10 s10
            · have h15 := jo_n c15 h14
              refine jw_iconst (p := 79) rfl jM175 jq175_78 ?_
              refine jw_goto jM175 jq175_79 ?_
              refine jiS3 (p := 84) rfl jM175 jq175_83 ?_
              refine jiL3 (p := 85) rfl jM175 jq175_84 ?_
              refine jw_if (p := 88) rfl jM175 jq175_85 (jc_eq (jb_rn rfl) jb_r0) (fun z => absurd z (by decide)) (fun _ => ?_)
              refine jaL0 (p := 89) rfl jM175 jq175_88 ?_
              refine jiL4 (p := 91) rfl jM175 jq175_89 ?_
              refine jiL1 (p := 92) rfl jM175 jq175_91 ?_
              refine jw_callV [(jb_v x10), (jb_v l1)] jM175 jq175_92 rfl rfl (jo_92 s10.1) rfl jM159 rfl rfl ?_
              obtain ⟨c16, h16⟩ := jo_i h15
              obtain ⟨c17, h17⟩ := jo_i h16
              obtain ⟨x18, e19, h19⟩ := jo_lb h17
              refine cs159 c16 c17 hl1 (fun σ18 s18 r18 => ?_) σ10 s10
              rw [e19] at r18 ⊢
              show jb_w (d + 6) 175 95 [some (.ref 92), some (jb_v l1), some (jb_v l2), some (jb_v 1), some (jb_v x10)] [(jb_v x18)] σ18 Q
              refine jw_goto jM175 jq175_95 ?_
              refine jiS2 (p := 100) rfl jM175 jq175_99 ?_
              refine jw_goto jM175 jq175_100 ?_
              exact ih hl1 r18 (jb_rn rfl) h19 k σ18 s18
def fo175 (G : jg_G) (l1 : Int) : Option (jg_G × Int) := fo175_9 jo_N (jg_u G 92 29 0) l1 0 1
theorem jf175 {d : Nat} {σ0 : ib_H} {Q : ib_O → Prop} {G : jg_G} {l1 : Int} (hl1 : jb_r l1) {r : jg_G × Int} (h : fo175 G l1 = some r) (k : ∀ σ, jg_S σ0 r.1 σ → Q (.inl none, σ)) : jg_W σ0 G (d + 6) 175 0 [some (.ref 92), some (jb_v l1), none, none, none] [] Q := by
  intro σ s
  unfold fo175 at h
  refine jaL0 (p := 1) rfl jM175 jq175_0 ?_
  refine jw_iconst (p := 2) rfl jM175 jq175_1 ?_
  refine jg_putI (p := 5) (i := 29) rfl jM175 jq175_2 rfl (jo_92 s.1) (Or.inl jz_11_29) s (by decide) (by decide) (jb_rn rfl) ?_
  intro σ1 s1
  refine jw_iconst (p := 6) rfl jM175 jq175_5 ?_
  refine jiS2 (p := 7) rfl jM175 jq175_6 ?_
  refine jw_iconst (p := 8) rfl jM175 jq175_7 ?_
  refine jiS3 (p := 9) rfl jM175 jq175_8 ?_
  exact jf175_9 jo_N hl1 (jb_rn rfl) (jb_rn rfl) h k σ1 s1
-- 178 splitsRoot need 7
def fo178 (G : jg_G) : Option (jg_G × Int) := (fo176 G 0).bind fun x1 => if -2147483648 ≤ ((x1.2) + 1) ∧ ((x1.2) + 1) < 2147483648 then (fo176 (x1.1) ((x1.2) + 1)).bind fun x4 => (fo171 (x4.1) 5 0 (x1.2) (x4.2)).bind fun x6 => if 0 ≤ (0 : Int) ∧ (0 : Int) < 24 then jo_l (fr_ro (x6.1) (0 : Int)) fun x9 => if 0 ≤ ((67 * x9) + 2) ∧ ((67 * x9) + 2) < 305118 then if -2147483648 ≤ (((x6.1) 93 ((67 * x9) + 2)) + 1) ∧ (((x6.1) 93 ((67 * x9) + 2)) + 1) < 2147483648 then if 0 ≤ (((x6.1) 93 ((67 * x9) + 2)) + 1) then if 1 ≤ (x6.2) ∧ (x6.2) < 1501 then if 0 ≤ (x6.1) 105 (x6.2) ∧ (x6.1) 105 (x6.2) ≤ 3 then jo_l (fr_ri (x6.1) (x6.2) (x1.2)) fun x16 => (fo155 (x6.1) x9 x16 0 ((((x6.1) 93 ((67 * x9) + 2)) + 1) / 2)).bind fun x18 => if 0 ≤ (x18.1) 105 (x6.2) ∧ (x18.1) 105 (x6.2) ≤ 3 then jo_l (fr_ri (x18.1) (x6.2) (x4.2)) fun x21 => (fo155 (x18.1) x9 x21 ((((x6.1) 93 ((67 * x9) + 2)) + 1) / 2) ((x6.1) 93 ((67 * x9) + 2))).bind fun x23 => if 0 ≤ (((67 * x9) + 3) + (2 * ((((x6.1) 93 ((67 * x9) + 2)) + 1) / 2))) ∧ (((67 * x9) + 3) + (2 * ((((x6.1) 93 ((67 * x9) + 2)) + 1) / 2))) < 305118 then if 0 ≤ (67 * x9) ∧ (67 * x9) < 305118 then if (x23.1) 93 (67 * x9) = 2 then (if 0 ≤ (x23.1) 105 (x6.2) ∧ (x23.1) 105 (x6.2) ≤ 3 then jo_l (fr_ri (x23.1) (x6.2) (x4.2)) fun x46 => if 0 ≤ (((67 * x9) + 4) + (2 * ((((x6.1) 93 ((67 * x9) + 2)) + 1) / 2))) ∧ (((67 * x9) + 4) + (2 * ((((x6.1) 93 ((67 * x9) + 2)) + 1) / 2))) < 305118 then if 0 ≤ (((67 * x46) + 3) + ((2 : Int) * 0)) ∧ (((67 * x46) + 3) + ((2 : Int) * 0)) < 305118 then if 0 ≤ (((67 * x46) + 4) + ((2 : Int) * 0)) ∧ (((67 * x46) + 4) + ((2 : Int) * 0)) < 305118 then if 0 ≤ (jg_u (jg_u (x23.1) 93 (((67 * x46) + 3) + ((2 : Int) * 0)) 0) 93 (((67 * x46) + 4) + ((2 : Int) * 0)) ((x23.1) 93 (((67 * x9) + 4) + (2 * ((((x6.1) 93 ((67 * x9) + 2)) + 1) / 2))))) 105 (x6.2) ∧ (jg_u (jg_u (x23.1) 93 (((67 * x46) + 3) + ((2 : Int) * 0)) 0) 93 (((67 * x46) + 4) + ((2 : Int) * 0)) ((x23.1) 93 (((67 * x9) + 4) + (2 * ((((x6.1) 93 ((67 * x9) + 2)) + 1) / 2))))) 105 (x6.2) ≤ 3 then jo_l (fr_ri (jg_u (jg_u (x23.1) 93 (((67 * x46) + 3) + ((2 : Int) * 0)) 0) 93 (((67 * x46) + 4) + ((2 : Int) * 0)) ((x23.1) 93 (((67 * x9) + 4) + (2 * ((((x6.1) 93 ((67 * x9) + 2)) + 1) / 2))))) (x6.2) (0 : Int)) fun x54 => if 0 ≤ x54 ∧ x54 < 4554 then if 0 ≤ (((67 * x54) + 3) + ((2 : Int) * 0)) ∧ (((67 * x54) + 3) + ((2 : Int) * 0)) < 305118 then if 0 ≤ (((67 * x54) + 4) + ((2 : Int) * 0)) ∧ (((67 * x54) + 4) + ((2 : Int) * 0)) < 305118 then if 0 ≤ (((67 * x54) + 3) + ((2 : Int) * 1)) ∧ (((67 * x54) + 3) + ((2 : Int) * 1)) < 305118 then if 0 ≤ (((67 * x54) + 4) + ((2 : Int) * 1)) ∧ (((67 * x54) + 4) + ((2 : Int) * 1)) < 305118 then if 0 ≤ ((67 * x54) + 2) ∧ ((67 * x54) + 2) < 305118 then (fo174 (jg_u (jg_u (jg_u (jg_u (jg_u (fr_empties (jg_u (jg_u (x23.1) 93 (((67 * x46) + 3) + ((2 : Int) * 0)) 0) 93 (((67 * x46) + 4) + ((2 : Int) * 0)) ((x23.1) 93 (((67 * x9) + 4) + (2 * ((((x6.1) 93 ((67 * x9) + 2)) + 1) / 2))))) x54 (2 : Int)) 93 (((67 * x54) + 3) + ((2 : Int) * 0)) 0) 93 (((67 * x54) + 4) + ((2 : Int) * 0)) (x1.2)) 93 (((67 * x54) + 3) + ((2 : Int) * 1)) ((x23.1) 93 (((67 * x9) + 3) + (2 * ((((x6.1) 93 ((67 * x9) + 2)) + 1) / 2))))) 93 (((67 * x54) + 4) + ((2 : Int) * 1)) (x4.2)) 93 ((67 * x54) + 2) 2) (x6.2)).bind fun x68 => some (x68.1, 0) else none else none else none else none else none else none else none else none else none else none else none) else (if 0 ≤ (x23.1) 105 (x6.2) ∧ (x23.1) 105 (x6.2) ≤ 3 then jo_l (fr_ri (x23.1) (x6.2) (0 : Int)) fun x29 => if 0 ≤ x29 ∧ x29 < 4554 then if 0 ≤ (((67 * x29) + 3) + ((2 : Int) * 0)) ∧ (((67 * x29) + 3) + ((2 : Int) * 0)) < 305118 then if 0 ≤ (((67 * x29) + 4) + ((2 : Int) * 0)) ∧ (((67 * x29) + 4) + ((2 : Int) * 0)) < 305118 then if 0 ≤ (((67 * x29) + 3) + ((2 : Int) * 1)) ∧ (((67 * x29) + 3) + ((2 : Int) * 1)) < 305118 then if 0 ≤ (((67 * x29) + 4) + ((2 : Int) * 1)) ∧ (((67 * x29) + 4) + ((2 : Int) * 1)) < 305118 then if 0 ≤ ((67 * x29) + 2) ∧ ((67 * x29) + 2) < 305118 then (fo174 (jg_u (jg_u (jg_u (jg_u (jg_u (fr_empties (x23.1) x29 (2 : Int)) 93 (((67 * x29) + 3) + ((2 : Int) * 0)) 0) 93 (((67 * x29) + 4) + ((2 : Int) * 0)) (x1.2)) 93 (((67 * x29) + 3) + ((2 : Int) * 1)) ((x23.1) 93 (((67 * x9) + 3) + (2 * ((((x6.1) 93 ((67 * x9) + 2)) + 1) / 2))))) 93 (((67 * x29) + 4) + ((2 : Int) * 1)) (x4.2)) 93 ((67 * x29) + 2) 2) (x6.2)).bind fun x43 => some (x43.1, 0) else none else none else none else none else none else none else none) else none else none else none else none else none else none else none else none else none else none
theorem jf178 {d : Nat} {σ0 : ib_H} {Q : ib_O → Prop} {G : jg_G} {r : jg_G × Int} (h : fo178 G  = some r) (k : ∀ σ, jg_S σ0 r.1 σ → Q (.inl none, σ)) : jg_W σ0 G (d + 7) 178 0 [some (.ref 92), none, none, none, none, none, none, none, none] [] Q := by
  intro σ s
  unfold fo178 at h
  refine jaL0 (p := 1) rfl jM178 jq178_0 ?_
  refine jw_iconst (p := 2) rfl jM178 jq178_1 ?_
  refine jw_callV [(jb_v 0)] jM178 jq178_2 rfl rfl (jo_92 s.1) rfl jM176 rfl rfl ?_
  obtain ⟨x1, b2, h2⟩ := jo_b h
  refine jf176 (jb_rn rfl) b2 (fun σ1 s1 r1 => ?_) σ s
  show jb_w (d + 7) 178 5 [some (.ref 92), none, none, none, none, none, none, none, none] [(jb_v (x1.2))] σ1 Q
  refine jiS1 (p := 6) rfl jM178 jq178_5 ?_
  refine jaL0 (p := 7) rfl jM178 jq178_6 ?_
  refine jiL1 (p := 8) rfl jM178 jq178_7 ?_
  refine jw_iconst (p := 9) rfl jM178 jq178_8 ?_
  refine jw_iadd (p := 10) rfl jM178 jq178_9 ?_
  refine jw_callV [(jb_v ((x1.2) + 1))] jM178 jq178_10 rfl rfl (jo_92 s1.1) rfl jM176 rfl rfl ?_
  obtain ⟨c3, h3⟩ := jo_i h2
  obtain ⟨x4, b5, h5⟩ := jo_b h3
  refine jf176 c3 b5 (fun σ4 s4 r4 => ?_) σ1 s1
  show jb_w (d + 7) 178 13 [some (.ref 92), some (jb_v (x1.2)), none, none, none, none, none, none, none] [(jb_v (x4.2))] σ4 Q
  refine jiS2 (p := 14) rfl jM178 jq178_13 ?_
  refine jaL0 (p := 15) rfl jM178 jq178_14 ?_
  refine jw_iconst (p := 16) rfl jM178 jq178_15 ?_
  refine jw_iconst (p := 17) rfl jM178 jq178_16 ?_
  refine jiL1 (p := 18) rfl jM178 jq178_17 ?_
  refine jiL2 (p := 19) rfl jM178 jq178_18 ?_
  refine jw_callV [(jb_v 5), (jb_v 0), (jb_v (x1.2)), (jb_v (x4.2))] jM178 jq178_19 rfl rfl (jo_92 s4.1) rfl jM171 rfl rfl ?_
  obtain ⟨x6, b7, h7⟩ := jo_b h5
  refine jf171 (jb_rn rfl) (jb_rn rfl) r1 r4 b7 (fun σ6 s6 r6 => ?_) σ4 s4
  show jb_w (d + 7) 178 22 [some (.ref 92), some (jb_v (x1.2)), some (jb_v (x4.2)), none, none, none, none, none, none] [(jb_v (x6.2))] σ6 Q
  refine jiS3 (p := 23) rfl jM178 jq178_22 ?_
  refine jaL0 (p := 24) rfl jM178 jq178_23 ?_
  refine jw_iconst (p := 25) rfl jM178 jq178_24 ?_
  refine jw_callV [(jb_v 0)] jM178 jq178_25 rfl rfl (jo_92 s6.1) rfl jM161 rfl rfl ?_
  obtain ⟨c8, h8⟩ := jo_i h7
  obtain ⟨x9, e10, h10⟩ := jo_lb h8
  refine cs161 c8 (fun σ9 s9 r9 => ?_) σ6 s6
  rw [e10] at r9 ⊢
  show jb_w (d + 7) 178 28 [some (.ref 92), some (jb_v (x1.2)), some (jb_v (x4.2)), some (jb_v (x6.2)), none, none, none, none, none] [(jb_v x9)] σ9 Q
  refine jiS4 (p := 30) rfl jM178 jq178_28 ?_
  refine jaL0 (p := 31) rfl jM178 jq178_30 ?_
  refine jiL4 (p := 33) rfl jM178 jq178_31 ?_
  refine jw_callV [(jb_v x9)] jM178 jq178_33 rfl rfl (jo_92 s9.1) rfl jM150 rfl rfl ?_
  show jb_w (d + 6) 150 0 [some (.ref 92), some (jb_v x9)] [] σ9 (jb_k (d + 7) 178 33 [some (.ref 92), some (jb_v (x1.2)), some (jb_v (x4.2)), some (jb_v (x6.2)), some (jb_v x9), none, none, none, none] [] Q)
  refine jaL0 (p := 1) rfl jM150 jq150_0 ?_
  refine jw_getP (p := 4) (i := 1) (q := 93) rfl jM150 jq150_1 rfl (jo_92 s9.1) je_11_1 (jp_92_1 s9.1) ?_
  refine jw_bipush (p := 6) rfl jM150 jq150_4 (by decide) ?_
  refine jiL1 (p := 7) rfl jM150 jq150_6 ?_
  refine jw_imul (p := 8) rfl jM150 jq150_7 ?_
  refine jw_iconst (p := 9) rfl jM150 jq150_8 ?_
  refine jw_iadd (p := 10) rfl jM150 jq150_9 ?_
  obtain ⟨c11, h11⟩ := jo_i h10
  refine jg_iald (p := 11) rfl jM150 jq150_10 (ja_93 s9.1) c11.1 c11.2 s9 (by decide) rfl ?_
  refine jw_iret jM150 jq150_11 (fun z => absurd z (by decide)) ?_
  show jb_w (d + 7) 178 36 [some (.ref 92), some (jb_v (x1.2)), some (jb_v (x4.2)), some (jb_v (x6.2)), some (jb_v x9), none, none, none, none] [(jb_v ((x6.1) 93 ((67 * x9) + 2)))] σ9 Q
  refine jiS5 (p := 38) rfl jM178 jq178_36 ?_
  refine jiL5 (p := 40) rfl jM178 jq178_38 ?_
  refine jw_iconst (p := 41) rfl jM178 jq178_40 ?_
  refine jw_iadd (p := 42) rfl jM178 jq178_41 ?_
  refine jw_iconst (p := 43) rfl jM178 jq178_42 ?_
  obtain ⟨c12, h12⟩ := jo_i h11
  obtain ⟨c13, h13⟩ := jo_i h12
  refine jw_idiv (p := 44) rfl jM178 jq178_43 c13 c12 (by decide) (jb_rn rfl) ?_
  refine jiS6 (p := 46) rfl jM178 jq178_44 ?_
  refine jaL0 (p := 47) rfl jM178 jq178_46 ?_
  refine jiL4 (p := 49) rfl jM178 jq178_47 ?_
  refine jaL0 (p := 50) rfl jM178 jq178_49 ?_
  refine jiL3 (p := 51) rfl jM178 jq178_50 ?_
  refine jiL1 (p := 52) rfl jM178 jq178_51 ?_
  refine jw_callV [(jb_v (x6.2)), (jb_v (x1.2))] jM178 jq178_52 rfl rfl (jo_92 s9.1) rfl jM172 rfl rfl ?_
  obtain ⟨c14, h14⟩ := jo_i h13
  obtain ⟨c15, h15⟩ := jo_i h14
  obtain ⟨x16, e17, h17⟩ := jo_lb h15
  refine cs172 c14 c15 r1 (fun σ16 s16 r16 => ?_) σ9 s9
  rw [e17] at r16 ⊢
  show jb_w (d + 7) 178 55 [some (.ref 92), some (jb_v (x1.2)), some (jb_v (x4.2)), some (jb_v (x6.2)), some (jb_v x9), some (jb_v ((x6.1) 93 ((67 * x9) + 2))), some (jb_v ((((x6.1) 93 ((67 * x9) + 2)) + 1) / 2)), none, none] [(jb_v x16), (jb_v x9), (.ref 92)] σ16 Q
  refine jw_iconst (p := 56) rfl jM178 jq178_55 ?_
  refine jiL6 (p := 58) rfl jM178 jq178_56 ?_
  refine jw_callV [(jb_v x9), (jb_v x16), (jb_v 0), (jb_v ((((x6.1) 93 ((67 * x9) + 2)) + 1) / 2))] jM178 jq178_58 rfl rfl (jo_92 s16.1) rfl jM155 rfl rfl ?_
  obtain ⟨x18, b19, h19⟩ := jo_b h17
  refine jf155 r9 r16 (jb_rn rfl) (jb_r_div c13 c12 (by decide)) b19 (fun σ18 s18 => ?_) σ16 s16
  show jb_w (d + 7) 178 61 [some (.ref 92), some (jb_v (x1.2)), some (jb_v (x4.2)), some (jb_v (x6.2)), some (jb_v x9), some (jb_v ((x6.1) 93 ((67 * x9) + 2))), some (jb_v ((((x6.1) 93 ((67 * x9) + 2)) + 1) / 2)), none, none] [] σ18 Q
  refine jaL0 (p := 62) rfl jM178 jq178_61 ?_
  refine jiL4 (p := 64) rfl jM178 jq178_62 ?_
  refine jaL0 (p := 65) rfl jM178 jq178_64 ?_
  refine jiL3 (p := 66) rfl jM178 jq178_65 ?_
  refine jiL2 (p := 67) rfl jM178 jq178_66 ?_
  refine jw_callV [(jb_v (x6.2)), (jb_v (x4.2))] jM178 jq178_67 rfl rfl (jo_92 s18.1) rfl jM172 rfl rfl ?_
  obtain ⟨c20, h20⟩ := jo_i h19
  obtain ⟨x21, e22, h22⟩ := jo_lb h20
  refine cs172 c14 c20 r4 (fun σ21 s21 r21 => ?_) σ18 s18
  rw [e22] at r21 ⊢
  show jb_w (d + 7) 178 70 [some (.ref 92), some (jb_v (x1.2)), some (jb_v (x4.2)), some (jb_v (x6.2)), some (jb_v x9), some (jb_v ((x6.1) 93 ((67 * x9) + 2))), some (jb_v ((((x6.1) 93 ((67 * x9) + 2)) + 1) / 2)), none, none] [(jb_v x21), (jb_v x9), (.ref 92)] σ21 Q
  refine jiL6 (p := 72) rfl jM178 jq178_70 ?_
  refine jiL5 (p := 74) rfl jM178 jq178_72 ?_
  refine jw_callV [(jb_v x9), (jb_v x21), (jb_v ((((x6.1) 93 ((67 * x9) + 2)) + 1) / 2)), (jb_v ((x6.1) 93 ((67 * x9) + 2)))] jM178 jq178_74 rfl rfl (jo_92 s21.1) rfl jM155 rfl rfl ?_
  obtain ⟨x23, b24, h24⟩ := jo_b h22
  refine jf155 r9 r21 (jb_r_div c13 c12 (by decide)) (s6.r _ _) b24 (fun σ23 s23 => ?_) σ21 s21
  show jb_w (d + 7) 178 77 [some (.ref 92), some (jb_v (x1.2)), some (jb_v (x4.2)), some (jb_v (x6.2)), some (jb_v x9), some (jb_v ((x6.1) 93 ((67 * x9) + 2))), some (jb_v ((((x6.1) 93 ((67 * x9) + 2)) + 1) / 2)), none, none] [] σ23 Q
  refine jaL0 (p := 78) rfl jM178 jq178_77 ?_
  refine jiL4 (p := 80) rfl jM178 jq178_78 ?_
  refine jiL6 (p := 82) rfl jM178 jq178_80 ?_
  refine jw_callV [(jb_v x9), (jb_v ((((x6.1) 93 ((67 * x9) + 2)) + 1) / 2))] jM178 jq178_82 rfl rfl (jo_92 s23.1) rfl jM151 rfl rfl ?_
  show jb_w (d + 6) 151 0 [some (.ref 92), some (jb_v x9), some (jb_v ((((x6.1) 93 ((67 * x9) + 2)) + 1) / 2))] [] σ23 (jb_k (d + 7) 178 82 [some (.ref 92), some (jb_v (x1.2)), some (jb_v (x4.2)), some (jb_v (x6.2)), some (jb_v x9), some (jb_v ((x6.1) 93 ((67 * x9) + 2))), some (jb_v ((((x6.1) 93 ((67 * x9) + 2)) + 1) / 2)), none, none] [] Q)
  refine jaL0 (p := 1) rfl jM151 jq151_0 ?_
  refine jw_getP (p := 4) (i := 1) (q := 93) rfl jM151 jq151_1 rfl (jo_92 s23.1) je_11_1 (jp_92_1 s23.1) ?_
  refine jw_bipush (p := 6) rfl jM151 jq151_4 (by decide) ?_
  refine jiL1 (p := 7) rfl jM151 jq151_6 ?_
  refine jw_imul (p := 8) rfl jM151 jq151_7 ?_
  refine jw_iconst (p := 9) rfl jM151 jq151_8 ?_
  refine jw_iadd (p := 10) rfl jM151 jq151_9 ?_
  refine jw_iconst (p := 11) rfl jM151 jq151_10 ?_
  refine jiL2 (p := 12) rfl jM151 jq151_11 ?_
  refine jw_imul (p := 13) rfl jM151 jq151_12 ?_
  refine jw_iadd (p := 14) rfl jM151 jq151_13 ?_
  obtain ⟨c25, h25⟩ := jo_i h24
  refine jg_iald (p := 15) rfl jM151 jq151_14 (ja_93 s23.1) c25.1 c25.2 s23 (by decide) rfl ?_
  refine jw_iret jM151 jq151_15 (fun z => absurd z (by decide)) ?_
  show jb_w (d + 7) 178 85 [some (.ref 92), some (jb_v (x1.2)), some (jb_v (x4.2)), some (jb_v (x6.2)), some (jb_v x9), some (jb_v ((x6.1) 93 ((67 * x9) + 2))), some (jb_v ((((x6.1) 93 ((67 * x9) + 2)) + 1) / 2)), none, none] [(jb_v ((x23.1) 93 (((67 * x9) + 3) + (2 * ((((x6.1) 93 ((67 * x9) + 2)) + 1) / 2)))))] σ23 Q
  refine jiS7 (p := 87) rfl jM178 jq178_85 ?_
  refine jaL0 (p := 88) rfl jM178 jq178_87 ?_
  refine jiL4 (p := 90) rfl jM178 jq178_88 ?_
  refine jw_callV [(jb_v x9)] jM178 jq178_90 rfl rfl (jo_92 s23.1) rfl jM149 rfl rfl ?_
  show jb_w (d + 6) 149 0 [some (.ref 92), some (jb_v x9)] [] σ23 (jb_k (d + 7) 178 90 [some (.ref 92), some (jb_v (x1.2)), some (jb_v (x4.2)), some (jb_v (x6.2)), some (jb_v x9), some (jb_v ((x6.1) 93 ((67 * x9) + 2))), some (jb_v ((((x6.1) 93 ((67 * x9) + 2)) + 1) / 2)), some (jb_v ((x23.1) 93 (((67 * x9) + 3) + (2 * ((((x6.1) 93 ((67 * x9) + 2)) + 1) / 2))))), none] [] Q)
  refine jaL0 (p := 1) rfl jM149 jq149_0 ?_
  refine jw_getP (p := 4) (i := 1) (q := 93) rfl jM149 jq149_1 rfl (jo_92 s23.1) je_11_1 (jp_92_1 s23.1) ?_
  refine jw_bipush (p := 6) rfl jM149 jq149_4 (by decide) ?_
  refine jiL1 (p := 7) rfl jM149 jq149_6 ?_
  refine jw_imul (p := 8) rfl jM149 jq149_7 ?_
  obtain ⟨c26, h26⟩ := jo_i h25
  refine jg_iald (p := 9) rfl jM149 jq149_8 (ja_93 s23.1) c26.1 c26.2 s23 (by decide) rfl ?_
  refine jw_iret jM149 jq149_9 (fun z => absurd z (by decide)) ?_
  show jb_w (d + 7) 178 93 [some (.ref 92), some (jb_v (x1.2)), some (jb_v (x4.2)), some (jb_v (x6.2)), some (jb_v x9), some (jb_v ((x6.1) 93 ((67 * x9) + 2))), some (jb_v ((((x6.1) 93 ((67 * x9) + 2)) + 1) / 2)), some (jb_v ((x23.1) 93 (((67 * x9) + 3) + (2 * ((((x6.1) 93 ((67 * x9) + 2)) + 1) / 2))))), none] [(jb_v ((x23.1) 93 (67 * x9)))] σ23 Q
  refine jw_iconst (p := 94) rfl jM178 jq178_93 ?_
  refine jw_ic (p := 97) rfl jM178 jq178_94 (jc_ne (s23.r _ _) (jb_rn rfl)) (fun c27 => ?_) (fun c27 => ?_)
  · have h27 := jo_n c27 h26
    refine jaL0 (p := 118) rfl jM178 jq178_117 ?_
    refine jiL3 (p := 119) rfl jM178 jq178_118 ?_
    refine jw_iconst (p := 120) rfl jM178 jq178_119 ?_
    refine jw_callV [(jb_v (x6.2)), (jb_v 0)] jM178 jq178_120 rfl rfl (jo_92 s23.1) rfl jM172 rfl rfl ?_
    obtain ⟨c28, h28⟩ := jo_i h27
    obtain ⟨x29, e30, h30⟩ := jo_lb h28
    refine cs172 c14 c28 (jb_rn rfl) (fun σ29 s29 r29 => ?_) σ23 s23
    rw [e30] at r29 ⊢
    show jb_w (d + 7) 178 123 [some (.ref 92), some (jb_v (x1.2)), some (jb_v (x4.2)), some (jb_v (x6.2)), some (jb_v x9), some (jb_v ((x6.1) 93 ((67 * x9) + 2))), some (jb_v ((((x6.1) 93 ((67 * x9) + 2)) + 1) / 2)), some (jb_v ((x23.1) 93 (((67 * x9) + 3) + (2 * ((((x6.1) 93 ((67 * x9) + 2)) + 1) / 2))))), none] [(jb_v x29)] σ29 Q
    refine jiS8 (p := 125) rfl jM178 jq178_123 ?_
    refine jaL0 (p := 126) rfl jM178 jq178_125 ?_
    refine jiL8 (p := 128) rfl jM178 jq178_126 ?_
    refine jw_iconst (p := 129) rfl jM178 jq178_128 ?_
    refine jw_callV [(jb_v x29), (jb_v 2)] jM178 jq178_129 rfl rfl (jo_92 s29.1) rfl jM154 rfl rfl ?_
    obtain ⟨c31, h31⟩ := jo_i h30
    refine cs154 c31 (jb_rn rfl) (fun σ32 s32 => ?_) σ29 s29
    show jb_w (d + 7) 178 132 [some (.ref 92), some (jb_v (x1.2)), some (jb_v (x4.2)), some (jb_v (x6.2)), some (jb_v x9), some (jb_v ((x6.1) 93 ((67 * x9) + 2))), some (jb_v ((((x6.1) 93 ((67 * x9) + 2)) + 1) / 2)), some (jb_v ((x23.1) 93 (((67 * x9) + 3) + (2 * ((((x6.1) 93 ((67 * x9) + 2)) + 1) / 2))))), some (jb_v x29)] [] σ32 Q
    refine jaL0 (p := 133) rfl jM178 jq178_132 ?_
    refine jiL8 (p := 135) rfl jM178 jq178_133 ?_
    refine jw_iconst (p := 136) rfl jM178 jq178_135 ?_
    refine jw_iconst (p := 137) rfl jM178 jq178_136 ?_
    refine jiL1 (p := 138) rfl jM178 jq178_137 ?_
    refine jw_callV [(jb_v x29), (jb_v 0), (jb_v 0), (jb_v (x1.2))] jM178 jq178_138 rfl rfl (jo_92 s32.1) rfl jM153 rfl rfl ?_
    show jb_w (d + 6) 153 0 [some (.ref 92), some (jb_v x29), some (jb_v 0), some (jb_v 0), some (jb_v (x1.2))] [] σ32 (jb_k (d + 7) 178 138 [some (.ref 92), some (jb_v (x1.2)), some (jb_v (x4.2)), some (jb_v (x6.2)), some (jb_v x9), some (jb_v ((x6.1) 93 ((67 * x9) + 2))), some (jb_v ((((x6.1) 93 ((67 * x9) + 2)) + 1) / 2)), some (jb_v ((x23.1) 93 (((67 * x9) + 3) + (2 * ((((x6.1) 93 ((67 * x9) + 2)) + 1) / 2))))), some (jb_v x29)] [] Q)
    refine jaL0 (p := 1) rfl jM153 jq153_0 ?_
    refine jw_getP (p := 4) (i := 1) (q := 93) rfl jM153 jq153_1 rfl (jo_92 s32.1) je_11_1 (jp_92_1 s32.1) ?_
    refine jw_bipush (p := 6) rfl jM153 jq153_4 (by decide) ?_
    refine jiL1 (p := 7) rfl jM153 jq153_6 ?_
    refine jw_imul (p := 8) rfl jM153 jq153_7 ?_
    refine jw_iconst (p := 9) rfl jM153 jq153_8 ?_
    refine jw_iadd (p := 10) rfl jM153 jq153_9 ?_
    refine jw_iconst (p := 11) rfl jM153 jq153_10 ?_
    refine jiL2 (p := 12) rfl jM153 jq153_11 ?_
    refine jw_imul (p := 13) rfl jM153 jq153_12 ?_
    refine jw_iadd (p := 14) rfl jM153 jq153_13 ?_
    refine jiL3 (p := 15) rfl jM153 jq153_14 ?_
    obtain ⟨c33, h33⟩ := jo_i h31
    refine jg_iast (p := 16) rfl jM153 jq153_15 (ja_93 s32.1) c33.1 c33.2 s32 (by decide) (jb_rn rfl) ?_
    intro σ34 s34
    refine jaL0 (p := 17) rfl jM153 jq153_16 ?_
    refine jw_getP (p := 20) (i := 1) (q := 93) rfl jM153 jq153_17 rfl (jo_92 s34.1) je_11_1 (jp_92_1 s34.1) ?_
    refine jw_bipush (p := 22) rfl jM153 jq153_20 (by decide) ?_
    refine jiL1 (p := 23) rfl jM153 jq153_22 ?_
    refine jw_imul (p := 24) rfl jM153 jq153_23 ?_
    refine jw_iconst (p := 25) rfl jM153 jq153_24 ?_
    refine jw_iadd (p := 26) rfl jM153 jq153_25 ?_
    refine jw_iconst (p := 27) rfl jM153 jq153_26 ?_
    refine jiL2 (p := 28) rfl jM153 jq153_27 ?_
    refine jw_imul (p := 29) rfl jM153 jq153_28 ?_
    refine jw_iadd (p := 30) rfl jM153 jq153_29 ?_
    refine jiL4 (p := 32) rfl jM153 jq153_30 ?_
    obtain ⟨c35, h35⟩ := jo_i h33
    refine jg_iast (p := 33) rfl jM153 jq153_32 (ja_93 s34.1) c35.1 c35.2 s34 (by decide) r1 ?_
    intro σ36 s36
    refine jw_vret jM153 jq153_33 ?_
    show jb_w (d + 7) 178 141 [some (.ref 92), some (jb_v (x1.2)), some (jb_v (x4.2)), some (jb_v (x6.2)), some (jb_v x9), some (jb_v ((x6.1) 93 ((67 * x9) + 2))), some (jb_v ((((x6.1) 93 ((67 * x9) + 2)) + 1) / 2)), some (jb_v ((x23.1) 93 (((67 * x9) + 3) + (2 * ((((x6.1) 93 ((67 * x9) + 2)) + 1) / 2))))), some (jb_v x29)] [] σ36 Q
    refine jaL0 (p := 142) rfl jM178 jq178_141 ?_
    refine jiL8 (p := 144) rfl jM178 jq178_142 ?_
    refine jw_iconst (p := 145) rfl jM178 jq178_144 ?_
    refine jiL7 (p := 147) rfl jM178 jq178_145 ?_
    refine jiL2 (p := 148) rfl jM178 jq178_147 ?_
    refine jw_callV [(jb_v x29), (jb_v 1), (jb_v ((x23.1) 93 (((67 * x9) + 3) + (2 * ((((x6.1) 93 ((67 * x9) + 2)) + 1) / 2))))), (jb_v (x4.2))] jM178 jq178_148 rfl rfl (jo_92 s36.1) rfl jM153 rfl rfl ?_
    show jb_w (d + 6) 153 0 [some (.ref 92), some (jb_v x29), some (jb_v 1), some (jb_v ((x23.1) 93 (((67 * x9) + 3) + (2 * ((((x6.1) 93 ((67 * x9) + 2)) + 1) / 2))))), some (jb_v (x4.2))] [] σ36 (jb_k (d + 7) 178 148 [some (.ref 92), some (jb_v (x1.2)), some (jb_v (x4.2)), some (jb_v (x6.2)), some (jb_v x9), some (jb_v ((x6.1) 93 ((67 * x9) + 2))), some (jb_v ((((x6.1) 93 ((67 * x9) + 2)) + 1) / 2)), some (jb_v ((x23.1) 93 (((67 * x9) + 3) + (2 * ((((x6.1) 93 ((67 * x9) + 2)) + 1) / 2))))), some (jb_v x29)] [] Q)
    refine jaL0 (p := 1) rfl jM153 jq153_0 ?_
    refine jw_getP (p := 4) (i := 1) (q := 93) rfl jM153 jq153_1 rfl (jo_92 s36.1) je_11_1 (jp_92_1 s36.1) ?_
    refine jw_bipush (p := 6) rfl jM153 jq153_4 (by decide) ?_
    refine jiL1 (p := 7) rfl jM153 jq153_6 ?_
    refine jw_imul (p := 8) rfl jM153 jq153_7 ?_
    refine jw_iconst (p := 9) rfl jM153 jq153_8 ?_
    refine jw_iadd (p := 10) rfl jM153 jq153_9 ?_
    refine jw_iconst (p := 11) rfl jM153 jq153_10 ?_
    refine jiL2 (p := 12) rfl jM153 jq153_11 ?_
    refine jw_imul (p := 13) rfl jM153 jq153_12 ?_
    refine jw_iadd (p := 14) rfl jM153 jq153_13 ?_
    refine jiL3 (p := 15) rfl jM153 jq153_14 ?_
    obtain ⟨c37, h37⟩ := jo_i h35
    refine jg_iast (p := 16) rfl jM153 jq153_15 (ja_93 s36.1) c37.1 c37.2 s36 (by decide) (s23.r _ _) ?_
    intro σ38 s38
    refine jaL0 (p := 17) rfl jM153 jq153_16 ?_
    refine jw_getP (p := 20) (i := 1) (q := 93) rfl jM153 jq153_17 rfl (jo_92 s38.1) je_11_1 (jp_92_1 s38.1) ?_
    refine jw_bipush (p := 22) rfl jM153 jq153_20 (by decide) ?_
    refine jiL1 (p := 23) rfl jM153 jq153_22 ?_
    refine jw_imul (p := 24) rfl jM153 jq153_23 ?_
    refine jw_iconst (p := 25) rfl jM153 jq153_24 ?_
    refine jw_iadd (p := 26) rfl jM153 jq153_25 ?_
    refine jw_iconst (p := 27) rfl jM153 jq153_26 ?_
    refine jiL2 (p := 28) rfl jM153 jq153_27 ?_
    refine jw_imul (p := 29) rfl jM153 jq153_28 ?_
    refine jw_iadd (p := 30) rfl jM153 jq153_29 ?_
    refine jiL4 (p := 32) rfl jM153 jq153_30 ?_
    obtain ⟨c39, h39⟩ := jo_i h37
    refine jg_iast (p := 33) rfl jM153 jq153_32 (ja_93 s38.1) c39.1 c39.2 s38 (by decide) r4 ?_
    intro σ40 s40
    refine jw_vret jM153 jq153_33 ?_
    show jb_w (d + 7) 178 151 [some (.ref 92), some (jb_v (x1.2)), some (jb_v (x4.2)), some (jb_v (x6.2)), some (jb_v x9), some (jb_v ((x6.1) 93 ((67 * x9) + 2))), some (jb_v ((((x6.1) 93 ((67 * x9) + 2)) + 1) / 2)), some (jb_v ((x23.1) 93 (((67 * x9) + 3) + (2 * ((((x6.1) 93 ((67 * x9) + 2)) + 1) / 2))))), some (jb_v x29)] [] σ40 Q
    refine jaL0 (p := 152) rfl jM178 jq178_151 ?_
    refine jw_getP (p := 155) (i := 1) (q := 93) rfl jM178 jq178_152 rfl (jo_92 s40.1) je_11_1 (jp_92_1 s40.1) ?_
    refine jw_bipush (p := 157) rfl jM178 jq178_155 (by decide) ?_
    refine jiL8 (p := 159) rfl jM178 jq178_157 ?_
    refine jw_imul (p := 160) rfl jM178 jq178_159 ?_
    refine jw_iconst (p := 161) rfl jM178 jq178_160 ?_
    refine jw_iadd (p := 162) rfl jM178 jq178_161 ?_
    refine jw_iconst (p := 163) rfl jM178 jq178_162 ?_
    obtain ⟨c41, h41⟩ := jo_i h39
    refine jg_iast (p := 164) rfl jM178 jq178_163 (ja_93 s40.1) c41.1 c41.2 s40 (by decide) (jb_rn rfl) ?_
    intro σ42 s42
    refine jaL0 (p := 165) rfl jM178 jq178_164 ?_
    refine jiL3 (p := 166) rfl jM178 jq178_165 ?_
    refine jw_callV [(jb_v (x6.2))] jM178 jq178_166 rfl rfl (jo_92 s42.1) rfl jM174 rfl rfl ?_
    obtain ⟨x43, b44, h44⟩ := jo_b h41
    refine jf174 r6 b44 (fun σ43 s43 => ?_) σ42 s42
    show jb_w (d + 7) 178 169 [some (.ref 92), some (jb_v (x1.2)), some (jb_v (x4.2)), some (jb_v (x6.2)), some (jb_v x9), some (jb_v ((x6.1) 93 ((67 * x9) + 2))), some (jb_v ((((x6.1) 93 ((67 * x9) + 2)) + 1) / 2)), some (jb_v ((x23.1) 93 (((67 * x9) + 3) + (2 * ((((x6.1) 93 ((67 * x9) + 2)) + 1) / 2))))), some (jb_v x29)] [] σ43 Q
    cases h44
    exact jw_vret jM178 jq178_169 (k σ43 s43)
  · have h27 := jo_p (Decidable.byContradiction c27) h26
    refine jaL0 (p := 98) rfl jM178 jq178_97 ?_
    refine jaL0 (p := 99) rfl jM178 jq178_98 ?_
    refine jiL3 (p := 100) rfl jM178 jq178_99 ?_
    refine jiL2 (p := 101) rfl jM178 jq178_100 ?_
    refine jw_callV [(jb_v (x6.2)), (jb_v (x4.2))] jM178 jq178_101 rfl rfl (jo_92 s23.1) rfl jM172 rfl rfl ?_
    obtain ⟨c45, h45⟩ := jo_i h27
    obtain ⟨x46, e47, h47⟩ := jo_lb h45
    refine cs172 c14 c45 r4 (fun σ46 s46 r46 => ?_) σ23 s23
    rw [e47] at r46 ⊢
    show jb_w (d + 7) 178 104 [some (.ref 92), some (jb_v (x1.2)), some (jb_v (x4.2)), some (jb_v (x6.2)), some (jb_v x9), some (jb_v ((x6.1) 93 ((67 * x9) + 2))), some (jb_v ((((x6.1) 93 ((67 * x9) + 2)) + 1) / 2)), some (jb_v ((x23.1) 93 (((67 * x9) + 3) + (2 * ((((x6.1) 93 ((67 * x9) + 2)) + 1) / 2))))), none] [(jb_v x46), (.ref 92)] σ46 Q
    refine jw_iconst (p := 105) rfl jM178 jq178_104 ?_
    refine jw_iconst (p := 106) rfl jM178 jq178_105 ?_
    refine jaL0 (p := 107) rfl jM178 jq178_106 ?_
    refine jiL4 (p := 109) rfl jM178 jq178_107 ?_
    refine jiL6 (p := 111) rfl jM178 jq178_109 ?_
    refine jw_callV [(jb_v x9), (jb_v ((((x6.1) 93 ((67 * x9) + 2)) + 1) / 2))] jM178 jq178_111 rfl rfl (jo_92 s46.1) rfl jM152 rfl rfl ?_
    show jb_w (d + 6) 152 0 [some (.ref 92), some (jb_v x9), some (jb_v ((((x6.1) 93 ((67 * x9) + 2)) + 1) / 2))] [] σ46 (jb_k (d + 7) 178 111 [some (.ref 92), some (jb_v (x1.2)), some (jb_v (x4.2)), some (jb_v (x6.2)), some (jb_v x9), some (jb_v ((x6.1) 93 ((67 * x9) + 2))), some (jb_v ((((x6.1) 93 ((67 * x9) + 2)) + 1) / 2)), some (jb_v ((x23.1) 93 (((67 * x9) + 3) + (2 * ((((x6.1) 93 ((67 * x9) + 2)) + 1) / 2))))), none] [(jb_v 0), (jb_v 0), (jb_v x46), (.ref 92)] Q)
    refine jaL0 (p := 1) rfl jM152 jq152_0 ?_
    refine jw_getP (p := 4) (i := 1) (q := 93) rfl jM152 jq152_1 rfl (jo_92 s46.1) je_11_1 (jp_92_1 s46.1) ?_
    refine jw_bipush (p := 6) rfl jM152 jq152_4 (by decide) ?_
    refine jiL1 (p := 7) rfl jM152 jq152_6 ?_
    refine jw_imul (p := 8) rfl jM152 jq152_7 ?_
    refine jw_iconst (p := 9) rfl jM152 jq152_8 ?_
    refine jw_iadd (p := 10) rfl jM152 jq152_9 ?_
    refine jw_iconst (p := 11) rfl jM152 jq152_10 ?_
    refine jiL2 (p := 12) rfl jM152 jq152_11 ?_
    refine jw_imul (p := 13) rfl jM152 jq152_12 ?_
    refine jw_iadd (p := 14) rfl jM152 jq152_13 ?_
    obtain ⟨c48, h48⟩ := jo_i h47
    refine jg_iald (p := 15) rfl jM152 jq152_14 (ja_93 s46.1) c48.1 c48.2 s46 (by decide) rfl ?_
    refine jw_iret jM152 jq152_15 (fun z => absurd z (by decide)) ?_
    show jb_w (d + 7) 178 114 [some (.ref 92), some (jb_v (x1.2)), some (jb_v (x4.2)), some (jb_v (x6.2)), some (jb_v x9), some (jb_v ((x6.1) 93 ((67 * x9) + 2))), some (jb_v ((((x6.1) 93 ((67 * x9) + 2)) + 1) / 2)), some (jb_v ((x23.1) 93 (((67 * x9) + 3) + (2 * ((((x6.1) 93 ((67 * x9) + 2)) + 1) / 2))))), none] [(jb_v ((x23.1) 93 (((67 * x9) + 4) + (2 * ((((x6.1) 93 ((67 * x9) + 2)) + 1) / 2))))), (jb_v 0), (jb_v 0), (jb_v x46), (.ref 92)] σ46 Q
    refine jw_callV [(jb_v x46), (jb_v 0), (jb_v 0), (jb_v ((x23.1) 93 (((67 * x9) + 4) + (2 * ((((x6.1) 93 ((67 * x9) + 2)) + 1) / 2)))))] jM178 jq178_114 rfl rfl (jo_92 s46.1) rfl jM153 rfl rfl ?_
    show jb_w (d + 6) 153 0 [some (.ref 92), some (jb_v x46), some (jb_v 0), some (jb_v 0), some (jb_v ((x23.1) 93 (((67 * x9) + 4) + (2 * ((((x6.1) 93 ((67 * x9) + 2)) + 1) / 2)))))] [] σ46 (jb_k (d + 7) 178 114 [some (.ref 92), some (jb_v (x1.2)), some (jb_v (x4.2)), some (jb_v (x6.2)), some (jb_v x9), some (jb_v ((x6.1) 93 ((67 * x9) + 2))), some (jb_v ((((x6.1) 93 ((67 * x9) + 2)) + 1) / 2)), some (jb_v ((x23.1) 93 (((67 * x9) + 3) + (2 * ((((x6.1) 93 ((67 * x9) + 2)) + 1) / 2))))), none] [] Q)
    refine jaL0 (p := 1) rfl jM153 jq153_0 ?_
    refine jw_getP (p := 4) (i := 1) (q := 93) rfl jM153 jq153_1 rfl (jo_92 s46.1) je_11_1 (jp_92_1 s46.1) ?_
    refine jw_bipush (p := 6) rfl jM153 jq153_4 (by decide) ?_
    refine jiL1 (p := 7) rfl jM153 jq153_6 ?_
    refine jw_imul (p := 8) rfl jM153 jq153_7 ?_
    refine jw_iconst (p := 9) rfl jM153 jq153_8 ?_
    refine jw_iadd (p := 10) rfl jM153 jq153_9 ?_
    refine jw_iconst (p := 11) rfl jM153 jq153_10 ?_
    refine jiL2 (p := 12) rfl jM153 jq153_11 ?_
    refine jw_imul (p := 13) rfl jM153 jq153_12 ?_
    refine jw_iadd (p := 14) rfl jM153 jq153_13 ?_
    refine jiL3 (p := 15) rfl jM153 jq153_14 ?_
    obtain ⟨c49, h49⟩ := jo_i h48
    refine jg_iast (p := 16) rfl jM153 jq153_15 (ja_93 s46.1) c49.1 c49.2 s46 (by decide) (jb_rn rfl) ?_
    intro σ50 s50
    refine jaL0 (p := 17) rfl jM153 jq153_16 ?_
    refine jw_getP (p := 20) (i := 1) (q := 93) rfl jM153 jq153_17 rfl (jo_92 s50.1) je_11_1 (jp_92_1 s50.1) ?_
    refine jw_bipush (p := 22) rfl jM153 jq153_20 (by decide) ?_
    refine jiL1 (p := 23) rfl jM153 jq153_22 ?_
    refine jw_imul (p := 24) rfl jM153 jq153_23 ?_
    refine jw_iconst (p := 25) rfl jM153 jq153_24 ?_
    refine jw_iadd (p := 26) rfl jM153 jq153_25 ?_
    refine jw_iconst (p := 27) rfl jM153 jq153_26 ?_
    refine jiL2 (p := 28) rfl jM153 jq153_27 ?_
    refine jw_imul (p := 29) rfl jM153 jq153_28 ?_
    refine jw_iadd (p := 30) rfl jM153 jq153_29 ?_
    refine jiL4 (p := 32) rfl jM153 jq153_30 ?_
    obtain ⟨c51, h51⟩ := jo_i h49
    refine jg_iast (p := 33) rfl jM153 jq153_32 (ja_93 s50.1) c51.1 c51.2 s50 (by decide) (s23.r _ _) ?_
    intro σ52 s52
    refine jw_vret jM153 jq153_33 ?_
    show jb_w (d + 7) 178 117 [some (.ref 92), some (jb_v (x1.2)), some (jb_v (x4.2)), some (jb_v (x6.2)), some (jb_v x9), some (jb_v ((x6.1) 93 ((67 * x9) + 2))), some (jb_v ((((x6.1) 93 ((67 * x9) + 2)) + 1) / 2)), some (jb_v ((x23.1) 93 (((67 * x9) + 3) + (2 * ((((x6.1) 93 ((67 * x9) + 2)) + 1) / 2))))), none] [] σ52 Q
    refine jaL0 (p := 118) rfl jM178 jq178_117 ?_
    refine jiL3 (p := 119) rfl jM178 jq178_118 ?_
    refine jw_iconst (p := 120) rfl jM178 jq178_119 ?_
    refine jw_callV [(jb_v (x6.2)), (jb_v 0)] jM178 jq178_120 rfl rfl (jo_92 s52.1) rfl jM172 rfl rfl ?_
    obtain ⟨c53, h53⟩ := jo_i h51
    obtain ⟨x54, e55, h55⟩ := jo_lb h53
    refine cs172 c14 c53 (jb_rn rfl) (fun σ54 s54 r54 => ?_) σ52 s52
    rw [e55] at r54 ⊢
    show jb_w (d + 7) 178 123 [some (.ref 92), some (jb_v (x1.2)), some (jb_v (x4.2)), some (jb_v (x6.2)), some (jb_v x9), some (jb_v ((x6.1) 93 ((67 * x9) + 2))), some (jb_v ((((x6.1) 93 ((67 * x9) + 2)) + 1) / 2)), some (jb_v ((x23.1) 93 (((67 * x9) + 3) + (2 * ((((x6.1) 93 ((67 * x9) + 2)) + 1) / 2))))), none] [(jb_v x54)] σ54 Q
    refine jiS8 (p := 125) rfl jM178 jq178_123 ?_
    refine jaL0 (p := 126) rfl jM178 jq178_125 ?_
    refine jiL8 (p := 128) rfl jM178 jq178_126 ?_
    refine jw_iconst (p := 129) rfl jM178 jq178_128 ?_
    refine jw_callV [(jb_v x54), (jb_v 2)] jM178 jq178_129 rfl rfl (jo_92 s54.1) rfl jM154 rfl rfl ?_
    obtain ⟨c56, h56⟩ := jo_i h55
    refine cs154 c56 (jb_rn rfl) (fun σ57 s57 => ?_) σ54 s54
    show jb_w (d + 7) 178 132 [some (.ref 92), some (jb_v (x1.2)), some (jb_v (x4.2)), some (jb_v (x6.2)), some (jb_v x9), some (jb_v ((x6.1) 93 ((67 * x9) + 2))), some (jb_v ((((x6.1) 93 ((67 * x9) + 2)) + 1) / 2)), some (jb_v ((x23.1) 93 (((67 * x9) + 3) + (2 * ((((x6.1) 93 ((67 * x9) + 2)) + 1) / 2))))), some (jb_v x54)] [] σ57 Q
    refine jaL0 (p := 133) rfl jM178 jq178_132 ?_
    refine jiL8 (p := 135) rfl jM178 jq178_133 ?_
    refine jw_iconst (p := 136) rfl jM178 jq178_135 ?_
    refine jw_iconst (p := 137) rfl jM178 jq178_136 ?_
    refine jiL1 (p := 138) rfl jM178 jq178_137 ?_
    refine jw_callV [(jb_v x54), (jb_v 0), (jb_v 0), (jb_v (x1.2))] jM178 jq178_138 rfl rfl (jo_92 s57.1) rfl jM153 rfl rfl ?_
    show jb_w (d + 6) 153 0 [some (.ref 92), some (jb_v x54), some (jb_v 0), some (jb_v 0), some (jb_v (x1.2))] [] σ57 (jb_k (d + 7) 178 138 [some (.ref 92), some (jb_v (x1.2)), some (jb_v (x4.2)), some (jb_v (x6.2)), some (jb_v x9), some (jb_v ((x6.1) 93 ((67 * x9) + 2))), some (jb_v ((((x6.1) 93 ((67 * x9) + 2)) + 1) / 2)), some (jb_v ((x23.1) 93 (((67 * x9) + 3) + (2 * ((((x6.1) 93 ((67 * x9) + 2)) + 1) / 2))))), some (jb_v x54)] [] Q)
    refine jaL0 (p := 1) rfl jM153 jq153_0 ?_
    refine jw_getP (p := 4) (i := 1) (q := 93) rfl jM153 jq153_1 rfl (jo_92 s57.1) je_11_1 (jp_92_1 s57.1) ?_
    refine jw_bipush (p := 6) rfl jM153 jq153_4 (by decide) ?_
    refine jiL1 (p := 7) rfl jM153 jq153_6 ?_
    refine jw_imul (p := 8) rfl jM153 jq153_7 ?_
    refine jw_iconst (p := 9) rfl jM153 jq153_8 ?_
    refine jw_iadd (p := 10) rfl jM153 jq153_9 ?_
    refine jw_iconst (p := 11) rfl jM153 jq153_10 ?_
    refine jiL2 (p := 12) rfl jM153 jq153_11 ?_
    refine jw_imul (p := 13) rfl jM153 jq153_12 ?_
    refine jw_iadd (p := 14) rfl jM153 jq153_13 ?_
    refine jiL3 (p := 15) rfl jM153 jq153_14 ?_
    obtain ⟨c58, h58⟩ := jo_i h56
    refine jg_iast (p := 16) rfl jM153 jq153_15 (ja_93 s57.1) c58.1 c58.2 s57 (by decide) (jb_rn rfl) ?_
    intro σ59 s59
    refine jaL0 (p := 17) rfl jM153 jq153_16 ?_
    refine jw_getP (p := 20) (i := 1) (q := 93) rfl jM153 jq153_17 rfl (jo_92 s59.1) je_11_1 (jp_92_1 s59.1) ?_
    refine jw_bipush (p := 22) rfl jM153 jq153_20 (by decide) ?_
    refine jiL1 (p := 23) rfl jM153 jq153_22 ?_
    refine jw_imul (p := 24) rfl jM153 jq153_23 ?_
    refine jw_iconst (p := 25) rfl jM153 jq153_24 ?_
    refine jw_iadd (p := 26) rfl jM153 jq153_25 ?_
    refine jw_iconst (p := 27) rfl jM153 jq153_26 ?_
    refine jiL2 (p := 28) rfl jM153 jq153_27 ?_
    refine jw_imul (p := 29) rfl jM153 jq153_28 ?_
    refine jw_iadd (p := 30) rfl jM153 jq153_29 ?_
    refine jiL4 (p := 32) rfl jM153 jq153_30 ?_
    obtain ⟨c60, h60⟩ := jo_i h58
    refine jg_iast (p := 33) rfl jM153 jq153_32 (ja_93 s59.1) c60.1 c60.2 s59 (by decide) r1 ?_
    intro σ61 s61
    refine jw_vret jM153 jq153_33 ?_
    show jb_w (d + 7) 178 141 [some (.ref 92), some (jb_v (x1.2)), some (jb_v (x4.2)), some (jb_v (x6.2)), some (jb_v x9), some (jb_v ((x6.1) 93 ((67 * x9) + 2))), some (jb_v ((((x6.1) 93 ((67 * x9) + 2)) + 1) / 2)), some (jb_v ((x23.1) 93 (((67 * x9) + 3) + (2 * ((((x6.1) 93 ((67 * x9) + 2)) + 1) / 2))))), some (jb_v x54)] [] σ61 Q
    refine jaL0 (p := 142) rfl jM178 jq178_141 ?_
    refine jiL8 (p := 144) rfl jM178 jq178_142 ?_
    refine jw_iconst (p := 145) rfl jM178 jq178_144 ?_
    refine jiL7 (p := 147) rfl jM178 jq178_145 ?_
    refine jiL2 (p := 148) rfl jM178 jq178_147 ?_
    refine jw_callV [(jb_v x54), (jb_v 1), (jb_v ((x23.1) 93 (((67 * x9) + 3) + (2 * ((((x6.1) 93 ((67 * x9) + 2)) + 1) / 2))))), (jb_v (x4.2))] jM178 jq178_148 rfl rfl (jo_92 s61.1) rfl jM153 rfl rfl ?_
    show jb_w (d + 6) 153 0 [some (.ref 92), some (jb_v x54), some (jb_v 1), some (jb_v ((x23.1) 93 (((67 * x9) + 3) + (2 * ((((x6.1) 93 ((67 * x9) + 2)) + 1) / 2))))), some (jb_v (x4.2))] [] σ61 (jb_k (d + 7) 178 148 [some (.ref 92), some (jb_v (x1.2)), some (jb_v (x4.2)), some (jb_v (x6.2)), some (jb_v x9), some (jb_v ((x6.1) 93 ((67 * x9) + 2))), some (jb_v ((((x6.1) 93 ((67 * x9) + 2)) + 1) / 2)), some (jb_v ((x23.1) 93 (((67 * x9) + 3) + (2 * ((((x6.1) 93 ((67 * x9) + 2)) + 1) / 2))))), some (jb_v x54)] [] Q)
    refine jaL0 (p := 1) rfl jM153 jq153_0 ?_
    refine jw_getP (p := 4) (i := 1) (q := 93) rfl jM153 jq153_1 rfl (jo_92 s61.1) je_11_1 (jp_92_1 s61.1) ?_
    refine jw_bipush (p := 6) rfl jM153 jq153_4 (by decide) ?_
    refine jiL1 (p := 7) rfl jM153 jq153_6 ?_
    refine jw_imul (p := 8) rfl jM153 jq153_7 ?_
    refine jw_iconst (p := 9) rfl jM153 jq153_8 ?_
    refine jw_iadd (p := 10) rfl jM153 jq153_9 ?_
    refine jw_iconst (p := 11) rfl jM153 jq153_10 ?_
    refine jiL2 (p := 12) rfl jM153 jq153_11 ?_
    refine jw_imul (p := 13) rfl jM153 jq153_12 ?_
    refine jw_iadd (p := 14) rfl jM153 jq153_13 ?_
    refine jiL3 (p := 15) rfl jM153 jq153_14 ?_
    obtain ⟨c62, h62⟩ := jo_i h60
    refine jg_iast (p := 16) rfl jM153 jq153_15 (ja_93 s61.1) c62.1 c62.2 s61 (by decide) (s23.r _ _) ?_
    intro σ63 s63
    refine jaL0 (p := 17) rfl jM153 jq153_16 ?_
    refine jw_getP (p := 20) (i := 1) (q := 93) rfl jM153 jq153_17 rfl (jo_92 s63.1) je_11_1 (jp_92_1 s63.1) ?_
    refine jw_bipush (p := 22) rfl jM153 jq153_20 (by decide) ?_
    refine jiL1 (p := 23) rfl jM153 jq153_22 ?_
    refine jw_imul (p := 24) rfl jM153 jq153_23 ?_
    refine jw_iconst (p := 25) rfl jM153 jq153_24 ?_
    refine jw_iadd (p := 26) rfl jM153 jq153_25 ?_
    refine jw_iconst (p := 27) rfl jM153 jq153_26 ?_
    refine jiL2 (p := 28) rfl jM153 jq153_27 ?_
    refine jw_imul (p := 29) rfl jM153 jq153_28 ?_
    refine jw_iadd (p := 30) rfl jM153 jq153_29 ?_
    refine jiL4 (p := 32) rfl jM153 jq153_30 ?_
    obtain ⟨c64, h64⟩ := jo_i h62
    refine jg_iast (p := 33) rfl jM153 jq153_32 (ja_93 s63.1) c64.1 c64.2 s63 (by decide) r4 ?_
    intro σ65 s65
    refine jw_vret jM153 jq153_33 ?_
    show jb_w (d + 7) 178 151 [some (.ref 92), some (jb_v (x1.2)), some (jb_v (x4.2)), some (jb_v (x6.2)), some (jb_v x9), some (jb_v ((x6.1) 93 ((67 * x9) + 2))), some (jb_v ((((x6.1) 93 ((67 * x9) + 2)) + 1) / 2)), some (jb_v ((x23.1) 93 (((67 * x9) + 3) + (2 * ((((x6.1) 93 ((67 * x9) + 2)) + 1) / 2))))), some (jb_v x54)] [] σ65 Q
    refine jaL0 (p := 152) rfl jM178 jq178_151 ?_
    refine jw_getP (p := 155) (i := 1) (q := 93) rfl jM178 jq178_152 rfl (jo_92 s65.1) je_11_1 (jp_92_1 s65.1) ?_
    refine jw_bipush (p := 157) rfl jM178 jq178_155 (by decide) ?_
    refine jiL8 (p := 159) rfl jM178 jq178_157 ?_
    refine jw_imul (p := 160) rfl jM178 jq178_159 ?_
    refine jw_iconst (p := 161) rfl jM178 jq178_160 ?_
    refine jw_iadd (p := 162) rfl jM178 jq178_161 ?_
    refine jw_iconst (p := 163) rfl jM178 jq178_162 ?_
    obtain ⟨c66, h66⟩ := jo_i h64
    refine jg_iast (p := 164) rfl jM178 jq178_163 (ja_93 s65.1) c66.1 c66.2 s65 (by decide) (jb_rn rfl) ?_
    intro σ67 s67
    refine jaL0 (p := 165) rfl jM178 jq178_164 ?_
    refine jiL3 (p := 166) rfl jM178 jq178_165 ?_
    refine jw_callV [(jb_v (x6.2))] jM178 jq178_166 rfl rfl (jo_92 s67.1) rfl jM174 rfl rfl ?_
    obtain ⟨x68, b69, h69⟩ := jo_b h66
    refine jf174 r6 b69 (fun σ68 s68 => ?_) σ67 s67
    show jb_w (d + 7) 178 169 [some (.ref 92), some (jb_v (x1.2)), some (jb_v (x4.2)), some (jb_v (x6.2)), some (jb_v x9), some (jb_v ((x6.1) 93 ((67 * x9) + 2))), some (jb_v ((((x6.1) 93 ((67 * x9) + 2)) + 1) / 2)), some (jb_v ((x23.1) 93 (((67 * x9) + 3) + (2 * ((((x6.1) 93 ((67 * x9) + 2)) + 1) / 2))))), some (jb_v x54)] [] σ68 Q
    cases h69
    exact jw_vret jM178 jq178_169 (k σ68 s68)
-- 180 splits need 7
def fo180 (G : jg_G) (l1 : Int) (l2 : Int) : Option (jg_G × Int) := (fo176 G 0).bind fun x1 => (fo171 (x1.1) 5 l1 (x1.2) l2).bind fun x3 => if 0 ≤ l1 ∧ l1 < 24 then jo_l (fr_ro (x3.1) l1) fun x6 => if 0 ≤ ((67 * x6) + 2) ∧ ((67 * x6) + 2) < 305118 then if -2147483648 ≤ (((x3.1) 93 ((67 * x6) + 2)) + 1) ∧ (((x3.1) 93 ((67 * x6) + 2)) + 1) < 2147483648 then if 0 ≤ (((x3.1) 93 ((67 * x6) + 2)) + 1) then if 1 ≤ (x3.2) ∧ (x3.2) < 1501 then if 0 ≤ (x3.1) 105 (x3.2) ∧ (x3.1) 105 (x3.2) ≤ 3 then jo_l (fr_ri (x3.1) (x3.2) l1) fun x13 => (fo155 (x3.1) x6 x13 0 ((((x3.1) 93 ((67 * x6) + 2)) + 1) / 2)).bind fun x15 => if 0 ≤ (x15.1) 105 (x3.2) ∧ (x15.1) 105 (x3.2) ≤ 3 then jo_l (fr_ri (x15.1) (x3.2) (x1.2)) fun x18 => (fo155 (x15.1) x6 x18 ((((x3.1) 93 ((67 * x6) + 2)) + 1) / 2) ((x3.1) 93 ((67 * x6) + 2))).bind fun x20 => if 0 ≤ (((67 * x6) + 3) + (2 * ((((x3.1) 93 ((67 * x6) + 2)) + 1) / 2))) ∧ (((67 * x6) + 3) + (2 * ((((x3.1) 93 ((67 * x6) + 2)) + 1) / 2))) < 305118 then if 0 ≤ (67 * x6) ∧ (67 * x6) < 305118 then if (x20.1) 93 (67 * x6) = 2 then (if 0 ≤ (x20.1) 105 (x3.2) ∧ (x20.1) 105 (x3.2) ≤ 3 then jo_l (fr_ri (x20.1) (x3.2) (x1.2)) fun x40 => if 0 ≤ (((67 * x6) + 4) + (2 * ((((x3.1) 93 ((67 * x6) + 2)) + 1) / 2))) ∧ (((67 * x6) + 4) + (2 * ((((x3.1) 93 ((67 * x6) + 2)) + 1) / 2))) < 305118 then if 0 ≤ (((67 * x40) + 3) + ((2 : Int) * 0)) ∧ (((67 * x40) + 3) + ((2 : Int) * 0)) < 305118 then if 0 ≤ (((67 * x40) + 4) + ((2 : Int) * 0)) ∧ (((67 * x40) + 4) + ((2 : Int) * 0)) < 305118 then if 0 ≤ (jg_u (jg_u (x20.1) 93 (((67 * x40) + 3) + ((2 : Int) * 0)) 0) 93 (((67 * x40) + 4) + ((2 : Int) * 0)) ((x20.1) 93 (((67 * x6) + 4) + (2 * ((((x3.1) 93 ((67 * x6) + 2)) + 1) / 2))))) 105 (x3.2) ∧ (jg_u (jg_u (x20.1) 93 (((67 * x40) + 3) + ((2 : Int) * 0)) 0) 93 (((67 * x40) + 4) + ((2 : Int) * 0)) ((x20.1) 93 (((67 * x6) + 4) + (2 * ((((x3.1) 93 ((67 * x6) + 2)) + 1) / 2))))) 105 (x3.2) ≤ 3 then jo_l (fr_ri (jg_u (jg_u (x20.1) 93 (((67 * x40) + 3) + ((2 : Int) * 0)) 0) 93 (((67 * x40) + 4) + ((2 : Int) * 0)) ((x20.1) 93 (((67 * x6) + 4) + (2 * ((((x3.1) 93 ((67 * x6) + 2)) + 1) / 2))))) (x3.2) l2) fun x48 => jo_l (fr_ri (jg_u (jg_u (x20.1) 93 (((67 * x40) + 3) + ((2 : Int) * 0)) 0) 93 (((67 * x40) + 4) + ((2 : Int) * 0)) ((x20.1) 93 (((67 * x6) + 4) + (2 * ((((x3.1) 93 ((67 * x6) + 2)) + 1) / 2))))) (x3.2) l2) fun x50 => if 0 ≤ x50 ∧ x50 < 4554 then if 0 ≤ (jg_u (jg_u (x20.1) 93 (((67 * x40) + 3) + ((2 : Int) * 0)) 0) 93 (((67 * x40) + 4) + ((2 : Int) * 0)) ((x20.1) 93 (((67 * x6) + 4) + (2 * ((((x3.1) 93 ((67 * x6) + 2)) + 1) / 2))))) 93 (67 * x50 + 2) ∧ (jg_u (jg_u (x20.1) 93 (((67 * x40) + 3) + ((2 : Int) * 0)) 0) 93 (((67 * x40) + 4) + ((2 : Int) * 0)) ((x20.1) 93 (((67 * x6) + 4) + (2 * ((((x3.1) 93 ((67 * x6) + 2)) + 1) / 2))))) 93 (67 * x50 + 2) ≤ 32 then jo_l (fr_cp (jg_u (jg_u (x20.1) 93 (((67 * x40) + 3) + ((2 : Int) * 0)) 0) 93 (((67 * x40) + 4) + ((2 : Int) * 0)) ((x20.1) 93 (((67 * x6) + 4) + (2 * ((((x3.1) 93 ((67 * x6) + 2)) + 1) / 2))))) x50 l1) fun x54 => if 0 ≤ x48 ∧ x48 < 4554 then if 0 ≤ (x54 + 1) ∧ (x54 + 1) ≤ (jg_u (jg_u (x20.1) 93 (((67 * x40) + 3) + ((2 : Int) * 0)) 0) 93 (((67 * x40) + 4) + ((2 : Int) * 0)) ((x20.1) 93 (((67 * x6) + 4) + (2 * ((((x3.1) 93 ((67 * x6) + 2)) + 1) / 2))))) 93 (67 * x48 + 2) ∧ (jg_u (jg_u (x20.1) 93 (((67 * x40) + 3) + ((2 : Int) * 0)) 0) 93 (((67 * x40) + 4) + ((2 : Int) * 0)) ((x20.1) 93 (((67 * x6) + 4) + (2 * ((((x3.1) 93 ((67 * x6) + 2)) + 1) / 2))))) 93 (67 * x48 + 2) < 32 then (fo174 (fr_puts (jg_u (jg_u (x20.1) 93 (((67 * x40) + 3) + ((2 : Int) * 0)) 0) 93 (((67 * x40) + 4) + ((2 : Int) * 0)) ((x20.1) 93 (((67 * x6) + 4) + (2 * ((((x3.1) 93 ((67 * x6) + 2)) + 1) / 2))))) x48 (x54 + 1) ((x20.1) 93 (((67 * x6) + 3) + (2 * ((((x3.1) 93 ((67 * x6) + 2)) + 1) / 2)))) (x1.2)) (x3.2)).bind fun x59 => some (x59.1, 0) else none else none else none else none else none else none else none else none else none) else (if 0 ≤ (x20.1) 105 (x3.2) ∧ (x20.1) 105 (x3.2) ≤ 3 then jo_l (fr_ri (x20.1) (x3.2) l2) fun x26 => jo_l (fr_ri (x20.1) (x3.2) l2) fun x28 => if 0 ≤ x28 ∧ x28 < 4554 then if 0 ≤ (x20.1) 93 (67 * x28 + 2) ∧ (x20.1) 93 (67 * x28 + 2) ≤ 32 then jo_l (fr_cp (x20.1) x28 l1) fun x32 => if 0 ≤ x26 ∧ x26 < 4554 then if 0 ≤ (x32 + 1) ∧ (x32 + 1) ≤ (x20.1) 93 (67 * x26 + 2) ∧ (x20.1) 93 (67 * x26 + 2) < 32 then (fo174 (fr_puts (x20.1) x26 (x32 + 1) ((x20.1) 93 (((67 * x6) + 3) + (2 * ((((x3.1) 93 ((67 * x6) + 2)) + 1) / 2)))) (x1.2)) (x3.2)).bind fun x37 => some (x37.1, 0) else none else none else none else none else none) else none else none else none else none else none else none else none else none else none
theorem jf180 {d : Nat} {σ0 : ib_H} {Q : ib_O → Prop} {G : jg_G} {l1 : Int} {l2 : Int} (hl1 : jb_r l1) (hl2 : jb_r l2) {r : jg_G × Int} (h : fo180 G l1 l2 = some r) (k : ∀ σ, jg_S σ0 r.1 σ → Q (.inl none, σ)) : jg_W σ0 G (d + 7) 180 0 [some (.ref 92), some (jb_v l1), some (jb_v l2), none, none, none, none, none, none] [] Q := by
  intro σ s
  unfold fo180 at h
  refine jaL0 (p := 1) rfl jM180 jq180_0 ?_
  refine jw_iconst (p := 2) rfl jM180 jq180_1 ?_
  refine jw_callV [(jb_v 0)] jM180 jq180_2 rfl rfl (jo_92 s.1) rfl jM176 rfl rfl ?_
  obtain ⟨x1, b2, h2⟩ := jo_b h
  refine jf176 (jb_rn rfl) b2 (fun σ1 s1 r1 => ?_) σ s
  show jb_w (d + 7) 180 5 [some (.ref 92), some (jb_v l1), some (jb_v l2), none, none, none, none, none, none] [(jb_v (x1.2))] σ1 Q
  refine jiS3 (p := 6) rfl jM180 jq180_5 ?_
  refine jaL0 (p := 7) rfl jM180 jq180_6 ?_
  refine jw_iconst (p := 8) rfl jM180 jq180_7 ?_
  refine jiL1 (p := 9) rfl jM180 jq180_8 ?_
  refine jiL3 (p := 10) rfl jM180 jq180_9 ?_
  refine jiL2 (p := 11) rfl jM180 jq180_10 ?_
  refine jw_callV [(jb_v 5), (jb_v l1), (jb_v (x1.2)), (jb_v l2)] jM180 jq180_11 rfl rfl (jo_92 s1.1) rfl jM171 rfl rfl ?_
  obtain ⟨x3, b4, h4⟩ := jo_b h2
  refine jf171 (jb_rn rfl) hl1 r1 hl2 b4 (fun σ3 s3 r3 => ?_) σ1 s1
  show jb_w (d + 7) 180 14 [some (.ref 92), some (jb_v l1), some (jb_v l2), some (jb_v (x1.2)), none, none, none, none, none] [(jb_v (x3.2))] σ3 Q
  refine jiS4 (p := 16) rfl jM180 jq180_14 ?_
  refine jaL0 (p := 17) rfl jM180 jq180_16 ?_
  refine jiL1 (p := 18) rfl jM180 jq180_17 ?_
  refine jw_callV [(jb_v l1)] jM180 jq180_18 rfl rfl (jo_92 s3.1) rfl jM161 rfl rfl ?_
  obtain ⟨c5, h5⟩ := jo_i h4
  obtain ⟨x6, e7, h7⟩ := jo_lb h5
  refine cs161 c5 (fun σ6 s6 r6 => ?_) σ3 s3
  rw [e7] at r6 ⊢
  show jb_w (d + 7) 180 21 [some (.ref 92), some (jb_v l1), some (jb_v l2), some (jb_v (x1.2)), some (jb_v (x3.2)), none, none, none, none] [(jb_v x6)] σ6 Q
  refine jiS5 (p := 23) rfl jM180 jq180_21 ?_
  refine jaL0 (p := 24) rfl jM180 jq180_23 ?_
  refine jiL5 (p := 26) rfl jM180 jq180_24 ?_
  refine jw_callV [(jb_v x6)] jM180 jq180_26 rfl rfl (jo_92 s6.1) rfl jM150 rfl rfl ?_
  show jb_w (d + 6) 150 0 [some (.ref 92), some (jb_v x6)] [] σ6 (jb_k (d + 7) 180 26 [some (.ref 92), some (jb_v l1), some (jb_v l2), some (jb_v (x1.2)), some (jb_v (x3.2)), some (jb_v x6), none, none, none] [] Q)
  refine jaL0 (p := 1) rfl jM150 jq150_0 ?_
  refine jw_getP (p := 4) (i := 1) (q := 93) rfl jM150 jq150_1 rfl (jo_92 s6.1) je_11_1 (jp_92_1 s6.1) ?_
  refine jw_bipush (p := 6) rfl jM150 jq150_4 (by decide) ?_
  refine jiL1 (p := 7) rfl jM150 jq150_6 ?_
  refine jw_imul (p := 8) rfl jM150 jq150_7 ?_
  refine jw_iconst (p := 9) rfl jM150 jq150_8 ?_
  refine jw_iadd (p := 10) rfl jM150 jq150_9 ?_
  obtain ⟨c8, h8⟩ := jo_i h7
  refine jg_iald (p := 11) rfl jM150 jq150_10 (ja_93 s6.1) c8.1 c8.2 s6 (by decide) rfl ?_
  refine jw_iret jM150 jq150_11 (fun z => absurd z (by decide)) ?_
  show jb_w (d + 7) 180 29 [some (.ref 92), some (jb_v l1), some (jb_v l2), some (jb_v (x1.2)), some (jb_v (x3.2)), some (jb_v x6), none, none, none] [(jb_v ((x3.1) 93 ((67 * x6) + 2)))] σ6 Q
  refine jiS6 (p := 31) rfl jM180 jq180_29 ?_
  refine jiL6 (p := 33) rfl jM180 jq180_31 ?_
  refine jw_iconst (p := 34) rfl jM180 jq180_33 ?_
  refine jw_iadd (p := 35) rfl jM180 jq180_34 ?_
  refine jw_iconst (p := 36) rfl jM180 jq180_35 ?_
  obtain ⟨c9, h9⟩ := jo_i h8
  obtain ⟨c10, h10⟩ := jo_i h9
  refine jw_idiv (p := 37) rfl jM180 jq180_36 c10 c9 (by decide) (jb_rn rfl) ?_
  refine jiS7 (p := 39) rfl jM180 jq180_37 ?_
  refine jaL0 (p := 40) rfl jM180 jq180_39 ?_
  refine jiL5 (p := 42) rfl jM180 jq180_40 ?_
  refine jaL0 (p := 43) rfl jM180 jq180_42 ?_
  refine jiL4 (p := 45) rfl jM180 jq180_43 ?_
  refine jiL1 (p := 46) rfl jM180 jq180_45 ?_
  refine jw_callV [(jb_v (x3.2)), (jb_v l1)] jM180 jq180_46 rfl rfl (jo_92 s6.1) rfl jM172 rfl rfl ?_
  obtain ⟨c11, h11⟩ := jo_i h10
  obtain ⟨c12, h12⟩ := jo_i h11
  obtain ⟨x13, e14, h14⟩ := jo_lb h12
  refine cs172 c11 c12 hl1 (fun σ13 s13 r13 => ?_) σ6 s6
  rw [e14] at r13 ⊢
  show jb_w (d + 7) 180 49 [some (.ref 92), some (jb_v l1), some (jb_v l2), some (jb_v (x1.2)), some (jb_v (x3.2)), some (jb_v x6), some (jb_v ((x3.1) 93 ((67 * x6) + 2))), some (jb_v ((((x3.1) 93 ((67 * x6) + 2)) + 1) / 2)), none] [(jb_v x13), (jb_v x6), (.ref 92)] σ13 Q
  refine jw_iconst (p := 50) rfl jM180 jq180_49 ?_
  refine jiL7 (p := 52) rfl jM180 jq180_50 ?_
  refine jw_callV [(jb_v x6), (jb_v x13), (jb_v 0), (jb_v ((((x3.1) 93 ((67 * x6) + 2)) + 1) / 2))] jM180 jq180_52 rfl rfl (jo_92 s13.1) rfl jM155 rfl rfl ?_
  obtain ⟨x15, b16, h16⟩ := jo_b h14
  refine jf155 r6 r13 (jb_rn rfl) (jb_r_div c10 c9 (by decide)) b16 (fun σ15 s15 => ?_) σ13 s13
  show jb_w (d + 7) 180 55 [some (.ref 92), some (jb_v l1), some (jb_v l2), some (jb_v (x1.2)), some (jb_v (x3.2)), some (jb_v x6), some (jb_v ((x3.1) 93 ((67 * x6) + 2))), some (jb_v ((((x3.1) 93 ((67 * x6) + 2)) + 1) / 2)), none] [] σ15 Q
  refine jaL0 (p := 56) rfl jM180 jq180_55 ?_
  refine jiL5 (p := 58) rfl jM180 jq180_56 ?_
  refine jaL0 (p := 59) rfl jM180 jq180_58 ?_
  refine jiL4 (p := 61) rfl jM180 jq180_59 ?_
  refine jiL3 (p := 62) rfl jM180 jq180_61 ?_
  refine jw_callV [(jb_v (x3.2)), (jb_v (x1.2))] jM180 jq180_62 rfl rfl (jo_92 s15.1) rfl jM172 rfl rfl ?_
  obtain ⟨c17, h17⟩ := jo_i h16
  obtain ⟨x18, e19, h19⟩ := jo_lb h17
  refine cs172 c11 c17 r1 (fun σ18 s18 r18 => ?_) σ15 s15
  rw [e19] at r18 ⊢
  show jb_w (d + 7) 180 65 [some (.ref 92), some (jb_v l1), some (jb_v l2), some (jb_v (x1.2)), some (jb_v (x3.2)), some (jb_v x6), some (jb_v ((x3.1) 93 ((67 * x6) + 2))), some (jb_v ((((x3.1) 93 ((67 * x6) + 2)) + 1) / 2)), none] [(jb_v x18), (jb_v x6), (.ref 92)] σ18 Q
  refine jiL7 (p := 67) rfl jM180 jq180_65 ?_
  refine jiL6 (p := 69) rfl jM180 jq180_67 ?_
  refine jw_callV [(jb_v x6), (jb_v x18), (jb_v ((((x3.1) 93 ((67 * x6) + 2)) + 1) / 2)), (jb_v ((x3.1) 93 ((67 * x6) + 2)))] jM180 jq180_69 rfl rfl (jo_92 s18.1) rfl jM155 rfl rfl ?_
  obtain ⟨x20, b21, h21⟩ := jo_b h19
  refine jf155 r6 r18 (jb_r_div c10 c9 (by decide)) (s3.r _ _) b21 (fun σ20 s20 => ?_) σ18 s18
  show jb_w (d + 7) 180 72 [some (.ref 92), some (jb_v l1), some (jb_v l2), some (jb_v (x1.2)), some (jb_v (x3.2)), some (jb_v x6), some (jb_v ((x3.1) 93 ((67 * x6) + 2))), some (jb_v ((((x3.1) 93 ((67 * x6) + 2)) + 1) / 2)), none] [] σ20 Q
  refine jaL0 (p := 73) rfl jM180 jq180_72 ?_
  refine jiL5 (p := 75) rfl jM180 jq180_73 ?_
  refine jiL7 (p := 77) rfl jM180 jq180_75 ?_
  refine jw_callV [(jb_v x6), (jb_v ((((x3.1) 93 ((67 * x6) + 2)) + 1) / 2))] jM180 jq180_77 rfl rfl (jo_92 s20.1) rfl jM151 rfl rfl ?_
  show jb_w (d + 6) 151 0 [some (.ref 92), some (jb_v x6), some (jb_v ((((x3.1) 93 ((67 * x6) + 2)) + 1) / 2))] [] σ20 (jb_k (d + 7) 180 77 [some (.ref 92), some (jb_v l1), some (jb_v l2), some (jb_v (x1.2)), some (jb_v (x3.2)), some (jb_v x6), some (jb_v ((x3.1) 93 ((67 * x6) + 2))), some (jb_v ((((x3.1) 93 ((67 * x6) + 2)) + 1) / 2)), none] [] Q)
  refine jaL0 (p := 1) rfl jM151 jq151_0 ?_
  refine jw_getP (p := 4) (i := 1) (q := 93) rfl jM151 jq151_1 rfl (jo_92 s20.1) je_11_1 (jp_92_1 s20.1) ?_
  refine jw_bipush (p := 6) rfl jM151 jq151_4 (by decide) ?_
  refine jiL1 (p := 7) rfl jM151 jq151_6 ?_
  refine jw_imul (p := 8) rfl jM151 jq151_7 ?_
  refine jw_iconst (p := 9) rfl jM151 jq151_8 ?_
  refine jw_iadd (p := 10) rfl jM151 jq151_9 ?_
  refine jw_iconst (p := 11) rfl jM151 jq151_10 ?_
  refine jiL2 (p := 12) rfl jM151 jq151_11 ?_
  refine jw_imul (p := 13) rfl jM151 jq151_12 ?_
  refine jw_iadd (p := 14) rfl jM151 jq151_13 ?_
  obtain ⟨c22, h22⟩ := jo_i h21
  refine jg_iald (p := 15) rfl jM151 jq151_14 (ja_93 s20.1) c22.1 c22.2 s20 (by decide) rfl ?_
  refine jw_iret jM151 jq151_15 (fun z => absurd z (by decide)) ?_
  show jb_w (d + 7) 180 80 [some (.ref 92), some (jb_v l1), some (jb_v l2), some (jb_v (x1.2)), some (jb_v (x3.2)), some (jb_v x6), some (jb_v ((x3.1) 93 ((67 * x6) + 2))), some (jb_v ((((x3.1) 93 ((67 * x6) + 2)) + 1) / 2)), none] [(jb_v ((x20.1) 93 (((67 * x6) + 3) + (2 * ((((x3.1) 93 ((67 * x6) + 2)) + 1) / 2)))))] σ20 Q
  refine jiS8 (p := 82) rfl jM180 jq180_80 ?_
  refine jaL0 (p := 83) rfl jM180 jq180_82 ?_
  refine jiL5 (p := 85) rfl jM180 jq180_83 ?_
  refine jw_callV [(jb_v x6)] jM180 jq180_85 rfl rfl (jo_92 s20.1) rfl jM149 rfl rfl ?_
  show jb_w (d + 6) 149 0 [some (.ref 92), some (jb_v x6)] [] σ20 (jb_k (d + 7) 180 85 [some (.ref 92), some (jb_v l1), some (jb_v l2), some (jb_v (x1.2)), some (jb_v (x3.2)), some (jb_v x6), some (jb_v ((x3.1) 93 ((67 * x6) + 2))), some (jb_v ((((x3.1) 93 ((67 * x6) + 2)) + 1) / 2)), some (jb_v ((x20.1) 93 (((67 * x6) + 3) + (2 * ((((x3.1) 93 ((67 * x6) + 2)) + 1) / 2)))))] [] Q)
  refine jaL0 (p := 1) rfl jM149 jq149_0 ?_
  refine jw_getP (p := 4) (i := 1) (q := 93) rfl jM149 jq149_1 rfl (jo_92 s20.1) je_11_1 (jp_92_1 s20.1) ?_
  refine jw_bipush (p := 6) rfl jM149 jq149_4 (by decide) ?_
  refine jiL1 (p := 7) rfl jM149 jq149_6 ?_
  refine jw_imul (p := 8) rfl jM149 jq149_7 ?_
  obtain ⟨c23, h23⟩ := jo_i h22
  refine jg_iald (p := 9) rfl jM149 jq149_8 (ja_93 s20.1) c23.1 c23.2 s20 (by decide) rfl ?_
  refine jw_iret jM149 jq149_9 (fun z => absurd z (by decide)) ?_
  show jb_w (d + 7) 180 88 [some (.ref 92), some (jb_v l1), some (jb_v l2), some (jb_v (x1.2)), some (jb_v (x3.2)), some (jb_v x6), some (jb_v ((x3.1) 93 ((67 * x6) + 2))), some (jb_v ((((x3.1) 93 ((67 * x6) + 2)) + 1) / 2)), some (jb_v ((x20.1) 93 (((67 * x6) + 3) + (2 * ((((x3.1) 93 ((67 * x6) + 2)) + 1) / 2)))))] [(jb_v ((x20.1) 93 (67 * x6)))] σ20 Q
  refine jw_iconst (p := 89) rfl jM180 jq180_88 ?_
  refine jw_ic (p := 92) rfl jM180 jq180_89 (jc_ne (s20.r _ _) (jb_rn rfl)) (fun c24 => ?_) (fun c24 => ?_)
  · have h24 := jo_n c24 h23
    refine jaL0 (p := 114) rfl jM180 jq180_113 ?_
    refine jaL0 (p := 115) rfl jM180 jq180_114 ?_
    refine jiL4 (p := 117) rfl jM180 jq180_115 ?_
    refine jiL2 (p := 118) rfl jM180 jq180_117 ?_
    refine jw_callV [(jb_v (x3.2)), (jb_v l2)] jM180 jq180_118 rfl rfl (jo_92 s20.1) rfl jM172 rfl rfl ?_
    obtain ⟨c25, h25⟩ := jo_i h24
    obtain ⟨x26, e27, h27⟩ := jo_lb h25
    refine cs172 c11 c25 hl2 (fun σ26 s26 r26 => ?_) σ20 s20
    rw [e27] at r26 ⊢
    show jb_w (d + 7) 180 121 [some (.ref 92), some (jb_v l1), some (jb_v l2), some (jb_v (x1.2)), some (jb_v (x3.2)), some (jb_v x6), some (jb_v ((x3.1) 93 ((67 * x6) + 2))), some (jb_v ((((x3.1) 93 ((67 * x6) + 2)) + 1) / 2)), some (jb_v ((x20.1) 93 (((67 * x6) + 3) + (2 * ((((x3.1) 93 ((67 * x6) + 2)) + 1) / 2)))))] [(jb_v x26), (.ref 92)] σ26 Q
    refine jaL0 (p := 122) rfl jM180 jq180_121 ?_
    refine jaL0 (p := 123) rfl jM180 jq180_122 ?_
    refine jiL4 (p := 125) rfl jM180 jq180_123 ?_
    refine jiL2 (p := 126) rfl jM180 jq180_125 ?_
    refine jw_callV [(jb_v (x3.2)), (jb_v l2)] jM180 jq180_126 rfl rfl (jo_92 s26.1) rfl jM172 rfl rfl ?_
    obtain ⟨x28, e29, h29⟩ := jo_lb h27
    refine cs172 c11 c25 hl2 (fun σ28 s28 r28 => ?_) σ26 s26
    rw [e29] at r28 ⊢
    show jb_w (d + 7) 180 129 [some (.ref 92), some (jb_v l1), some (jb_v l2), some (jb_v (x1.2)), some (jb_v (x3.2)), some (jb_v x6), some (jb_v ((x3.1) 93 ((67 * x6) + 2))), some (jb_v ((((x3.1) 93 ((67 * x6) + 2)) + 1) / 2)), some (jb_v ((x20.1) 93 (((67 * x6) + 3) + (2 * ((((x3.1) 93 ((67 * x6) + 2)) + 1) / 2)))))] [(jb_v x28), (.ref 92), (jb_v x26), (.ref 92)] σ28 Q
    refine jiL1 (p := 130) rfl jM180 jq180_129 ?_
    refine jw_callV [(jb_v x28), (jb_v l1)] jM180 jq180_130 rfl rfl (jo_92 s28.1) rfl jM179 rfl rfl ?_
    obtain ⟨c30, h30⟩ := jo_i h29
    obtain ⟨c31, h31⟩ := jo_i h30
    obtain ⟨x32, e33, h33⟩ := jo_lb h31
    refine cs179 c30 c31 hl1 (fun σ32 s32 r32 => ?_) σ28 s28
    rw [e33] at r32 ⊢
    show jb_w (d + 7) 180 133 [some (.ref 92), some (jb_v l1), some (jb_v l2), some (jb_v (x1.2)), some (jb_v (x3.2)), some (jb_v x6), some (jb_v ((x3.1) 93 ((67 * x6) + 2))), some (jb_v ((((x3.1) 93 ((67 * x6) + 2)) + 1) / 2)), some (jb_v ((x20.1) 93 (((67 * x6) + 3) + (2 * ((((x3.1) 93 ((67 * x6) + 2)) + 1) / 2)))))] [(jb_v x32), (jb_v x26), (.ref 92)] σ32 Q
    refine jw_iconst (p := 134) rfl jM180 jq180_133 ?_
    refine jw_iadd (p := 135) rfl jM180 jq180_134 ?_
    refine jiL8 (p := 137) rfl jM180 jq180_135 ?_
    refine jiL3 (p := 138) rfl jM180 jq180_137 ?_
    refine jw_callV [(jb_v x26), (jb_v (x32 + 1)), (jb_v ((x20.1) 93 (((67 * x6) + 3) + (2 * ((((x3.1) 93 ((67 * x6) + 2)) + 1) / 2))))), (jb_v (x1.2))] jM180 jq180_138 rfl rfl (jo_92 s32.1) rfl jM156 rfl rfl ?_
    obtain ⟨c34, h34⟩ := jo_i h33
    obtain ⟨c35, h35⟩ := jo_i h34
    refine cs156 c34 c35 (s20.r _ _) r1 (fun σ36 s36 => ?_) σ32 s32
    show jb_w (d + 7) 180 141 [some (.ref 92), some (jb_v l1), some (jb_v l2), some (jb_v (x1.2)), some (jb_v (x3.2)), some (jb_v x6), some (jb_v ((x3.1) 93 ((67 * x6) + 2))), some (jb_v ((((x3.1) 93 ((67 * x6) + 2)) + 1) / 2)), some (jb_v ((x20.1) 93 (((67 * x6) + 3) + (2 * ((((x3.1) 93 ((67 * x6) + 2)) + 1) / 2)))))] [] σ36 Q
    refine jaL0 (p := 142) rfl jM180 jq180_141 ?_
    refine jiL4 (p := 144) rfl jM180 jq180_142 ?_
    refine jw_callV [(jb_v (x3.2))] jM180 jq180_144 rfl rfl (jo_92 s36.1) rfl jM174 rfl rfl ?_
    obtain ⟨x37, b38, h38⟩ := jo_b h35
    refine jf174 r3 b38 (fun σ37 s37 => ?_) σ36 s36
    show jb_w (d + 7) 180 147 [some (.ref 92), some (jb_v l1), some (jb_v l2), some (jb_v (x1.2)), some (jb_v (x3.2)), some (jb_v x6), some (jb_v ((x3.1) 93 ((67 * x6) + 2))), some (jb_v ((((x3.1) 93 ((67 * x6) + 2)) + 1) / 2)), some (jb_v ((x20.1) 93 (((67 * x6) + 3) + (2 * ((((x3.1) 93 ((67 * x6) + 2)) + 1) / 2)))))] [] σ37 Q
    cases h38
    exact jw_vret jM180 jq180_147 (k σ37 s37)
  · have h24 := jo_p (Decidable.byContradiction c24) h23
    refine jaL0 (p := 93) rfl jM180 jq180_92 ?_
    refine jaL0 (p := 94) rfl jM180 jq180_93 ?_
    refine jiL4 (p := 96) rfl jM180 jq180_94 ?_
    refine jiL3 (p := 97) rfl jM180 jq180_96 ?_
    refine jw_callV [(jb_v (x3.2)), (jb_v (x1.2))] jM180 jq180_97 rfl rfl (jo_92 s20.1) rfl jM172 rfl rfl ?_
    obtain ⟨c39, h39⟩ := jo_i h24
    obtain ⟨x40, e41, h41⟩ := jo_lb h39
    refine cs172 c11 c39 r1 (fun σ40 s40 r40 => ?_) σ20 s20
    rw [e41] at r40 ⊢
    show jb_w (d + 7) 180 100 [some (.ref 92), some (jb_v l1), some (jb_v l2), some (jb_v (x1.2)), some (jb_v (x3.2)), some (jb_v x6), some (jb_v ((x3.1) 93 ((67 * x6) + 2))), some (jb_v ((((x3.1) 93 ((67 * x6) + 2)) + 1) / 2)), some (jb_v ((x20.1) 93 (((67 * x6) + 3) + (2 * ((((x3.1) 93 ((67 * x6) + 2)) + 1) / 2)))))] [(jb_v x40), (.ref 92)] σ40 Q
    refine jw_iconst (p := 101) rfl jM180 jq180_100 ?_
    refine jw_iconst (p := 102) rfl jM180 jq180_101 ?_
    refine jaL0 (p := 103) rfl jM180 jq180_102 ?_
    refine jiL5 (p := 105) rfl jM180 jq180_103 ?_
    refine jiL7 (p := 107) rfl jM180 jq180_105 ?_
    refine jw_callV [(jb_v x6), (jb_v ((((x3.1) 93 ((67 * x6) + 2)) + 1) / 2))] jM180 jq180_107 rfl rfl (jo_92 s40.1) rfl jM152 rfl rfl ?_
    show jb_w (d + 6) 152 0 [some (.ref 92), some (jb_v x6), some (jb_v ((((x3.1) 93 ((67 * x6) + 2)) + 1) / 2))] [] σ40 (jb_k (d + 7) 180 107 [some (.ref 92), some (jb_v l1), some (jb_v l2), some (jb_v (x1.2)), some (jb_v (x3.2)), some (jb_v x6), some (jb_v ((x3.1) 93 ((67 * x6) + 2))), some (jb_v ((((x3.1) 93 ((67 * x6) + 2)) + 1) / 2)), some (jb_v ((x20.1) 93 (((67 * x6) + 3) + (2 * ((((x3.1) 93 ((67 * x6) + 2)) + 1) / 2)))))] [(jb_v 0), (jb_v 0), (jb_v x40), (.ref 92)] Q)
    refine jaL0 (p := 1) rfl jM152 jq152_0 ?_
    refine jw_getP (p := 4) (i := 1) (q := 93) rfl jM152 jq152_1 rfl (jo_92 s40.1) je_11_1 (jp_92_1 s40.1) ?_
    refine jw_bipush (p := 6) rfl jM152 jq152_4 (by decide) ?_
    refine jiL1 (p := 7) rfl jM152 jq152_6 ?_
    refine jw_imul (p := 8) rfl jM152 jq152_7 ?_
    refine jw_iconst (p := 9) rfl jM152 jq152_8 ?_
    refine jw_iadd (p := 10) rfl jM152 jq152_9 ?_
    refine jw_iconst (p := 11) rfl jM152 jq152_10 ?_
    refine jiL2 (p := 12) rfl jM152 jq152_11 ?_
    refine jw_imul (p := 13) rfl jM152 jq152_12 ?_
    refine jw_iadd (p := 14) rfl jM152 jq152_13 ?_
    obtain ⟨c42, h42⟩ := jo_i h41
    refine jg_iald (p := 15) rfl jM152 jq152_14 (ja_93 s40.1) c42.1 c42.2 s40 (by decide) rfl ?_
    refine jw_iret jM152 jq152_15 (fun z => absurd z (by decide)) ?_
    show jb_w (d + 7) 180 110 [some (.ref 92), some (jb_v l1), some (jb_v l2), some (jb_v (x1.2)), some (jb_v (x3.2)), some (jb_v x6), some (jb_v ((x3.1) 93 ((67 * x6) + 2))), some (jb_v ((((x3.1) 93 ((67 * x6) + 2)) + 1) / 2)), some (jb_v ((x20.1) 93 (((67 * x6) + 3) + (2 * ((((x3.1) 93 ((67 * x6) + 2)) + 1) / 2)))))] [(jb_v ((x20.1) 93 (((67 * x6) + 4) + (2 * ((((x3.1) 93 ((67 * x6) + 2)) + 1) / 2))))), (jb_v 0), (jb_v 0), (jb_v x40), (.ref 92)] σ40 Q
    refine jw_callV [(jb_v x40), (jb_v 0), (jb_v 0), (jb_v ((x20.1) 93 (((67 * x6) + 4) + (2 * ((((x3.1) 93 ((67 * x6) + 2)) + 1) / 2)))))] jM180 jq180_110 rfl rfl (jo_92 s40.1) rfl jM153 rfl rfl ?_
    show jb_w (d + 6) 153 0 [some (.ref 92), some (jb_v x40), some (jb_v 0), some (jb_v 0), some (jb_v ((x20.1) 93 (((67 * x6) + 4) + (2 * ((((x3.1) 93 ((67 * x6) + 2)) + 1) / 2)))))] [] σ40 (jb_k (d + 7) 180 110 [some (.ref 92), some (jb_v l1), some (jb_v l2), some (jb_v (x1.2)), some (jb_v (x3.2)), some (jb_v x6), some (jb_v ((x3.1) 93 ((67 * x6) + 2))), some (jb_v ((((x3.1) 93 ((67 * x6) + 2)) + 1) / 2)), some (jb_v ((x20.1) 93 (((67 * x6) + 3) + (2 * ((((x3.1) 93 ((67 * x6) + 2)) + 1) / 2)))))] [] Q)
    refine jaL0 (p := 1) rfl jM153 jq153_0 ?_
    refine jw_getP (p := 4) (i := 1) (q := 93) rfl jM153 jq153_1 rfl (jo_92 s40.1) je_11_1 (jp_92_1 s40.1) ?_
    refine jw_bipush (p := 6) rfl jM153 jq153_4 (by decide) ?_
    refine jiL1 (p := 7) rfl jM153 jq153_6 ?_
    refine jw_imul (p := 8) rfl jM153 jq153_7 ?_
    refine jw_iconst (p := 9) rfl jM153 jq153_8 ?_
    refine jw_iadd (p := 10) rfl jM153 jq153_9 ?_
    refine jw_iconst (p := 11) rfl jM153 jq153_10 ?_
    refine jiL2 (p := 12) rfl jM153 jq153_11 ?_
    refine jw_imul (p := 13) rfl jM153 jq153_12 ?_
    refine jw_iadd (p := 14) rfl jM153 jq153_13 ?_
    refine jiL3 (p := 15) rfl jM153 jq153_14 ?_
    obtain ⟨c43, h43⟩ := jo_i h42
    refine jg_iast (p := 16) rfl jM153 jq153_15 (ja_93 s40.1) c43.1 c43.2 s40 (by decide) (jb_rn rfl) ?_
    intro σ44 s44
    refine jaL0 (p := 17) rfl jM153 jq153_16 ?_
    refine jw_getP (p := 20) (i := 1) (q := 93) rfl jM153 jq153_17 rfl (jo_92 s44.1) je_11_1 (jp_92_1 s44.1) ?_
    refine jw_bipush (p := 22) rfl jM153 jq153_20 (by decide) ?_
    refine jiL1 (p := 23) rfl jM153 jq153_22 ?_
    refine jw_imul (p := 24) rfl jM153 jq153_23 ?_
    refine jw_iconst (p := 25) rfl jM153 jq153_24 ?_
    refine jw_iadd (p := 26) rfl jM153 jq153_25 ?_
    refine jw_iconst (p := 27) rfl jM153 jq153_26 ?_
    refine jiL2 (p := 28) rfl jM153 jq153_27 ?_
    refine jw_imul (p := 29) rfl jM153 jq153_28 ?_
    refine jw_iadd (p := 30) rfl jM153 jq153_29 ?_
    refine jiL4 (p := 32) rfl jM153 jq153_30 ?_
    obtain ⟨c45, h45⟩ := jo_i h43
    refine jg_iast (p := 33) rfl jM153 jq153_32 (ja_93 s44.1) c45.1 c45.2 s44 (by decide) (s20.r _ _) ?_
    intro σ46 s46
    refine jw_vret jM153 jq153_33 ?_
    show jb_w (d + 7) 180 113 [some (.ref 92), some (jb_v l1), some (jb_v l2), some (jb_v (x1.2)), some (jb_v (x3.2)), some (jb_v x6), some (jb_v ((x3.1) 93 ((67 * x6) + 2))), some (jb_v ((((x3.1) 93 ((67 * x6) + 2)) + 1) / 2)), some (jb_v ((x20.1) 93 (((67 * x6) + 3) + (2 * ((((x3.1) 93 ((67 * x6) + 2)) + 1) / 2)))))] [] σ46 Q
    refine jaL0 (p := 114) rfl jM180 jq180_113 ?_
    refine jaL0 (p := 115) rfl jM180 jq180_114 ?_
    refine jiL4 (p := 117) rfl jM180 jq180_115 ?_
    refine jiL2 (p := 118) rfl jM180 jq180_117 ?_
    refine jw_callV [(jb_v (x3.2)), (jb_v l2)] jM180 jq180_118 rfl rfl (jo_92 s46.1) rfl jM172 rfl rfl ?_
    obtain ⟨c47, h47⟩ := jo_i h45
    obtain ⟨x48, e49, h49⟩ := jo_lb h47
    refine cs172 c11 c47 hl2 (fun σ48 s48 r48 => ?_) σ46 s46
    rw [e49] at r48 ⊢
    show jb_w (d + 7) 180 121 [some (.ref 92), some (jb_v l1), some (jb_v l2), some (jb_v (x1.2)), some (jb_v (x3.2)), some (jb_v x6), some (jb_v ((x3.1) 93 ((67 * x6) + 2))), some (jb_v ((((x3.1) 93 ((67 * x6) + 2)) + 1) / 2)), some (jb_v ((x20.1) 93 (((67 * x6) + 3) + (2 * ((((x3.1) 93 ((67 * x6) + 2)) + 1) / 2)))))] [(jb_v x48), (.ref 92)] σ48 Q
    refine jaL0 (p := 122) rfl jM180 jq180_121 ?_
    refine jaL0 (p := 123) rfl jM180 jq180_122 ?_
    refine jiL4 (p := 125) rfl jM180 jq180_123 ?_
    refine jiL2 (p := 126) rfl jM180 jq180_125 ?_
    refine jw_callV [(jb_v (x3.2)), (jb_v l2)] jM180 jq180_126 rfl rfl (jo_92 s48.1) rfl jM172 rfl rfl ?_
    obtain ⟨x50, e51, h51⟩ := jo_lb h49
    refine cs172 c11 c47 hl2 (fun σ50 s50 r50 => ?_) σ48 s48
    rw [e51] at r50 ⊢
    show jb_w (d + 7) 180 129 [some (.ref 92), some (jb_v l1), some (jb_v l2), some (jb_v (x1.2)), some (jb_v (x3.2)), some (jb_v x6), some (jb_v ((x3.1) 93 ((67 * x6) + 2))), some (jb_v ((((x3.1) 93 ((67 * x6) + 2)) + 1) / 2)), some (jb_v ((x20.1) 93 (((67 * x6) + 3) + (2 * ((((x3.1) 93 ((67 * x6) + 2)) + 1) / 2)))))] [(jb_v x50), (.ref 92), (jb_v x48), (.ref 92)] σ50 Q
    refine jiL1 (p := 130) rfl jM180 jq180_129 ?_
    refine jw_callV [(jb_v x50), (jb_v l1)] jM180 jq180_130 rfl rfl (jo_92 s50.1) rfl jM179 rfl rfl ?_
    obtain ⟨c52, h52⟩ := jo_i h51
    obtain ⟨c53, h53⟩ := jo_i h52
    obtain ⟨x54, e55, h55⟩ := jo_lb h53
    refine cs179 c52 c53 hl1 (fun σ54 s54 r54 => ?_) σ50 s50
    rw [e55] at r54 ⊢
    show jb_w (d + 7) 180 133 [some (.ref 92), some (jb_v l1), some (jb_v l2), some (jb_v (x1.2)), some (jb_v (x3.2)), some (jb_v x6), some (jb_v ((x3.1) 93 ((67 * x6) + 2))), some (jb_v ((((x3.1) 93 ((67 * x6) + 2)) + 1) / 2)), some (jb_v ((x20.1) 93 (((67 * x6) + 3) + (2 * ((((x3.1) 93 ((67 * x6) + 2)) + 1) / 2)))))] [(jb_v x54), (jb_v x48), (.ref 92)] σ54 Q
    refine jw_iconst (p := 134) rfl jM180 jq180_133 ?_
    refine jw_iadd (p := 135) rfl jM180 jq180_134 ?_
    refine jiL8 (p := 137) rfl jM180 jq180_135 ?_
    refine jiL3 (p := 138) rfl jM180 jq180_137 ?_
    refine jw_callV [(jb_v x48), (jb_v (x54 + 1)), (jb_v ((x20.1) 93 (((67 * x6) + 3) + (2 * ((((x3.1) 93 ((67 * x6) + 2)) + 1) / 2))))), (jb_v (x1.2))] jM180 jq180_138 rfl rfl (jo_92 s54.1) rfl jM156 rfl rfl ?_
    obtain ⟨c56, h56⟩ := jo_i h55
    obtain ⟨c57, h57⟩ := jo_i h56
    refine cs156 c56 c57 (s20.r _ _) r1 (fun σ58 s58 => ?_) σ54 s54
    show jb_w (d + 7) 180 141 [some (.ref 92), some (jb_v l1), some (jb_v l2), some (jb_v (x1.2)), some (jb_v (x3.2)), some (jb_v x6), some (jb_v ((x3.1) 93 ((67 * x6) + 2))), some (jb_v ((((x3.1) 93 ((67 * x6) + 2)) + 1) / 2)), some (jb_v ((x20.1) 93 (((67 * x6) + 3) + (2 * ((((x3.1) 93 ((67 * x6) + 2)) + 1) / 2)))))] [] σ58 Q
    refine jaL0 (p := 142) rfl jM180 jq180_141 ?_
    refine jiL4 (p := 144) rfl jM180 jq180_142 ?_
    refine jw_callV [(jb_v (x3.2))] jM180 jq180_144 rfl rfl (jo_92 s58.1) rfl jM174 rfl rfl ?_
    obtain ⟨x59, b60, h60⟩ := jo_b h57
    refine jf174 r3 b60 (fun σ59 s59 => ?_) σ58 s58
    show jb_w (d + 7) 180 147 [some (.ref 92), some (jb_v l1), some (jb_v l2), some (jb_v (x1.2)), some (jb_v (x3.2)), some (jb_v x6), some (jb_v ((x3.1) 93 ((67 * x6) + 2))), some (jb_v ((((x3.1) 93 ((67 * x6) + 2)) + 1) / 2)), some (jb_v ((x20.1) 93 (((67 * x6) + 3) + (2 * ((((x3.1) 93 ((67 * x6) + 2)) + 1) / 2)))))] [] σ59 Q
    cases h60
    exact jw_vret jM180 jq180_147 (k σ59 s59)
-- 181 goes need 7
def fo181 (G : jg_G) (l1 : Int) (l2 : Int) : Option (jg_G × Int) := (fo171 G 6 l1 l2 (-1)).bind fun x1 => if 1 ≤ (x1.2) ∧ (x1.2) < 1501 then if 0 ≤ (x1.1) 105 (x1.2) ∧ (x1.1) 105 (x1.2) ≤ 3 then jo_l (fr_ri (x1.1) (x1.2) l1) fun x5 => if 0 ≤ x5 ∧ x5 < 4554 then if 0 ≤ (fr_empties (x1.1) x5 (0 : Int)) 105 (x1.2) ∧ (fr_empties (x1.1) x5 (0 : Int)) 105 (x1.2) ≤ 3 then jo_l (fr_ri (fr_empties (x1.1) x5 (0 : Int)) (x1.2) l2) fun x10 => if 0 ≤ x10 ∧ x10 < 4554 then if 0 ≤ (fr_empties (x1.1) x5 (0 : Int)) 93 (67 * x10 + 2) ∧ (fr_empties (x1.1) x5 (0 : Int)) 93 (67 * x10 + 2) ≤ 32 then jo_l (fr_cp (fr_empties (x1.1) x5 (0 : Int)) x10 l1) fun x14 => if 0 ≤ x14 ∧ x14 < (fr_empties (x1.1) x5 (0 : Int)) 93 (67 * x10 + 2) ∧ (fr_empties (x1.1) x5 (0 : Int)) 93 (67 * x10 + 2) ≤ 32 then if x14 = 0 then (if 0 ≤ ((67 * x10) + 2) ∧ ((67 * x10) + 2) < 305118 then if (fr_drops (fr_empties (x1.1) x5 (0 : Int)) x10 x14) 93 ((67 * x10) + 2) ≤ 0 then ((fo174 (fr_drops (fr_empties (x1.1) x5 (0 : Int)) x10 x14) (x1.2)).bind fun x23 => some (x23.1, 0)) else (if 0 ≤ (((67 * x10) + 4) + ((2 : Int) * 0)) ∧ (((67 * x10) + 4) + ((2 : Int) * 0)) < 305118 then if 0 ≤ (((67 * x10) + 3) + ((2 : Int) * 0)) ∧ (((67 * x10) + 3) + ((2 : Int) * 0)) < 305118 then (fo174 (jg_u (jg_u (fr_drops (fr_empties (x1.1) x5 (0 : Int)) x10 x14) 93 (((67 * x10) + 3) + ((2 : Int) * 0)) 0) 93 (((67 * x10) + 4) + ((2 : Int) * 0)) ((fr_drops (fr_empties (x1.1) x5 (0 : Int)) x10 x14) 93 (((67 * x10) + 4) + ((2 : Int) * 0)))) (x1.2)).bind fun x29 => some (x29.1, 0) else none else none) else none) else ((fo174 (fr_drops (fr_empties (x1.1) x5 (0 : Int)) x10 x14) (x1.2)).bind fun x19 => some (x19.1, 0)) else none else none else none else none else none else none else none
theorem jf181 {d : Nat} {σ0 : ib_H} {Q : ib_O → Prop} {G : jg_G} {l1 : Int} {l2 : Int} (hl1 : jb_r l1) (hl2 : jb_r l2) {r : jg_G × Int} (h : fo181 G l1 l2 = some r) (k : ∀ σ, jg_S σ0 r.1 σ → Q (.inl none, σ)) : jg_W σ0 G (d + 7) 181 0 [some (.ref 92), some (jb_v l1), some (jb_v l2), none, none, none] [] Q := by
  intro σ s
  unfold fo181 at h
  refine jaL0 (p := 1) rfl jM181 jq181_0 ?_
  refine jw_bipush (p := 3) rfl jM181 jq181_1 (by decide) ?_
  refine jiL1 (p := 4) rfl jM181 jq181_3 ?_
  refine jiL2 (p := 5) rfl jM181 jq181_4 ?_
  refine jw_iconst (p := 6) rfl jM181 jq181_5 ?_
  refine jw_callV [(jb_v 6), (jb_v l1), (jb_v l2), (jb_v (-1))] jM181 jq181_6 rfl rfl (jo_92 s.1) rfl jM171 rfl rfl ?_
  obtain ⟨x1, b2, h2⟩ := jo_b h
  refine jf171 (jb_rn rfl) hl1 hl2 (jb_rn rfl) b2 (fun σ1 s1 r1 => ?_) σ s
  show jb_w (d + 7) 181 9 [some (.ref 92), some (jb_v l1), some (jb_v l2), none, none, none] [(jb_v (x1.2))] σ1 Q
  refine jiS3 (p := 10) rfl jM181 jq181_9 ?_
  refine jaL0 (p := 11) rfl jM181 jq181_10 ?_
  refine jaL0 (p := 12) rfl jM181 jq181_11 ?_
  refine jiL3 (p := 13) rfl jM181 jq181_12 ?_
  refine jiL1 (p := 14) rfl jM181 jq181_13 ?_
  refine jw_callV [(jb_v (x1.2)), (jb_v l1)] jM181 jq181_14 rfl rfl (jo_92 s1.1) rfl jM172 rfl rfl ?_
  obtain ⟨c3, h3⟩ := jo_i h2
  obtain ⟨c4, h4⟩ := jo_i h3
  obtain ⟨x5, e6, h6⟩ := jo_lb h4
  refine cs172 c3 c4 hl1 (fun σ5 s5 r5 => ?_) σ1 s1
  rw [e6] at r5 ⊢
  show jb_w (d + 7) 181 17 [some (.ref 92), some (jb_v l1), some (jb_v l2), some (jb_v (x1.2)), none, none] [(jb_v x5), (.ref 92)] σ5 Q
  refine jw_iconst (p := 18) rfl jM181 jq181_17 ?_
  refine jw_callV [(jb_v x5), (jb_v 0)] jM181 jq181_18 rfl rfl (jo_92 s5.1) rfl jM154 rfl rfl ?_
  obtain ⟨c7, h7⟩ := jo_i h6
  refine cs154 c7 (jb_rn rfl) (fun σ8 s8 => ?_) σ5 s5
  show jb_w (d + 7) 181 21 [some (.ref 92), some (jb_v l1), some (jb_v l2), some (jb_v (x1.2)), none, none] [] σ8 Q
  refine jaL0 (p := 22) rfl jM181 jq181_21 ?_
  refine jiL3 (p := 23) rfl jM181 jq181_22 ?_
  refine jiL2 (p := 24) rfl jM181 jq181_23 ?_
  refine jw_callV [(jb_v (x1.2)), (jb_v l2)] jM181 jq181_24 rfl rfl (jo_92 s8.1) rfl jM172 rfl rfl ?_
  obtain ⟨c9, h9⟩ := jo_i h7
  obtain ⟨x10, e11, h11⟩ := jo_lb h9
  refine cs172 c3 c9 hl2 (fun σ10 s10 r10 => ?_) σ8 s8
  rw [e11] at r10 ⊢
  show jb_w (d + 7) 181 27 [some (.ref 92), some (jb_v l1), some (jb_v l2), some (jb_v (x1.2)), none, none] [(jb_v x10)] σ10 Q
  refine jiS4 (p := 29) rfl jM181 jq181_27 ?_
  refine jaL0 (p := 30) rfl jM181 jq181_29 ?_
  refine jiL4 (p := 32) rfl jM181 jq181_30 ?_
  refine jiL1 (p := 33) rfl jM181 jq181_32 ?_
  refine jw_callV [(jb_v x10), (jb_v l1)] jM181 jq181_33 rfl rfl (jo_92 s10.1) rfl jM179 rfl rfl ?_
  obtain ⟨c12, h12⟩ := jo_i h11
  obtain ⟨c13, h13⟩ := jo_i h12
  obtain ⟨x14, e15, h15⟩ := jo_lb h13
  refine cs179 c12 c13 hl1 (fun σ14 s14 r14 => ?_) σ10 s10
  rw [e15] at r14 ⊢
  show jb_w (d + 7) 181 36 [some (.ref 92), some (jb_v l1), some (jb_v l2), some (jb_v (x1.2)), some (jb_v x10), none] [(jb_v x14)] σ14 Q
  refine jiS5 (p := 38) rfl jM181 jq181_36 ?_
  refine jaL0 (p := 39) rfl jM181 jq181_38 ?_
  refine jiL4 (p := 41) rfl jM181 jq181_39 ?_
  refine jiL5 (p := 43) rfl jM181 jq181_41 ?_
  refine jw_callV [(jb_v x10), (jb_v x14)] jM181 jq181_43 rfl rfl (jo_92 s14.1) rfl jM157 rfl rfl ?_
  obtain ⟨c16, h16⟩ := jo_i h15
  refine cs157 c12 c16 (fun σ17 s17 => ?_) σ14 s14
  show jb_w (d + 7) 181 46 [some (.ref 92), some (jb_v l1), some (jb_v l2), some (jb_v (x1.2)), some (jb_v x10), some (jb_v x14)] [] σ17 Q
  refine jiL5 (p := 48) rfl jM181 jq181_46 ?_
  refine jw_if (p := 51) rfl jM181 jq181_48 (jc_ne r14 jb_r0) (fun c18 => ?_) (fun c18 => ?_)
  · have h18 := jo_n c18 h16
    refine jaL0 (p := 76) rfl jM181 jq181_75 ?_
    refine jiL3 (p := 77) rfl jM181 jq181_76 ?_
    refine jw_callV [(jb_v (x1.2))] jM181 jq181_77 rfl rfl (jo_92 s17.1) rfl jM174 rfl rfl ?_
    obtain ⟨x19, b20, h20⟩ := jo_b h18
    refine jf174 r1 b20 (fun σ19 s19 => ?_) σ17 s17
    show jb_w (d + 7) 181 80 [some (.ref 92), some (jb_v l1), some (jb_v l2), some (jb_v (x1.2)), some (jb_v x10), some (jb_v x14)] [] σ19 Q
    cases h20
    exact jw_vret jM181 jq181_80 (k σ19 s19)
  · have h18 := jo_p (Decidable.byContradiction c18) h16
    refine jaL0 (p := 52) rfl jM181 jq181_51 ?_
    refine jiL4 (p := 54) rfl jM181 jq181_52 ?_
    refine jw_callV [(jb_v x10)] jM181 jq181_54 rfl rfl (jo_92 s17.1) rfl jM150 rfl rfl ?_
    show jb_w (d + 6) 150 0 [some (.ref 92), some (jb_v x10)] [] σ17 (jb_k (d + 7) 181 54 [some (.ref 92), some (jb_v l1), some (jb_v l2), some (jb_v (x1.2)), some (jb_v x10), some (jb_v x14)] [] Q)
    refine jaL0 (p := 1) rfl jM150 jq150_0 ?_
    refine jw_getP (p := 4) (i := 1) (q := 93) rfl jM150 jq150_1 rfl (jo_92 s17.1) je_11_1 (jp_92_1 s17.1) ?_
    refine jw_bipush (p := 6) rfl jM150 jq150_4 (by decide) ?_
    refine jiL1 (p := 7) rfl jM150 jq150_6 ?_
    refine jw_imul (p := 8) rfl jM150 jq150_7 ?_
    refine jw_iconst (p := 9) rfl jM150 jq150_8 ?_
    refine jw_iadd (p := 10) rfl jM150 jq150_9 ?_
    obtain ⟨c21, h21⟩ := jo_i h18
    refine jg_iald (p := 11) rfl jM150 jq150_10 (ja_93 s17.1) c21.1 c21.2 s17 (by decide) rfl ?_
    refine jw_iret jM150 jq150_11 (fun z => absurd z (by decide)) ?_
    show jb_w (d + 7) 181 57 [some (.ref 92), some (jb_v l1), some (jb_v l2), some (jb_v (x1.2)), some (jb_v x10), some (jb_v x14)] [(jb_v ((fr_drops (fr_empties (x1.1) x5 (0 : Int)) x10 x14) 93 ((67 * x10) + 2)))] σ17 Q
    refine jw_if (p := 60) rfl jM181 jq181_57 (jc_le (s17.r _ _) jb_r0) (fun c22 => ?_) (fun c22 => ?_)
    · have h22 := jo_p c22 h21
      refine jaL0 (p := 76) rfl jM181 jq181_75 ?_
      refine jiL3 (p := 77) rfl jM181 jq181_76 ?_
      refine jw_callV [(jb_v (x1.2))] jM181 jq181_77 rfl rfl (jo_92 s17.1) rfl jM174 rfl rfl ?_
      obtain ⟨x23, b24, h24⟩ := jo_b h22
      refine jf174 r1 b24 (fun σ23 s23 => ?_) σ17 s17
      show jb_w (d + 7) 181 80 [some (.ref 92), some (jb_v l1), some (jb_v l2), some (jb_v (x1.2)), some (jb_v x10), some (jb_v x14)] [] σ23 Q
      cases h24
      exact jw_vret jM181 jq181_80 (k σ23 s23)
    · have h22 := jo_n c22 h21
      refine jaL0 (p := 61) rfl jM181 jq181_60 ?_
      refine jiL4 (p := 63) rfl jM181 jq181_61 ?_
      refine jw_iconst (p := 64) rfl jM181 jq181_63 ?_
      refine jw_iconst (p := 65) rfl jM181 jq181_64 ?_
      refine jaL0 (p := 66) rfl jM181 jq181_65 ?_
      refine jiL4 (p := 68) rfl jM181 jq181_66 ?_
      refine jw_iconst (p := 69) rfl jM181 jq181_68 ?_
      refine jw_callV [(jb_v x10), (jb_v 0)] jM181 jq181_69 rfl rfl (jo_92 s17.1) rfl jM152 rfl rfl ?_
      show jb_w (d + 6) 152 0 [some (.ref 92), some (jb_v x10), some (jb_v 0)] [] σ17 (jb_k (d + 7) 181 69 [some (.ref 92), some (jb_v l1), some (jb_v l2), some (jb_v (x1.2)), some (jb_v x10), some (jb_v x14)] [(jb_v 0), (jb_v 0), (jb_v x10), (.ref 92)] Q)
      refine jaL0 (p := 1) rfl jM152 jq152_0 ?_
      refine jw_getP (p := 4) (i := 1) (q := 93) rfl jM152 jq152_1 rfl (jo_92 s17.1) je_11_1 (jp_92_1 s17.1) ?_
      refine jw_bipush (p := 6) rfl jM152 jq152_4 (by decide) ?_
      refine jiL1 (p := 7) rfl jM152 jq152_6 ?_
      refine jw_imul (p := 8) rfl jM152 jq152_7 ?_
      refine jw_iconst (p := 9) rfl jM152 jq152_8 ?_
      refine jw_iadd (p := 10) rfl jM152 jq152_9 ?_
      refine jw_iconst (p := 11) rfl jM152 jq152_10 ?_
      refine jiL2 (p := 12) rfl jM152 jq152_11 ?_
      refine jw_imul (p := 13) rfl jM152 jq152_12 ?_
      refine jw_iadd (p := 14) rfl jM152 jq152_13 ?_
      obtain ⟨c25, h25⟩ := jo_i h22
      refine jg_iald (p := 15) rfl jM152 jq152_14 (ja_93 s17.1) c25.1 c25.2 s17 (by decide) rfl ?_
      refine jw_iret jM152 jq152_15 (fun z => absurd z (by decide)) ?_
      show jb_w (d + 7) 181 72 [some (.ref 92), some (jb_v l1), some (jb_v l2), some (jb_v (x1.2)), some (jb_v x10), some (jb_v x14)] [(jb_v ((fr_drops (fr_empties (x1.1) x5 (0 : Int)) x10 x14) 93 (((67 * x10) + 4) + ((2 : Int) * 0)))), (jb_v 0), (jb_v 0), (jb_v x10), (.ref 92)] σ17 Q
      refine jw_callV [(jb_v x10), (jb_v 0), (jb_v 0), (jb_v ((fr_drops (fr_empties (x1.1) x5 (0 : Int)) x10 x14) 93 (((67 * x10) + 4) + ((2 : Int) * 0))))] jM181 jq181_72 rfl rfl (jo_92 s17.1) rfl jM153 rfl rfl ?_
      show jb_w (d + 6) 153 0 [some (.ref 92), some (jb_v x10), some (jb_v 0), some (jb_v 0), some (jb_v ((fr_drops (fr_empties (x1.1) x5 (0 : Int)) x10 x14) 93 (((67 * x10) + 4) + ((2 : Int) * 0))))] [] σ17 (jb_k (d + 7) 181 72 [some (.ref 92), some (jb_v l1), some (jb_v l2), some (jb_v (x1.2)), some (jb_v x10), some (jb_v x14)] [] Q)
      refine jaL0 (p := 1) rfl jM153 jq153_0 ?_
      refine jw_getP (p := 4) (i := 1) (q := 93) rfl jM153 jq153_1 rfl (jo_92 s17.1) je_11_1 (jp_92_1 s17.1) ?_
      refine jw_bipush (p := 6) rfl jM153 jq153_4 (by decide) ?_
      refine jiL1 (p := 7) rfl jM153 jq153_6 ?_
      refine jw_imul (p := 8) rfl jM153 jq153_7 ?_
      refine jw_iconst (p := 9) rfl jM153 jq153_8 ?_
      refine jw_iadd (p := 10) rfl jM153 jq153_9 ?_
      refine jw_iconst (p := 11) rfl jM153 jq153_10 ?_
      refine jiL2 (p := 12) rfl jM153 jq153_11 ?_
      refine jw_imul (p := 13) rfl jM153 jq153_12 ?_
      refine jw_iadd (p := 14) rfl jM153 jq153_13 ?_
      refine jiL3 (p := 15) rfl jM153 jq153_14 ?_
      obtain ⟨c26, h26⟩ := jo_i h25
      refine jg_iast (p := 16) rfl jM153 jq153_15 (ja_93 s17.1) c26.1 c26.2 s17 (by decide) (jb_rn rfl) ?_
      intro σ27 s27
      refine jaL0 (p := 17) rfl jM153 jq153_16 ?_
      refine jw_getP (p := 20) (i := 1) (q := 93) rfl jM153 jq153_17 rfl (jo_92 s27.1) je_11_1 (jp_92_1 s27.1) ?_
      refine jw_bipush (p := 22) rfl jM153 jq153_20 (by decide) ?_
      refine jiL1 (p := 23) rfl jM153 jq153_22 ?_
      refine jw_imul (p := 24) rfl jM153 jq153_23 ?_
      refine jw_iconst (p := 25) rfl jM153 jq153_24 ?_
      refine jw_iadd (p := 26) rfl jM153 jq153_25 ?_
      refine jw_iconst (p := 27) rfl jM153 jq153_26 ?_
      refine jiL2 (p := 28) rfl jM153 jq153_27 ?_
      refine jw_imul (p := 29) rfl jM153 jq153_28 ?_
      refine jw_iadd (p := 30) rfl jM153 jq153_29 ?_
      refine jiL4 (p := 32) rfl jM153 jq153_30 ?_
      refine jg_iast (p := 33) rfl jM153 jq153_32 (ja_93 s27.1) c25.1 c25.2 s27 (by decide) (s17.r _ _) ?_
      intro σ28 s28
      refine jw_vret jM153 jq153_33 ?_
      show jb_w (d + 7) 181 75 [some (.ref 92), some (jb_v l1), some (jb_v l2), some (jb_v (x1.2)), some (jb_v x10), some (jb_v x14)] [] σ28 Q
      refine jaL0 (p := 76) rfl jM181 jq181_75 ?_
      refine jiL3 (p := 77) rfl jM181 jq181_76 ?_
      refine jw_callV [(jb_v (x1.2))] jM181 jq181_77 rfl rfl (jo_92 s28.1) rfl jM174 rfl rfl ?_
      obtain ⟨x29, b30, h30⟩ := jo_b h26
      refine jf174 r1 b30 (fun σ29 s29 => ?_) σ28 s28
      show jb_w (d + 7) 181 80 [some (.ref 92), some (jb_v l1), some (jb_v l2), some (jb_v (x1.2)), some (jb_v x10), some (jb_v x14)] [] σ29 Q
      cases h30
      exact jw_vret jM181 jq181_80 (k σ29 s29)
-- 182 looksAtRoot need 7
def fo182_5 : Nat → jg_G → Option (jg_G × Int)
  | 0, _ => none
  | m + 1, G => if G 92 7 = 0 then (if 0 ≤ (0 : Int) ∧ (0 : Int) < 24 then jo_l (fr_ro G (0 : Int)) fun x3 => if 0 ≤ (67 * x3) ∧ (67 * x3) < 305118 then if G 93 (67 * x3) = 2 then (jo_l (fr_ro G (0 : Int)) fun x7 => if 0 ≤ ((67 * x7) + 2) ∧ ((67 * x7) + 2) < 305118 then if G 93 ((67 * x7) + 2) = 1 then (jo_l (fr_ro G (0 : Int)) fun x11 => if 0 ≤ (((67 * x11) + 4) + ((2 : Int) * 0)) ∧ (((67 * x11) + 4) + ((2 : Int) * 0)) < 305118 then (fo168 G (G 93 (((67 * x11) + 4) + ((2 : Int) * 0)))).bind fun x14 => if (x14.1) 92 7 = 0 then ((fo171 (x14.1) 7 0 (G 93 (((67 * x11) + 4) + ((2 : Int) * 0))) (-1)).bind fun x19 => if 0 ≤ (G 93 (((67 * x11) + 4) + ((2 : Int) * 0))) ∧ (G 93 (((67 * x11) + 4) + ((2 : Int) * 0))) < 24 then jo_l (fr_ro (x19.1) (G 93 (((67 * x11) + 4) + ((2 : Int) * 0)))) fun x22 => if 1 ≤ (x19.2) ∧ (x19.2) < 1501 then if 0 ≤ (x19.1) 105 (x19.2) ∧ (x19.1) 105 (x19.2) ≤ 3 then jo_l (fr_ri (x19.1) (x19.2) (0 : Int)) fun x26 => if 0 ≤ x22 ∧ x22 < 4554 then if 0 ≤ x26 ∧ x26 < 4554 then if 0 ≤ (fr_copies (x19.1) x22 x26) 105 (x19.2) ∧ (fr_copies (x19.1) x22 x26) 105 (x19.2) ≤ 3 then jo_l (fr_ri (fr_copies (x19.1) x22 x26) (x19.2) (G 93 (((67 * x11) + 4) + ((2 : Int) * 0)))) fun x32 => if 0 ≤ x32 ∧ x32 < 4554 then (fo174 (fr_empties (fr_copies (x19.1) x22 x26) x32 (0 : Int)) (x19.2)).bind fun x36 => (fo168 (x36.1) 0).bind fun x38 => fo182_5 m (x38.1)  else none else none else none else none else none else none else none) else ((fo168 (x14.1) 0).bind fun x17 => fo182_5 m (x17.1) ) else none) else (some (G, 0)) else none) else (some (G, 0)) else none else none) else (some (G, 0))
theorem jf182_5 {d : Nat} {σ0 : ib_H} {Q : ib_O → Prop} : ∀ (m : Nat) {G : jg_G} {o1 : Option Value} {o2 : Option Value} {r : jg_G × Int} (h : fo182_5 m G  = some r) (k : ∀ σ, jg_S σ0 r.1 σ → Q (.inl none, σ)), jg_W σ0 G (d + 7) 182 5 [some (.ref 92), o1, o2] [] Q := by
  intro m
  induction m with
  | zero =>
    intro G o1 o2 r h k
    cases h
  | succ m ih =>
    intro G o1 o2 r h k σ s
    unfold fo182_5 at h
    refine jaL0 (p := 6) rfl jM182 jq182_5 ?_
    refine jg_getI (p := 9) (i := 7) rfl jM182 jq182_6 rfl (jo_92 s.1) jn_11_7 s (by decide) (by decide) rfl ?_
    refine jw_if (p := 12) rfl jM182 jq182_9 (jc_ne (s.r _ _) jb_r0) (fun c1 => ?_) (fun c1 => ?_)
    · have h1 := jo_n c1 h
      cases h1
      exact jw_vret jM182 jq182_110 (k σ s)
    · have h1 := jo_p (Decidable.byContradiction c1) h
      refine jaL0 (p := 13) rfl jM182 jq182_12 ?_
      refine jaL0 (p := 14) rfl jM182 jq182_13 ?_
      refine jw_iconst (p := 15) rfl jM182 jq182_14 ?_
      refine jw_callV [(jb_v 0)] jM182 jq182_15 rfl rfl (jo_92 s.1) rfl jM161 rfl rfl ?_
      obtain ⟨c2, h2⟩ := jo_i h1
      obtain ⟨x3, e4, h4⟩ := jo_lb h2
      refine cs161 c2 (fun σ3 s3 r3 => ?_) σ s
      rw [e4] at r3 ⊢
      show jb_w (d + 7) 182 18 [some (.ref 92), o1, o2] [(jb_v x3), (.ref 92)] σ3 Q
      refine jw_callV [(jb_v x3)] jM182 jq182_18 rfl rfl (jo_92 s3.1) rfl jM149 rfl rfl ?_
      show jb_w (d + 6) 149 0 [some (.ref 92), some (jb_v x3)] [] σ3 (jb_k (d + 7) 182 18 [some (.ref 92), o1, o2] [] Q)
      refine jaL0 (p := 1) rfl jM149 jq149_0 ?_
      refine jw_getP (p := 4) (i := 1) (q := 93) rfl jM149 jq149_1 rfl (jo_92 s3.1) je_11_1 (jp_92_1 s3.1) ?_
      refine jw_bipush (p := 6) rfl jM149 jq149_4 (by decide) ?_
      refine jiL1 (p := 7) rfl jM149 jq149_6 ?_
      refine jw_imul (p := 8) rfl jM149 jq149_7 ?_
      obtain ⟨c5, h5⟩ := jo_i h4
      refine jg_iald (p := 9) rfl jM149 jq149_8 (ja_93 s3.1) c5.1 c5.2 s3 (by decide) rfl ?_
      refine jw_iret jM149 jq149_9 (fun z => absurd z (by decide)) ?_
      show jb_w (d + 7) 182 21 [some (.ref 92), o1, o2] [(jb_v (G 93 (67 * x3)))] σ3 Q
      refine jw_iconst (p := 22) rfl jM182 jq182_21 ?_
      refine jw_ic (p := 25) rfl jM182 jq182_22 (jc_ne (s.r _ _) (jb_rn rfl)) (fun c6 => ?_) (fun c6 => ?_)
      · have h6 := jo_n c6 h5
        cases h6
        exact jw_vret jM182 jq182_110 (k σ3 s3)
      · have h6 := jo_p (Decidable.byContradiction c6) h5
        refine jaL0 (p := 26) rfl jM182 jq182_25 ?_
        refine jaL0 (p := 27) rfl jM182 jq182_26 ?_
        refine jw_iconst (p := 28) rfl jM182 jq182_27 ?_
        refine jw_callV [(jb_v 0)] jM182 jq182_28 rfl rfl (jo_92 s3.1) rfl jM161 rfl rfl ?_
        obtain ⟨x7, e8, h8⟩ := jo_lb h6
        refine cs161 c2 (fun σ7 s7 r7 => ?_) σ3 s3
        rw [e8] at r7 ⊢
        show jb_w (d + 7) 182 31 [some (.ref 92), o1, o2] [(jb_v x7), (.ref 92)] σ7 Q
        refine jw_callV [(jb_v x7)] jM182 jq182_31 rfl rfl (jo_92 s7.1) rfl jM150 rfl rfl ?_
        show jb_w (d + 6) 150 0 [some (.ref 92), some (jb_v x7)] [] σ7 (jb_k (d + 7) 182 31 [some (.ref 92), o1, o2] [] Q)
        refine jaL0 (p := 1) rfl jM150 jq150_0 ?_
        refine jw_getP (p := 4) (i := 1) (q := 93) rfl jM150 jq150_1 rfl (jo_92 s7.1) je_11_1 (jp_92_1 s7.1) ?_
        refine jw_bipush (p := 6) rfl jM150 jq150_4 (by decide) ?_
        refine jiL1 (p := 7) rfl jM150 jq150_6 ?_
        refine jw_imul (p := 8) rfl jM150 jq150_7 ?_
        refine jw_iconst (p := 9) rfl jM150 jq150_8 ?_
        refine jw_iadd (p := 10) rfl jM150 jq150_9 ?_
        obtain ⟨c9, h9⟩ := jo_i h8
        refine jg_iald (p := 11) rfl jM150 jq150_10 (ja_93 s7.1) c9.1 c9.2 s7 (by decide) rfl ?_
        refine jw_iret jM150 jq150_11 (fun z => absurd z (by decide)) ?_
        show jb_w (d + 7) 182 34 [some (.ref 92), o1, o2] [(jb_v (G 93 ((67 * x7) + 2)))] σ7 Q
        refine jw_iconst (p := 35) rfl jM182 jq182_34 ?_
        refine jw_ic (p := 38) rfl jM182 jq182_35 (jc_ne (s.r _ _) (jb_rn rfl)) (fun c10 => ?_) (fun c10 => ?_)
        · have h10 := jo_n c10 h9
          cases h10
          exact jw_vret jM182 jq182_110 (k σ7 s7)
        · have h10 := jo_p (Decidable.byContradiction c10) h9
          refine jaL0 (p := 39) rfl jM182 jq182_38 ?_
          refine jaL0 (p := 40) rfl jM182 jq182_39 ?_
          refine jw_iconst (p := 41) rfl jM182 jq182_40 ?_
          refine jw_callV [(jb_v 0)] jM182 jq182_41 rfl rfl (jo_92 s7.1) rfl jM161 rfl rfl ?_
          obtain ⟨x11, e12, h12⟩ := jo_lb h10
          refine cs161 c2 (fun σ11 s11 r11 => ?_) σ7 s7
          rw [e12] at r11 ⊢
          show jb_w (d + 7) 182 44 [some (.ref 92), o1, o2] [(jb_v x11), (.ref 92)] σ11 Q
          refine jw_iconst (p := 45) rfl jM182 jq182_44 ?_
          refine jw_callV [(jb_v x11), (jb_v 0)] jM182 jq182_45 rfl rfl (jo_92 s11.1) rfl jM152 rfl rfl ?_
          show jb_w (d + 6) 152 0 [some (.ref 92), some (jb_v x11), some (jb_v 0)] [] σ11 (jb_k (d + 7) 182 45 [some (.ref 92), o1, o2] [] Q)
          refine jaL0 (p := 1) rfl jM152 jq152_0 ?_
          refine jw_getP (p := 4) (i := 1) (q := 93) rfl jM152 jq152_1 rfl (jo_92 s11.1) je_11_1 (jp_92_1 s11.1) ?_
          refine jw_bipush (p := 6) rfl jM152 jq152_4 (by decide) ?_
          refine jiL1 (p := 7) rfl jM152 jq152_6 ?_
          refine jw_imul (p := 8) rfl jM152 jq152_7 ?_
          refine jw_iconst (p := 9) rfl jM152 jq152_8 ?_
          refine jw_iadd (p := 10) rfl jM152 jq152_9 ?_
          refine jw_iconst (p := 11) rfl jM152 jq152_10 ?_
          refine jiL2 (p := 12) rfl jM152 jq152_11 ?_
          refine jw_imul (p := 13) rfl jM152 jq152_12 ?_
          refine jw_iadd (p := 14) rfl jM152 jq152_13 ?_
          obtain ⟨c13, h13⟩ := jo_i h12
          refine jg_iald (p := 15) rfl jM152 jq152_14 (ja_93 s11.1) c13.1 c13.2 s11 (by decide) rfl ?_
          refine jw_iret jM152 jq152_15 (fun z => absurd z (by decide)) ?_
          show jb_w (d + 7) 182 48 [some (.ref 92), o1, o2] [(jb_v (G 93 (((67 * x11) + 4) + ((2 : Int) * 0))))] σ11 Q
          refine jiS1 (p := 49) rfl jM182 jq182_48 ?_
          refine jaL0 (p := 50) rfl jM182 jq182_49 ?_
          refine jiL1 (p := 51) rfl jM182 jq182_50 ?_
          refine jw_callV [(jb_v (G 93 (((67 * x11) + 4) + ((2 : Int) * 0))))] jM182 jq182_51 rfl rfl (jo_92 s11.1) rfl jM168 rfl rfl ?_
          obtain ⟨x14, b15, h15⟩ := jo_b h13
          refine jf168 (s.r _ _) b15 (fun σ14 s14 => ?_) σ11 s11
          show jb_w (d + 7) 182 54 [some (.ref 92), some (jb_v (G 93 (((67 * x11) + 4) + ((2 : Int) * 0)))), o2] [] σ14 Q
          refine jaL0 (p := 55) rfl jM182 jq182_54 ?_
          refine jg_getI (p := 58) (i := 7) rfl jM182 jq182_55 rfl (jo_92 s14.1) jn_11_7 s14 (by decide) (by decide) rfl ?_
          refine jw_if (p := 61) rfl jM182 jq182_58 (jc_ne (s14.r _ _) jb_r0) (fun c16 => ?_) (fun c16 => ?_)
          · have h16 := jo_n c16 h15
            refine jaL0 (p := 103) rfl jM182 jq182_102 ?_
            refine jw_iconst (p := 104) rfl jM182 jq182_103 ?_
            refine jw_callV [(jb_v 0)] jM182 jq182_104 rfl rfl (jo_92 s14.1) rfl jM168 rfl rfl ?_
            obtain ⟨x17, b18, h18⟩ := jo_b h16
            refine jf168 (jb_rn rfl) b18 (fun σ17 s17 => ?_) σ14 s14
            show jb_w (d + 7) 182 107 [some (.ref 92), some (jb_v (G 93 (((67 * x11) + 4) + ((2 : Int) * 0)))), o2] [] σ17 Q
            refine jw_goto jM182 jq182_107 ?_
            exact ih  h18 k σ17 s17
          · have h16 := jo_p (Decidable.byContradiction c16) h15
            refine jaL0 (p := 62) rfl jM182 jq182_61 ?_
            refine jw_bipush (p := 64) rfl jM182 jq182_62 (by decide) ?_
            refine jw_iconst (p := 65) rfl jM182 jq182_64 ?_
            refine jiL1 (p := 66) rfl jM182 jq182_65 ?_
            refine jw_iconst (p := 67) rfl jM182 jq182_66 ?_
            refine jw_callV [(jb_v 7), (jb_v 0), (jb_v (G 93 (((67 * x11) + 4) + ((2 : Int) * 0)))), (jb_v (-1))] jM182 jq182_67 rfl rfl (jo_92 s14.1) rfl jM171 rfl rfl ?_
            obtain ⟨x19, b20, h20⟩ := jo_b h16
            refine jf171 (jb_rn rfl) (jb_rn rfl) (s.r _ _) (jb_rn rfl) b20 (fun σ19 s19 r19 => ?_) σ14 s14
            show jb_w (d + 7) 182 70 [some (.ref 92), some (jb_v (G 93 (((67 * x11) + 4) + ((2 : Int) * 0)))), o2] [(jb_v (x19.2))] σ19 Q
            refine jiS2 (p := 71) rfl jM182 jq182_70 ?_
            refine jaL0 (p := 72) rfl jM182 jq182_71 ?_
            refine jaL0 (p := 73) rfl jM182 jq182_72 ?_
            refine jiL1 (p := 74) rfl jM182 jq182_73 ?_
            refine jw_callV [(jb_v (G 93 (((67 * x11) + 4) + ((2 : Int) * 0))))] jM182 jq182_74 rfl rfl (jo_92 s19.1) rfl jM161 rfl rfl ?_
            obtain ⟨c21, h21⟩ := jo_i h20
            obtain ⟨x22, e23, h23⟩ := jo_lb h21
            refine cs161 c21 (fun σ22 s22 r22 => ?_) σ19 s19
            rw [e23] at r22 ⊢
            show jb_w (d + 7) 182 77 [some (.ref 92), some (jb_v (G 93 (((67 * x11) + 4) + ((2 : Int) * 0)))), some (jb_v (x19.2))] [(jb_v x22), (.ref 92)] σ22 Q
            refine jaL0 (p := 78) rfl jM182 jq182_77 ?_
            refine jiL2 (p := 79) rfl jM182 jq182_78 ?_
            refine jw_iconst (p := 80) rfl jM182 jq182_79 ?_
            refine jw_callV [(jb_v (x19.2)), (jb_v 0)] jM182 jq182_80 rfl rfl (jo_92 s22.1) rfl jM172 rfl rfl ?_
            obtain ⟨c24, h24⟩ := jo_i h23
            obtain ⟨c25, h25⟩ := jo_i h24
            obtain ⟨x26, e27, h27⟩ := jo_lb h25
            refine cs172 c24 c25 (jb_rn rfl) (fun σ26 s26 r26 => ?_) σ22 s22
            rw [e27] at r26 ⊢
            show jb_w (d + 7) 182 83 [some (.ref 92), some (jb_v (G 93 (((67 * x11) + 4) + ((2 : Int) * 0)))), some (jb_v (x19.2))] [(jb_v x26), (jb_v x22), (.ref 92)] σ26 Q
            refine jw_callV [(jb_v x22), (jb_v x26)] jM182 jq182_83 rfl rfl (jo_92 s26.1) rfl jM148 rfl rfl ?_
            obtain ⟨c28, h28⟩ := jo_i h27
            obtain ⟨c29, h29⟩ := jo_i h28
            refine cs148 c28 c29 (fun σ30 s30 => ?_) σ26 s26
            show jb_w (d + 7) 182 86 [some (.ref 92), some (jb_v (G 93 (((67 * x11) + 4) + ((2 : Int) * 0)))), some (jb_v (x19.2))] [] σ30 Q
            refine jaL0 (p := 87) rfl jM182 jq182_86 ?_
            refine jaL0 (p := 88) rfl jM182 jq182_87 ?_
            refine jiL2 (p := 89) rfl jM182 jq182_88 ?_
            refine jiL1 (p := 90) rfl jM182 jq182_89 ?_
            refine jw_callV [(jb_v (x19.2)), (jb_v (G 93 (((67 * x11) + 4) + ((2 : Int) * 0))))] jM182 jq182_90 rfl rfl (jo_92 s30.1) rfl jM172 rfl rfl ?_
            obtain ⟨c31, h31⟩ := jo_i h29
            obtain ⟨x32, e33, h33⟩ := jo_lb h31
            refine cs172 c24 c31 (s.r _ _) (fun σ32 s32 r32 => ?_) σ30 s30
            rw [e33] at r32 ⊢
            show jb_w (d + 7) 182 93 [some (.ref 92), some (jb_v (G 93 (((67 * x11) + 4) + ((2 : Int) * 0)))), some (jb_v (x19.2))] [(jb_v x32), (.ref 92)] σ32 Q
            refine jw_iconst (p := 94) rfl jM182 jq182_93 ?_
            refine jw_callV [(jb_v x32), (jb_v 0)] jM182 jq182_94 rfl rfl (jo_92 s32.1) rfl jM154 rfl rfl ?_
            obtain ⟨c34, h34⟩ := jo_i h33
            refine cs154 c34 (jb_rn rfl) (fun σ35 s35 => ?_) σ32 s32
            show jb_w (d + 7) 182 97 [some (.ref 92), some (jb_v (G 93 (((67 * x11) + 4) + ((2 : Int) * 0)))), some (jb_v (x19.2))] [] σ35 Q
            refine jaL0 (p := 98) rfl jM182 jq182_97 ?_
            refine jiL2 (p := 99) rfl jM182 jq182_98 ?_
            refine jw_callV [(jb_v (x19.2))] jM182 jq182_99 rfl rfl (jo_92 s35.1) rfl jM174 rfl rfl ?_
            obtain ⟨x36, b37, h37⟩ := jo_b h34
            refine jf174 r19 b37 (fun σ36 s36 => ?_) σ35 s35
            show jb_w (d + 7) 182 102 [some (.ref 92), some (jb_v (G 93 (((67 * x11) + 4) + ((2 : Int) * 0)))), some (jb_v (x19.2))] [] σ36 Q
            refine jaL0 (p := 103) rfl jM182 jq182_102 ?_
            refine jw_iconst (p := 104) rfl jM182 jq182_103 ?_
            refine jw_callV [(jb_v 0)] jM182 jq182_104 rfl rfl (jo_92 s36.1) rfl jM168 rfl rfl ?_
            obtain ⟨x38, b39, h39⟩ := jo_b h37
            refine jf168 (jb_rn rfl) b39 (fun σ38 s38 => ?_) σ36 s36
            show jb_w (d + 7) 182 107 [some (.ref 92), some (jb_v (G 93 (((67 * x11) + 4) + ((2 : Int) * 0)))), some (jb_v (x19.2))] [] σ38 Q
            refine jw_goto jM182 jq182_107 ?_
            exact ih  h39 k σ38 s38
def fo182 (G : jg_G) : Option (jg_G × Int) := (fo168 G 0).bind fun x1 => fo182_5 jo_N (x1.1) 
theorem jf182 {d : Nat} {σ0 : ib_H} {Q : ib_O → Prop} {G : jg_G} {r : jg_G × Int} (h : fo182 G  = some r) (k : ∀ σ, jg_S σ0 r.1 σ → Q (.inl none, σ)) : jg_W σ0 G (d + 7) 182 0 [some (.ref 92), none, none] [] Q := by
  intro σ s
  unfold fo182 at h
  refine jaL0 (p := 1) rfl jM182 jq182_0 ?_
  refine jw_iconst (p := 2) rfl jM182 jq182_1 ?_
  refine jw_callV [(jb_v 0)] jM182 jq182_2 rfl rfl (jo_92 s.1) rfl jM168 rfl rfl ?_
  obtain ⟨x1, b2, h2⟩ := jo_b h
  refine jf168 (jb_rn rfl) b2 (fun σ1 s1 => ?_) σ s
  show jb_w (d + 7) 182 5 [some (.ref 92), none, none] [] σ1 Q
  exact jf182_5 jo_N  h2 k σ1 s1
-- 183 shrinks need 8
def fo183_7 : Nat → jg_G → Int → Option (jg_G × Int)
  | 0, _, _ => none
  | m + 1, G, l1 => if G 92 7 = 0 then (if l1 ≤ 0 then (some (G, 0)) else (if 0 ≤ l1 ∧ l1 < 25 then if 0 ≤ (G 112 l1) ∧ (G 112 l1) < 24 then jo_l (fr_ro G (G 112 l1)) fun x5 => if 0 ≤ ((67 * x5) + 2) ∧ ((67 * x5) + 2) < 305118 then if G 93 ((67 * x5) + 2) = 0 then (if 0 ≤ (l1 - 1) ∧ (l1 - 1) < 25 then (fo181 G (G 112 l1) (G 112 (l1 - 1))).bind fun x10 => if (x10.1) 92 7 = 0 then ((fo182 (x10.1) ).bind fun x14 => if -2147483648 ≤ (l1 + (-1)) ∧ (l1 + (-1)) < 2147483648 then fo183_7 m (x14.1) (l1 + (-1)) else none) else (if -2147483648 ≤ (l1 + (-1)) ∧ (l1 + (-1)) < 2147483648 then fo183_7 m (x10.1) (l1 + (-1)) else none) else none) else (some (G, 0)) else none else none else none)) else (some (G, 0))
theorem jf183_7 {d : Nat} {σ0 : ib_H} {Q : ib_O → Prop} : ∀ (m : Nat) {G : jg_G} {l1 : Int} (hl1 : jb_r l1) {r : jg_G × Int} (h : fo183_7 m G l1 = some r) (k : ∀ σ, jg_S σ0 r.1 σ → Q (.inl none, σ)), jg_W σ0 G (d + 8) 183 7 [some (.ref 92), some (jb_v l1)] [] Q := by
  intro m
  induction m with
  | zero =>
    intro G l1 hl1 r h k
    cases h
  | succ m ih =>
    intro G l1 hl1 r h k σ s
    unfold fo183_7 at h
    refine jaL0 (p := 8) rfl jM183 jq183_7 ?_
    refine jg_getI (p := 11) (i := 7) rfl jM183 jq183_8 rfl (jo_92 s.1) jn_11_7 s (by decide) (by decide) rfl ?_
    refine jw_if (p := 14) rfl jM183 jq183_11 (jc_ne (s.r _ _) jb_r0) (fun c1 => ?_) (fun c1 => ?_)
    · have h1 := jo_n c1 h
      cases h1
      exact jw_vret jM183 jq183_70 (k σ s)
    · have h1 := jo_p (Decidable.byContradiction c1) h
      refine jiL1 (p := 15) rfl jM183 jq183_14 ?_
      refine jw_if (p := 18) rfl jM183 jq183_15 (jc_le hl1 jb_r0) (fun c2 => ?_) (fun c2 => ?_)
      · have h2 := jo_p c2 h1
        cases h2
        exact jw_vret jM183 jq183_70 (k σ s)
      · have h2 := jo_n c2 h1
        refine jaL0 (p := 19) rfl jM183 jq183_18 ?_
        refine jaL0 (p := 20) rfl jM183 jq183_19 ?_
        refine jaL0 (p := 21) rfl jM183 jq183_20 ?_
        refine jw_getP (p := 24) (i := 28) (q := 112) rfl jM183 jq183_21 rfl (jo_92 s.1) je_11_28 (jp_92_28 s.1) ?_
        refine jiL1 (p := 25) rfl jM183 jq183_24 ?_
        obtain ⟨c3, h3⟩ := jo_i h2
        refine jg_iald (p := 26) rfl jM183 jq183_25 (ja_112 s.1) c3.1 c3.2 s (by decide) rfl ?_
        refine jw_callV [(jb_v (G 112 l1))] jM183 jq183_26 rfl rfl (jo_92 s.1) rfl jM161 rfl rfl ?_
        obtain ⟨c4, h4⟩ := jo_i h3
        obtain ⟨x5, e6, h6⟩ := jo_lb h4
        refine cs161 c4 (fun σ5 s5 r5 => ?_) σ s
        rw [e6] at r5 ⊢
        show jb_w (d + 8) 183 29 [some (.ref 92), some (jb_v l1)] [(jb_v x5), (.ref 92)] σ5 Q
        refine jw_callV [(jb_v x5)] jM183 jq183_29 rfl rfl (jo_92 s5.1) rfl jM150 rfl rfl ?_
        show jb_w (d + 7) 150 0 [some (.ref 92), some (jb_v x5)] [] σ5 (jb_k (d + 8) 183 29 [some (.ref 92), some (jb_v l1)] [] Q)
        refine jaL0 (p := 1) rfl jM150 jq150_0 ?_
        refine jw_getP (p := 4) (i := 1) (q := 93) rfl jM150 jq150_1 rfl (jo_92 s5.1) je_11_1 (jp_92_1 s5.1) ?_
        refine jw_bipush (p := 6) rfl jM150 jq150_4 (by decide) ?_
        refine jiL1 (p := 7) rfl jM150 jq150_6 ?_
        refine jw_imul (p := 8) rfl jM150 jq150_7 ?_
        refine jw_iconst (p := 9) rfl jM150 jq150_8 ?_
        refine jw_iadd (p := 10) rfl jM150 jq150_9 ?_
        obtain ⟨c7, h7⟩ := jo_i h6
        refine jg_iald (p := 11) rfl jM150 jq150_10 (ja_93 s5.1) c7.1 c7.2 s5 (by decide) rfl ?_
        refine jw_iret jM150 jq150_11 (fun z => absurd z (by decide)) ?_
        show jb_w (d + 8) 183 32 [some (.ref 92), some (jb_v l1)] [(jb_v (G 93 ((67 * x5) + 2)))] σ5 Q
        refine jw_if (p := 35) rfl jM183 jq183_32 (jc_ne (s.r _ _) jb_r0) (fun c8 => ?_) (fun c8 => ?_)
        · have h8 := jo_n c8 h7
          cases h8
          exact jw_vret jM183 jq183_70 (k σ5 s5)
        · have h8 := jo_p (Decidable.byContradiction c8) h7
          refine jaL0 (p := 36) rfl jM183 jq183_35 ?_
          refine jaL0 (p := 37) rfl jM183 jq183_36 ?_
          refine jw_getP (p := 40) (i := 28) (q := 112) rfl jM183 jq183_37 rfl (jo_92 s5.1) je_11_28 (jp_92_28 s5.1) ?_
          refine jiL1 (p := 41) rfl jM183 jq183_40 ?_
          refine jg_iald (p := 42) rfl jM183 jq183_41 (ja_112 s5.1) c3.1 c3.2 s5 (by decide) rfl ?_
          refine jaL0 (p := 43) rfl jM183 jq183_42 ?_
          refine jw_getP (p := 46) (i := 28) (q := 112) rfl jM183 jq183_43 rfl (jo_92 s5.1) je_11_28 (jp_92_28 s5.1) ?_
          refine jiL1 (p := 47) rfl jM183 jq183_46 ?_
          refine jw_iconst (p := 48) rfl jM183 jq183_47 ?_
          refine jw_isub (p := 49) rfl jM183 jq183_48 ?_
          obtain ⟨c9, h9⟩ := jo_i h8
          refine jg_iald (p := 50) rfl jM183 jq183_49 (ja_112 s5.1) c9.1 c9.2 s5 (by decide) rfl ?_
          refine jw_callV [(jb_v (G 112 l1)), (jb_v (G 112 (l1 - 1)))] jM183 jq183_50 rfl rfl (jo_92 s5.1) rfl jM181 rfl rfl ?_
          obtain ⟨x10, b11, h11⟩ := jo_b h9
          refine jf181 (s.r _ _) (s.r _ _) b11 (fun σ10 s10 => ?_) σ5 s5
          show jb_w (d + 8) 183 53 [some (.ref 92), some (jb_v l1)] [] σ10 Q
          refine jaL0 (p := 54) rfl jM183 jq183_53 ?_
          refine jg_getI (p := 57) (i := 7) rfl jM183 jq183_54 rfl (jo_92 s10.1) jn_11_7 s10 (by decide) (by decide) rfl ?_
          refine jw_if (p := 60) rfl jM183 jq183_57 (jc_ne (s10.r _ _) jb_r0) (fun c12 => ?_) (fun c12 => ?_)
          · have h12 := jo_n c12 h11
            refine jiI1 (p := 67) rfl jM183 jq183_64 ?_
            refine jw_goto jM183 jq183_67 ?_
            obtain ⟨c13, h13⟩ := jo_i h12
            exact ih c13 h13 k σ10 s10
          · have h12 := jo_p (Decidable.byContradiction c12) h11
            refine jaL0 (p := 61) rfl jM183 jq183_60 ?_
            refine jw_callV [] jM183 jq183_61 rfl rfl (jo_92 s10.1) rfl jM182 rfl rfl ?_
            obtain ⟨x14, b15, h15⟩ := jo_b h12
            refine jf182  b15 (fun σ14 s14 => ?_) σ10 s10
            show jb_w (d + 8) 183 64 [some (.ref 92), some (jb_v l1)] [] σ14 Q
            refine jiI1 (p := 67) rfl jM183 jq183_64 ?_
            refine jw_goto jM183 jq183_67 ?_
            obtain ⟨c16, h16⟩ := jo_i h15
            exact ih c16 h16 k σ14 s14
def fo183 (G : jg_G) : Option (jg_G × Int) := if -2147483648 ≤ ((G 92 29) - 1) ∧ ((G 92 29) - 1) < 2147483648 then fo183_7 jo_N G ((G 92 29) - 1) else none
theorem jf183 {d : Nat} {σ0 : ib_H} {Q : ib_O → Prop} {G : jg_G} {r : jg_G × Int} (h : fo183 G  = some r) (k : ∀ σ, jg_S σ0 r.1 σ → Q (.inl none, σ)) : jg_W σ0 G (d + 8) 183 0 [some (.ref 92), none] [] Q := by
  intro σ s
  unfold fo183 at h
  refine jaL0 (p := 1) rfl jM183 jq183_0 ?_
  refine jg_getI (p := 4) (i := 29) rfl jM183 jq183_1 rfl (jo_92 s.1) jn_11_29 s (by decide) (by decide) rfl ?_
  refine jw_iconst (p := 5) rfl jM183 jq183_4 ?_
  refine jw_isub (p := 6) rfl jM183 jq183_5 ?_
  refine jiS1 (p := 7) rfl jM183 jq183_6 ?_
  obtain ⟨c1, h1⟩ := jo_i h
  exact jf183_7 jo_N c1 h1 k σ s
-- 186 undoes need 9
def fo186 (G : jg_G) (l1 : Int) (l2 : Int) : Option (jg_G × Int) := if 0 ≤ l2 ∧ l2 < 1501 then (fo175 G (G 101 l2)).bind fun x2 => if (x2.1) 92 7 = 0 then (if 0 ≤ (((x2.1) 92 29) - 1) ∧ (((x2.1) 92 29) - 1) < 25 then if 0 ≤ ((x2.1) 112 (((x2.1) 92 29) - 1)) ∧ ((x2.1) 112 (((x2.1) 92 29) - 1)) < 24 then jo_l (fr_ro (x2.1) ((x2.1) 112 (((x2.1) 92 29) - 1))) fun x7 => if 0 ≤ x7 ∧ x7 < 4554 then if 0 ≤ (x2.1) 93 (67 * x7 + 2) ∧ (x2.1) 93 (67 * x7 + 2) ≤ 32 then jo_l (fr_pl (x2.1) x7 ((x2.1) 101 l2)) fun x11 => if 0 ≤ (x2.1) 92 12 ∧ (x2.1) 92 12 < 1500 then if -1 ≤ l1 ∧ l1 < 4 then jo_l ((x2.1) 92 12 + 1) fun x15 => if 0 ≤ x15 ∧ x15 < 1501 then if x11 < 0 then (if 0 ≤ (3 * x15) ∧ (3 * x15) < 4503 then (fo174 (jg_u (jg_u (jg_u (jg_u (jg_u (jg_u (fr_no (x2.1) (1 : Int) l1) 101 x15 ((fr_no (x2.1) (1 : Int) l1) 101 l2)) 102 x15 (-1)) 103 x15 ((jg_u (jg_u (fr_no (x2.1) (1 : Int) l1) 101 x15 ((fr_no (x2.1) (1 : Int) l1) 101 l2)) 102 x15 (-1)) 102 l2)) 104 x15 l2) 106 (3 * x15) ((x2.1) 112 (((x2.1) 92 29) - 1))) 105 x15 1) x15).bind fun x26 => (fo183 (x26.1) ).bind fun x28 => some (x28.1, 0) else none) else (jo_l (fr_ro (jg_u (fr_no (x2.1) (1 : Int) l1) 101 x15 ((fr_no (x2.1) (1 : Int) l1) 101 l2)) ((x2.1) 112 (((x2.1) 92 29) - 1))) fun x30 => if 0 ≤ (((67 * x30) + 4) + (2 * x11)) ∧ (((67 * x30) + 4) + (2 * x11)) < 305118 then if 0 ≤ (3 * x15) ∧ (3 * x15) < 4503 then (fo174 (jg_u (jg_u (jg_u (jg_u (jg_u (jg_u (fr_no (x2.1) (1 : Int) l1) 101 x15 ((fr_no (x2.1) (1 : Int) l1) 101 l2)) 102 x15 ((fr_no (x2.1) (1 : Int) l1) 93 (((67 * x30) + 4) + (2 * x11)))) 103 x15 ((jg_u (jg_u (fr_no (x2.1) (1 : Int) l1) 101 x15 ((fr_no (x2.1) (1 : Int) l1) 101 l2)) 102 x15 ((fr_no (x2.1) (1 : Int) l1) 93 (((67 * x30) + 4) + (2 * x11)))) 102 l2)) 104 x15 l2) 106 (3 * x15) ((x2.1) 112 (((x2.1) 92 29) - 1))) 105 x15 1) x15).bind fun x39 => (fo183 (x39.1) ).bind fun x41 => some (x41.1, 0) else none else none) else none else none else none else none else none else none else none) else (some (x2.1, 0)) else none
theorem jf186 {d : Nat} {σ0 : ib_H} {Q : ib_O → Prop} {G : jg_G} {l1 : Int} {l2 : Int} (hl1 : jb_r l1) (hl2 : jb_r l2) {r : jg_G × Int} (h : fo186 G l1 l2 = some r) (k : ∀ σ, jg_S σ0 r.1 σ → Q (.inl none, σ)) : jg_W σ0 G (d + 9) 186 0 [some (.ref 92), some (jb_v l1), some (jb_v l2), none, none, none] [] Q := by
  intro σ s
  unfold fo186 at h
  refine jaL0 (p := 1) rfl jM186 jq186_0 ?_
  refine jaL0 (p := 2) rfl jM186 jq186_1 ?_
  refine jw_getP (p := 5) (i := 17) (q := 101) rfl jM186 jq186_2 rfl (jo_92 s.1) je_11_17 (jp_92_17 s.1) ?_
  refine jiL2 (p := 6) rfl jM186 jq186_5 ?_
  obtain ⟨c1, h1⟩ := jo_i h
  refine jg_iald (p := 7) rfl jM186 jq186_6 (ja_101 s.1) c1.1 c1.2 s (by decide) rfl ?_
  refine jw_callV [(jb_v (G 101 l2))] jM186 jq186_7 rfl rfl (jo_92 s.1) rfl jM175 rfl rfl ?_
  obtain ⟨x2, b3, h3⟩ := jo_b h1
  refine jf175 (s.r _ _) b3 (fun σ2 s2 => ?_) σ s
  show jb_w (d + 9) 186 10 [some (.ref 92), some (jb_v l1), some (jb_v l2), none, none, none] [] σ2 Q
  refine jaL0 (p := 11) rfl jM186 jq186_10 ?_
  refine jg_getI (p := 14) (i := 7) rfl jM186 jq186_11 rfl (jo_92 s2.1) jn_11_7 s2 (by decide) (by decide) rfl ?_
  refine jw_if (p := 17) rfl jM186 jq186_14 (jc_eq (s2.r _ _) jb_r0) (fun c4 => ?_) (fun c4 => ?_)
  · have h4 := jo_p c4 h3
    refine jaL0 (p := 19) rfl jM186 jq186_18 ?_
    refine jw_getP (p := 22) (i := 28) (q := 112) rfl jM186 jq186_19 rfl (jo_92 s2.1) je_11_28 (jp_92_28 s2.1) ?_
    refine jaL0 (p := 23) rfl jM186 jq186_22 ?_
    refine jg_getI (p := 26) (i := 29) rfl jM186 jq186_23 rfl (jo_92 s2.1) jn_11_29 s2 (by decide) (by decide) rfl ?_
    refine jw_iconst (p := 27) rfl jM186 jq186_26 ?_
    refine jw_isub (p := 28) rfl jM186 jq186_27 ?_
    obtain ⟨c5, h5⟩ := jo_i h4
    refine jg_iald (p := 29) rfl jM186 jq186_28 (ja_112 s2.1) c5.1 c5.2 s2 (by decide) rfl ?_
    refine jiS3 (p := 30) rfl jM186 jq186_29 ?_
    refine jaL0 (p := 31) rfl jM186 jq186_30 ?_
    refine jaL0 (p := 32) rfl jM186 jq186_31 ?_
    refine jiL3 (p := 33) rfl jM186 jq186_32 ?_
    refine jw_callV [(jb_v ((x2.1) 112 (((x2.1) 92 29) - 1)))] jM186 jq186_33 rfl rfl (jo_92 s2.1) rfl jM161 rfl rfl ?_
    obtain ⟨c6, h6⟩ := jo_i h5
    obtain ⟨x7, e8, h8⟩ := jo_lb h6
    refine cs161 c6 (fun σ7 s7 r7 => ?_) σ2 s2
    rw [e8] at r7 ⊢
    show jb_w (d + 9) 186 36 [some (.ref 92), some (jb_v l1), some (jb_v l2), some (jb_v ((x2.1) 112 (((x2.1) 92 29) - 1))), none, none] [(jb_v x7), (.ref 92)] σ7 Q
    refine jaL0 (p := 37) rfl jM186 jq186_36 ?_
    refine jw_getP (p := 40) (i := 17) (q := 101) rfl jM186 jq186_37 rfl (jo_92 s7.1) je_11_17 (jp_92_17 s7.1) ?_
    refine jiL2 (p := 41) rfl jM186 jq186_40 ?_
    refine jg_iald (p := 42) rfl jM186 jq186_41 (ja_101 s7.1) c1.1 c1.2 s7 (by decide) rfl ?_
    refine jw_callV [(jb_v x7), (jb_v ((x2.1) 101 l2))] jM186 jq186_42 rfl rfl (jo_92 s7.1) rfl jM158 rfl rfl ?_
    obtain ⟨c9, h9⟩ := jo_i h8
    obtain ⟨c10, h10⟩ := jo_i h9
    obtain ⟨x11, e12, h12⟩ := jo_lb h10
    refine cs158 c9 c10 (s2.r _ _) (fun σ11 s11 r11 => ?_) σ7 s7
    rw [e12] at r11 ⊢
    show jb_w (d + 9) 186 45 [some (.ref 92), some (jb_v l1), some (jb_v l2), some (jb_v ((x2.1) 112 (((x2.1) 92 29) - 1))), none, none] [(jb_v x11)] σ11 Q
    refine jiS4 (p := 47) rfl jM186 jq186_45 ?_
    refine jaL0 (p := 48) rfl jM186 jq186_47 ?_
    refine jw_iconst (p := 49) rfl jM186 jq186_48 ?_
    refine jiL1 (p := 50) rfl jM186 jq186_49 ?_
    refine jw_callV [(jb_v 1), (jb_v l1)] jM186 jq186_50 rfl rfl (jo_92 s11.1) rfl jM169 rfl rfl ?_
    obtain ⟨c13, h13⟩ := jo_i h12
    obtain ⟨c14, h14⟩ := jo_i h13
    obtain ⟨x15, e16, h16⟩ := jo_lb h14
    refine cs169 c13 c14 (jb_rn rfl) (fun σ15 s15 r15 => ?_) σ11 s11
    rw [e16] at r15 ⊢
    show jb_w (d + 9) 186 53 [some (.ref 92), some (jb_v l1), some (jb_v l2), some (jb_v ((x2.1) 112 (((x2.1) 92 29) - 1))), some (jb_v x11), none] [(jb_v x15)] σ15 Q
    refine jiS5 (p := 55) rfl jM186 jq186_53 ?_
    refine jaL0 (p := 56) rfl jM186 jq186_55 ?_
    refine jw_getP (p := 59) (i := 17) (q := 101) rfl jM186 jq186_56 rfl (jo_92 s15.1) je_11_17 (jp_92_17 s15.1) ?_
    refine jiL5 (p := 61) rfl jM186 jq186_59 ?_
    refine jaL0 (p := 62) rfl jM186 jq186_61 ?_
    refine jw_getP (p := 65) (i := 17) (q := 101) rfl jM186 jq186_62 rfl (jo_92 s15.1) je_11_17 (jp_92_17 s15.1) ?_
    refine jiL2 (p := 66) rfl jM186 jq186_65 ?_
    refine jg_iald (p := 67) rfl jM186 jq186_66 (ja_101 s15.1) c1.1 c1.2 s15 (by decide) rfl ?_
    obtain ⟨c17, h17⟩ := jo_i h16
    refine jg_iast (p := 68) rfl jM186 jq186_67 (ja_101 s15.1) c17.1 c17.2 s15 (by decide) (s15.r _ _) ?_
    intro σ18 s18
    refine jaL0 (p := 69) rfl jM186 jq186_68 ?_
    refine jw_getP (p := 72) (i := 18) (q := 102) rfl jM186 jq186_69 rfl (jo_92 s18.1) je_11_18 (jp_92_18 s18.1) ?_
    refine jiL5 (p := 74) rfl jM186 jq186_72 ?_
    refine jiL4 (p := 76) rfl jM186 jq186_74 ?_
    refine jw_if (p := 79) rfl jM186 jq186_76 (jc_lt r11 jb_r0) (fun c19 => ?_) (fun c19 => ?_)
    · have h19 := jo_p c19 h17
      refine jw_iconst (p := 94) rfl jM186 jq186_93 ?_
      refine jg_iast (p := 95) rfl jM186 jq186_94 (ja_102 s18.1) c17.1 c17.2 s18 (by decide) (jb_rn rfl) ?_
      intro σ20 s20
      refine jaL0 (p := 96) rfl jM186 jq186_95 ?_
      refine jw_getP (p := 99) (i := 19) (q := 103) rfl jM186 jq186_96 rfl (jo_92 s20.1) je_11_19 (jp_92_19 s20.1) ?_
      refine jiL5 (p := 101) rfl jM186 jq186_99 ?_
      refine jaL0 (p := 102) rfl jM186 jq186_101 ?_
      refine jw_getP (p := 105) (i := 18) (q := 102) rfl jM186 jq186_102 rfl (jo_92 s20.1) je_11_18 (jp_92_18 s20.1) ?_
      refine jiL2 (p := 106) rfl jM186 jq186_105 ?_
      refine jg_iald (p := 107) rfl jM186 jq186_106 (ja_102 s20.1) c1.1 c1.2 s20 (by decide) rfl ?_
      refine jg_iast (p := 108) rfl jM186 jq186_107 (ja_103 s20.1) c17.1 c17.2 s20 (by decide) (s20.r _ _) ?_
      intro σ21 s21
      refine jaL0 (p := 109) rfl jM186 jq186_108 ?_
      refine jw_getP (p := 112) (i := 20) (q := 104) rfl jM186 jq186_109 rfl (jo_92 s21.1) je_11_20 (jp_92_20 s21.1) ?_
      refine jiL5 (p := 114) rfl jM186 jq186_112 ?_
      refine jiL2 (p := 115) rfl jM186 jq186_114 ?_
      refine jg_iast (p := 116) rfl jM186 jq186_115 (ja_104 s21.1) c17.1 c17.2 s21 (by decide) hl2 ?_
      intro σ22 s22
      refine jaL0 (p := 117) rfl jM186 jq186_116 ?_
      refine jw_getP (p := 120) (i := 22) (q := 106) rfl jM186 jq186_117 rfl (jo_92 s22.1) je_11_22 (jp_92_22 s22.1) ?_
      refine jw_iconst (p := 121) rfl jM186 jq186_120 ?_
      refine jiL5 (p := 123) rfl jM186 jq186_121 ?_
      refine jw_imul (p := 124) rfl jM186 jq186_123 ?_
      refine jiL3 (p := 125) rfl jM186 jq186_124 ?_
      obtain ⟨c23, h23⟩ := jo_i h19
      refine jg_iast (p := 126) rfl jM186 jq186_125 (ja_106 s22.1) c23.1 c23.2 s22 (by decide) (s2.r _ _) ?_
      intro σ24 s24
      refine jaL0 (p := 127) rfl jM186 jq186_126 ?_
      refine jw_getP (p := 130) (i := 21) (q := 105) rfl jM186 jq186_127 rfl (jo_92 s24.1) je_11_21 (jp_92_21 s24.1) ?_
      refine jiL5 (p := 132) rfl jM186 jq186_130 ?_
      refine jw_iconst (p := 133) rfl jM186 jq186_132 ?_
      refine jg_iast (p := 134) rfl jM186 jq186_133 (ja_105 s24.1) c17.1 c17.2 s24 (by decide) (jb_rn rfl) ?_
      intro σ25 s25
      refine jaL0 (p := 135) rfl jM186 jq186_134 ?_
      refine jiL5 (p := 137) rfl jM186 jq186_135 ?_
      refine jw_callV [(jb_v x15)] jM186 jq186_137 rfl rfl (jo_92 s25.1) rfl jM174 rfl rfl ?_
      obtain ⟨x26, b27, h27⟩ := jo_b h23
      refine jf174 r15 b27 (fun σ26 s26 => ?_) σ25 s25
      show jb_w (d + 9) 186 140 [some (.ref 92), some (jb_v l1), some (jb_v l2), some (jb_v ((x2.1) 112 (((x2.1) 92 29) - 1))), some (jb_v x11), some (jb_v x15)] [] σ26 Q
      refine jaL0 (p := 141) rfl jM186 jq186_140 ?_
      refine jw_callV [] jM186 jq186_141 rfl rfl (jo_92 s26.1) rfl jM183 rfl rfl ?_
      obtain ⟨x28, b29, h29⟩ := jo_b h27
      refine jf183  b29 (fun σ28 s28 => ?_) σ26 s26
      show jb_w (d + 9) 186 144 [some (.ref 92), some (jb_v l1), some (jb_v l2), some (jb_v ((x2.1) 112 (((x2.1) 92 29) - 1))), some (jb_v x11), some (jb_v x15)] [] σ28 Q
      cases h29
      exact jw_vret jM186 jq186_144 (k σ28 s28)
    · have h19 := jo_n c19 h17
      refine jaL0 (p := 80) rfl jM186 jq186_79 ?_
      refine jaL0 (p := 81) rfl jM186 jq186_80 ?_
      refine jiL3 (p := 82) rfl jM186 jq186_81 ?_
      refine jw_callV [(jb_v ((x2.1) 112 (((x2.1) 92 29) - 1)))] jM186 jq186_82 rfl rfl (jo_92 s18.1) rfl jM161 rfl rfl ?_
      obtain ⟨x30, e31, h31⟩ := jo_lb h19
      refine cs161 c6 (fun σ30 s30 r30 => ?_) σ18 s18
      rw [e31] at r30 ⊢
      show jb_w (d + 9) 186 85 [some (.ref 92), some (jb_v l1), some (jb_v l2), some (jb_v ((x2.1) 112 (((x2.1) 92 29) - 1))), some (jb_v x11), some (jb_v x15)] [(jb_v x30), (.ref 92), (jb_v x15), (.ref 102)] σ30 Q
      refine jiL4 (p := 87) rfl jM186 jq186_85 ?_
      refine jw_callV [(jb_v x30), (jb_v x11)] jM186 jq186_87 rfl rfl (jo_92 s30.1) rfl jM152 rfl rfl ?_
      show jb_w (d + 8) 152 0 [some (.ref 92), some (jb_v x30), some (jb_v x11)] [] σ30 (jb_k (d + 9) 186 87 [some (.ref 92), some (jb_v l1), some (jb_v l2), some (jb_v ((x2.1) 112 (((x2.1) 92 29) - 1))), some (jb_v x11), some (jb_v x15)] [(jb_v x15), (.ref 102)] Q)
      refine jaL0 (p := 1) rfl jM152 jq152_0 ?_
      refine jw_getP (p := 4) (i := 1) (q := 93) rfl jM152 jq152_1 rfl (jo_92 s30.1) je_11_1 (jp_92_1 s30.1) ?_
      refine jw_bipush (p := 6) rfl jM152 jq152_4 (by decide) ?_
      refine jiL1 (p := 7) rfl jM152 jq152_6 ?_
      refine jw_imul (p := 8) rfl jM152 jq152_7 ?_
      refine jw_iconst (p := 9) rfl jM152 jq152_8 ?_
      refine jw_iadd (p := 10) rfl jM152 jq152_9 ?_
      refine jw_iconst (p := 11) rfl jM152 jq152_10 ?_
      refine jiL2 (p := 12) rfl jM152 jq152_11 ?_
      refine jw_imul (p := 13) rfl jM152 jq152_12 ?_
      refine jw_iadd (p := 14) rfl jM152 jq152_13 ?_
      obtain ⟨c32, h32⟩ := jo_i h31
      refine jg_iald (p := 15) rfl jM152 jq152_14 (ja_93 s30.1) c32.1 c32.2 s30 (by decide) (jg_uN (by decide)) ?_
      refine jw_iret jM152 jq152_15 (fun z => absurd z (by decide)) ?_
      show jb_w (d + 9) 186 90 [some (.ref 92), some (jb_v l1), some (jb_v l2), some (jb_v ((x2.1) 112 (((x2.1) 92 29) - 1))), some (jb_v x11), some (jb_v x15)] [(jb_v ((fr_no (x2.1) (1 : Int) l1) 93 (((67 * x30) + 4) + (2 * x11)))), (jb_v x15), (.ref 102)] σ30 Q
      refine jw_goto jM186 jq186_90 ?_
      refine jg_iast (p := 95) rfl jM186 jq186_94 (ja_102 s30.1) c17.1 c17.2 s30 (by decide) (s15.r _ _) ?_
      intro σ33 s33
      refine jaL0 (p := 96) rfl jM186 jq186_95 ?_
      refine jw_getP (p := 99) (i := 19) (q := 103) rfl jM186 jq186_96 rfl (jo_92 s33.1) je_11_19 (jp_92_19 s33.1) ?_
      refine jiL5 (p := 101) rfl jM186 jq186_99 ?_
      refine jaL0 (p := 102) rfl jM186 jq186_101 ?_
      refine jw_getP (p := 105) (i := 18) (q := 102) rfl jM186 jq186_102 rfl (jo_92 s33.1) je_11_18 (jp_92_18 s33.1) ?_
      refine jiL2 (p := 106) rfl jM186 jq186_105 ?_
      refine jg_iald (p := 107) rfl jM186 jq186_106 (ja_102 s33.1) c1.1 c1.2 s33 (by decide) rfl ?_
      refine jg_iast (p := 108) rfl jM186 jq186_107 (ja_103 s33.1) c17.1 c17.2 s33 (by decide) (s33.r _ _) ?_
      intro σ34 s34
      refine jaL0 (p := 109) rfl jM186 jq186_108 ?_
      refine jw_getP (p := 112) (i := 20) (q := 104) rfl jM186 jq186_109 rfl (jo_92 s34.1) je_11_20 (jp_92_20 s34.1) ?_
      refine jiL5 (p := 114) rfl jM186 jq186_112 ?_
      refine jiL2 (p := 115) rfl jM186 jq186_114 ?_
      refine jg_iast (p := 116) rfl jM186 jq186_115 (ja_104 s34.1) c17.1 c17.2 s34 (by decide) hl2 ?_
      intro σ35 s35
      refine jaL0 (p := 117) rfl jM186 jq186_116 ?_
      refine jw_getP (p := 120) (i := 22) (q := 106) rfl jM186 jq186_117 rfl (jo_92 s35.1) je_11_22 (jp_92_22 s35.1) ?_
      refine jw_iconst (p := 121) rfl jM186 jq186_120 ?_
      refine jiL5 (p := 123) rfl jM186 jq186_121 ?_
      refine jw_imul (p := 124) rfl jM186 jq186_123 ?_
      refine jiL3 (p := 125) rfl jM186 jq186_124 ?_
      obtain ⟨c36, h36⟩ := jo_i h32
      refine jg_iast (p := 126) rfl jM186 jq186_125 (ja_106 s35.1) c36.1 c36.2 s35 (by decide) (s2.r _ _) ?_
      intro σ37 s37
      refine jaL0 (p := 127) rfl jM186 jq186_126 ?_
      refine jw_getP (p := 130) (i := 21) (q := 105) rfl jM186 jq186_127 rfl (jo_92 s37.1) je_11_21 (jp_92_21 s37.1) ?_
      refine jiL5 (p := 132) rfl jM186 jq186_130 ?_
      refine jw_iconst (p := 133) rfl jM186 jq186_132 ?_
      refine jg_iast (p := 134) rfl jM186 jq186_133 (ja_105 s37.1) c17.1 c17.2 s37 (by decide) (jb_rn rfl) ?_
      intro σ38 s38
      refine jaL0 (p := 135) rfl jM186 jq186_134 ?_
      refine jiL5 (p := 137) rfl jM186 jq186_135 ?_
      refine jw_callV [(jb_v x15)] jM186 jq186_137 rfl rfl (jo_92 s38.1) rfl jM174 rfl rfl ?_
      obtain ⟨x39, b40, h40⟩ := jo_b h36
      refine jf174 r15 b40 (fun σ39 s39 => ?_) σ38 s38
      show jb_w (d + 9) 186 140 [some (.ref 92), some (jb_v l1), some (jb_v l2), some (jb_v ((x2.1) 112 (((x2.1) 92 29) - 1))), some (jb_v x11), some (jb_v x15)] [] σ39 Q
      refine jaL0 (p := 141) rfl jM186 jq186_140 ?_
      refine jw_callV [] jM186 jq186_141 rfl rfl (jo_92 s39.1) rfl jM183 rfl rfl ?_
      obtain ⟨x41, b42, h42⟩ := jo_b h40
      refine jf183  b42 (fun σ41 s41 => ?_) σ39 s39
      show jb_w (d + 9) 186 144 [some (.ref 92), some (jb_v l1), some (jb_v l2), some (jb_v ((x2.1) 112 (((x2.1) 92 29) - 1))), some (jb_v x11), some (jb_v x15)] [] σ41 Q
      cases h42
      exact jw_vret jM186 jq186_144 (k σ41 s41)
  · have h4 := jo_n c4 h3
    cases h4
    exact jw_vret jM186 jq186_17 (k σ2 s2)
-- 187 goesBack need 10
def fo187_10 : Nat → jg_G → Int → Int → Int → Int → Option (jg_G × Int)
  | 0, _, _, _, _, _ => none
  | m + 1, G, l1, l2, l3, l4 => if l4 ≤ l2 then (some (G, l3)) else (if G 92 7 = 0 then (if 0 ≤ l4 ∧ l4 < 1501 then if G 98 l4 = 1 then (if 0 ≤ (G 104 l4) ∧ (G 104 l4) < 1501 then if G 98 l4 = 0 then ((fo186 G l1 l4).bind fun x11 => if -2147483648 ≤ (l3 + 1) ∧ (l3 + 1) < 2147483648 then fo187_10 m (x11.1) l1 l2 (l3 + 1) (G 100 (G 104 l4)) else none) else (fo187_10 m G l1 l2 l3 (G 100 (G 104 l4))) else none) else (if G 98 l4 = 0 then ((fo186 G l1 l4).bind fun x6 => if -2147483648 ≤ (l3 + 1) ∧ (l3 + 1) < 2147483648 then fo187_10 m (x6.1) l1 l2 (l3 + 1) (G 100 l4) else none) else (fo187_10 m G l1 l2 l3 (G 100 l4))) else none) else (some (G, l3)))
theorem jf187_10 {d : Nat} {σ0 : ib_H} {Q : ib_O → Prop} : ∀ (m : Nat) {G : jg_G} {l1 : Int} {l2 : Int} {l3 : Int} {l4 : Int} {o5 : Option Value} (hl1 : jb_r l1) (hl2 : jb_r l2) (hl3 : jb_r l3) (hl4 : jb_r l4) {r : jg_G × Int} (h : fo187_10 m G l1 l2 l3 l4 = some r) (k : ∀ σ, jg_S σ0 r.1 σ → jb_r r.2 → Q (.inl (some (jb_v r.2)), σ)), jg_W σ0 G (d + 10) 187 10 [some (.ref 92), some (jb_v l1), some (jb_v l2), some (jb_v l3), some (jb_v l4), o5] [] Q := by
  intro m
  induction m with
  | zero =>
    intro G l1 l2 l3 l4 o5 hl1 hl2 hl3 hl4 r h k
    cases h
  | succ m ih =>
    intro G l1 l2 l3 l4 o5 hl1 hl2 hl3 hl4 r h k σ s
    unfold fo187_10 at h
    refine jiL4 (p := 12) rfl jM187 jq187_10 ?_
    refine jiL2 (p := 13) rfl jM187 jq187_12 ?_
    refine jw_ic (p := 16) rfl jM187 jq187_13 (jc_le hl4 hl2) (fun c1 => ?_) (fun c1 => ?_)
    · have h1 := jo_p c1 h
      refine jiL3 (p := 86) rfl jM187 jq187_85 ?_
      cases h1
      exact jw_iret jM187 jq187_86 (fun z => absurd z (by decide)) (k σ s hl3)
    · have h1 := jo_n c1 h
      refine jaL0 (p := 17) rfl jM187 jq187_16 ?_
      refine jg_getI (p := 20) (i := 7) rfl jM187 jq187_17 rfl (jo_92 s.1) jn_11_7 s (by decide) (by decide) rfl ?_
      refine jw_if (p := 23) rfl jM187 jq187_20 (jc_ne (s.r _ _) jb_r0) (fun c2 => ?_) (fun c2 => ?_)
      · have h2 := jo_n c2 h1
        refine jiL3 (p := 86) rfl jM187 jq187_85 ?_
        cases h2
        exact jw_iret jM187 jq187_86 (fun z => absurd z (by decide)) (k σ s hl3)
      · have h2 := jo_p (Decidable.byContradiction c2) h1
        refine jaL0 (p := 24) rfl jM187 jq187_23 ?_
        refine jw_getP (p := 27) (i := 14) (q := 98) rfl jM187 jq187_24 rfl (jo_92 s.1) je_11_14 (jp_92_14 s.1) ?_
        refine jiL4 (p := 29) rfl jM187 jq187_27 ?_
        obtain ⟨c3, h3⟩ := jo_i h2
        refine jg_iald (p := 30) rfl jM187 jq187_29 (ja_98 s.1) c3.1 c3.2 s (by decide) rfl ?_
        refine jw_iconst (p := 31) rfl jM187 jq187_30 ?_
        refine jw_ic (p := 34) rfl jM187 jq187_31 (jc_ne (s.r _ _) (jb_rn rfl)) (fun c4 => ?_) (fun c4 => ?_)
        · have h4 := jo_n c4 h3
          refine jaL0 (p := 50) rfl jM187 jq187_49 ?_
          refine jw_getP (p := 53) (i := 16) (q := 100) rfl jM187 jq187_50 rfl (jo_92 s.1) je_11_16 (jp_92_16 s.1) ?_
          refine jiL4 (p := 55) rfl jM187 jq187_53 ?_
          refine jg_iald (p := 56) rfl jM187 jq187_55 (ja_100 s.1) c3.1 c3.2 s (by decide) rfl ?_
          refine jiS5 (p := 58) rfl jM187 jq187_56 ?_
          refine jaL0 (p := 59) rfl jM187 jq187_58 ?_
          refine jw_getP (p := 62) (i := 14) (q := 98) rfl jM187 jq187_59 rfl (jo_92 s.1) je_11_14 (jp_92_14 s.1) ?_
          refine jiL4 (p := 64) rfl jM187 jq187_62 ?_
          refine jg_iald (p := 65) rfl jM187 jq187_64 (ja_98 s.1) c3.1 c3.2 s (by decide) rfl ?_
          refine jw_if (p := 68) rfl jM187 jq187_65 (jc_ne (s.r _ _) jb_r0) (fun c5 => ?_) (fun c5 => ?_)
          · have h5 := jo_n c5 h4
            refine jiL5 (p := 80) rfl jM187 jq187_78 ?_
            refine jiS4 (p := 82) rfl jM187 jq187_80 ?_
            refine jw_goto jM187 jq187_82 ?_
            exact ih hl1 hl2 hl3 (s.r _ _) h5 k σ s
          · have h5 := jo_p (Decidable.byContradiction c5) h4
            refine jaL0 (p := 69) rfl jM187 jq187_68 ?_
            refine jiL1 (p := 70) rfl jM187 jq187_69 ?_
            refine jiL4 (p := 72) rfl jM187 jq187_70 ?_
            refine jw_callV [(jb_v l1), (jb_v l4)] jM187 jq187_72 rfl rfl (jo_92 s.1) rfl jM186 rfl rfl ?_
            obtain ⟨x6, b7, h7⟩ := jo_b h5
            refine jf186 hl1 hl4 b7 (fun σ6 s6 => ?_) σ s
            show jb_w (d + 10) 187 75 [some (.ref 92), some (jb_v l1), some (jb_v l2), some (jb_v l3), some (jb_v l4), some (jb_v (G 100 l4))] [] σ6 Q
            refine jiI3 (p := 78) rfl jM187 jq187_75 ?_
            refine jiL5 (p := 80) rfl jM187 jq187_78 ?_
            refine jiS4 (p := 82) rfl jM187 jq187_80 ?_
            refine jw_goto jM187 jq187_82 ?_
            obtain ⟨c8, h8⟩ := jo_i h7
            exact ih hl1 hl2 c8 (s.r _ _) h8 k σ6 s6
        · have h4 := jo_p (Decidable.byContradiction c4) h3
          refine jaL0 (p := 35) rfl jM187 jq187_34 ?_
          refine jw_getP (p := 38) (i := 16) (q := 100) rfl jM187 jq187_35 rfl (jo_92 s.1) je_11_16 (jp_92_16 s.1) ?_
          refine jaL0 (p := 39) rfl jM187 jq187_38 ?_
          refine jw_getP (p := 42) (i := 20) (q := 104) rfl jM187 jq187_39 rfl (jo_92 s.1) je_11_20 (jp_92_20 s.1) ?_
          refine jiL4 (p := 44) rfl jM187 jq187_42 ?_
          refine jg_iald (p := 45) rfl jM187 jq187_44 (ja_104 s.1) c3.1 c3.2 s (by decide) rfl ?_
          obtain ⟨c9, h9⟩ := jo_i h4
          refine jg_iald (p := 46) rfl jM187 jq187_45 (ja_100 s.1) c9.1 c9.2 s (by decide) rfl ?_
          refine jw_goto jM187 jq187_46 ?_
          refine jiS5 (p := 58) rfl jM187 jq187_56 ?_
          refine jaL0 (p := 59) rfl jM187 jq187_58 ?_
          refine jw_getP (p := 62) (i := 14) (q := 98) rfl jM187 jq187_59 rfl (jo_92 s.1) je_11_14 (jp_92_14 s.1) ?_
          refine jiL4 (p := 64) rfl jM187 jq187_62 ?_
          refine jg_iald (p := 65) rfl jM187 jq187_64 (ja_98 s.1) c3.1 c3.2 s (by decide) rfl ?_
          refine jw_if (p := 68) rfl jM187 jq187_65 (jc_ne (s.r _ _) jb_r0) (fun c10 => ?_) (fun c10 => ?_)
          · have h10 := jo_n c10 h9
            refine jiL5 (p := 80) rfl jM187 jq187_78 ?_
            refine jiS4 (p := 82) rfl jM187 jq187_80 ?_
            refine jw_goto jM187 jq187_82 ?_
            exact ih hl1 hl2 hl3 (s.r _ _) h10 k σ s
          · have h10 := jo_p (Decidable.byContradiction c10) h9
            refine jaL0 (p := 69) rfl jM187 jq187_68 ?_
            refine jiL1 (p := 70) rfl jM187 jq187_69 ?_
            refine jiL4 (p := 72) rfl jM187 jq187_70 ?_
            refine jw_callV [(jb_v l1), (jb_v l4)] jM187 jq187_72 rfl rfl (jo_92 s.1) rfl jM186 rfl rfl ?_
            obtain ⟨x11, b12, h12⟩ := jo_b h10
            refine jf186 hl1 hl4 b12 (fun σ11 s11 => ?_) σ s
            show jb_w (d + 10) 187 75 [some (.ref 92), some (jb_v l1), some (jb_v l2), some (jb_v l3), some (jb_v l4), some (jb_v (G 100 (G 104 l4)))] [] σ11 Q
            refine jiI3 (p := 78) rfl jM187 jq187_75 ?_
            refine jiL5 (p := 80) rfl jM187 jq187_78 ?_
            refine jiS4 (p := 82) rfl jM187 jq187_80 ?_
            refine jw_goto jM187 jq187_82 ?_
            obtain ⟨c13, h13⟩ := jo_i h12
            exact ih hl1 hl2 c13 (s.r _ _) h13 k σ11 s11
def fo187 (G : jg_G) (l1 : Int) (l2 : Int) : Option (jg_G × Int) := if 0 ≤ l1 ∧ l1 < 4 then fo187_10 jo_N G l1 l2 0 (G 108 l1) else none
theorem jf187 {d : Nat} {σ0 : ib_H} {Q : ib_O → Prop} {G : jg_G} {l1 : Int} {l2 : Int} (hl1 : jb_r l1) (hl2 : jb_r l2) {r : jg_G × Int} (h : fo187 G l1 l2 = some r) (k : ∀ σ, jg_S σ0 r.1 σ → jb_r r.2 → Q (.inl (some (jb_v r.2)), σ)) : jg_W σ0 G (d + 10) 187 0 [some (.ref 92), some (jb_v l1), some (jb_v l2), none, none, none] [] Q := by
  intro σ s
  unfold fo187 at h
  refine jw_iconst (p := 1) rfl jM187 jq187_0 ?_
  refine jiS3 (p := 2) rfl jM187 jq187_1 ?_
  refine jaL0 (p := 3) rfl jM187 jq187_2 ?_
  refine jw_getP (p := 6) (i := 24) (q := 108) rfl jM187 jq187_3 rfl (jo_92 s.1) je_11_24 (jp_92_24 s.1) ?_
  refine jiL1 (p := 7) rfl jM187 jq187_6 ?_
  obtain ⟨c1, h1⟩ := jo_i h
  refine jg_iald (p := 8) rfl jM187 jq187_7 (ja_108 s.1) c1.1 c1.2 s (by decide) rfl ?_
  refine jiS4 (p := 10) rfl jM187 jq187_8 ?_
  exact jf187_10 jo_N hl1 hl2 (jb_rn rfl) (s.r _ _) h1 k σ s
-- 188 undoesAll need 11
def fo188 (G : jg_G) (l1 : Int) : Option (jg_G × Int) := (fo187 G l1 0).bind fun x1 => if (x1.1) 92 7 = 0 then (if 0 ≤ (x1.1) 92 12 ∧ (x1.1) 92 12 < 1500 then if -1 ≤ l1 ∧ l1 < 4 then jo_l ((x1.1) 92 12 + 1) fun x6 => if 0 ≤ l1 ∧ l1 < 4 then some (fr_cl (fr_no (x1.1) (3 : Int) l1) l1, x1.2) else none else none else none) else (some (x1.1, x1.2))
theorem jf188 {d : Nat} {σ0 : ib_H} {Q : ib_O → Prop} {G : jg_G} {l1 : Int} (hl1 : jb_r l1) {r : jg_G × Int} (h : fo188 G l1 = some r) (k : ∀ σ, jg_S σ0 r.1 σ → jb_r r.2 → Q (.inl (some (jb_v r.2)), σ)) : jg_W σ0 G (d + 11) 188 0 [some (.ref 92), some (jb_v l1), none] [] Q := by
  intro σ s
  unfold fo188 at h
  refine jaL0 (p := 1) rfl jM188 jq188_0 ?_
  refine jiL1 (p := 2) rfl jM188 jq188_1 ?_
  refine jw_iconst (p := 3) rfl jM188 jq188_2 ?_
  refine jw_callV [(jb_v l1), (jb_v 0)] jM188 jq188_3 rfl rfl (jo_92 s.1) rfl jM187 rfl rfl ?_
  obtain ⟨x1, b2, h2⟩ := jo_b h
  refine jf187 hl1 (jb_rn rfl) b2 (fun σ1 s1 r1 => ?_) σ s
  show jb_w (d + 11) 188 6 [some (.ref 92), some (jb_v l1), none] [(jb_v (x1.2))] σ1 Q
  refine jiS2 (p := 7) rfl jM188 jq188_6 ?_
  refine jaL0 (p := 8) rfl jM188 jq188_7 ?_
  refine jg_getI (p := 11) (i := 7) rfl jM188 jq188_8 rfl (jo_92 s1.1) jn_11_7 s1 (by decide) (by decide) rfl ?_
  refine jw_if (p := 14) rfl jM188 jq188_11 (jc_ne (s1.r _ _) jb_r0) (fun c3 => ?_) (fun c3 => ?_)
  · have h3 := jo_n c3 h2
    refine jiL2 (p := 27) rfl jM188 jq188_26 ?_
    cases h3
    exact jw_iret jM188 jq188_27 (fun z => absurd z (by decide)) (k σ1 s1 r1)
  · have h3 := jo_p (Decidable.byContradiction c3) h2
    refine jaL0 (p := 15) rfl jM188 jq188_14 ?_
    refine jw_iconst (p := 16) rfl jM188 jq188_15 ?_
    refine jiL1 (p := 17) rfl jM188 jq188_16 ?_
    refine jw_callV [(jb_v 3), (jb_v l1)] jM188 jq188_17 rfl rfl (jo_92 s1.1) rfl jM169 rfl rfl ?_
    obtain ⟨c4, h4⟩ := jo_i h3
    obtain ⟨c5, h5⟩ := jo_i h4
    obtain ⟨x6, e7, h7⟩ := jo_lb h5
    refine cs169 c4 c5 (jb_rn rfl) (fun σ6 s6 r6 => ?_) σ1 s1
    rw [e7] at r6 ⊢
    show jb_w (d + 11) 188 20 [some (.ref 92), some (jb_v l1), some (jb_v (x1.2))] [(jb_v x6)] σ6 Q
    refine jw_popI (p := 21) rfl jM188 jq188_20 ?_
    refine jaL0 (p := 22) rfl jM188 jq188_21 ?_
    refine jiL1 (p := 23) rfl jM188 jq188_22 ?_
    refine jw_callV [(jb_v l1)] jM188 jq188_23 rfl rfl (jo_92 s6.1) rfl jM185 rfl rfl ?_
    obtain ⟨c8, h8⟩ := jo_i h7
    refine cs185 c8 (fun σ9 s9 => ?_) σ6 s6
    show jb_w (d + 11) 188 26 [some (.ref 92), some (jb_v l1), some (jb_v (x1.2))] [] σ9 Q
    refine jiL2 (p := 27) rfl jM188 jq188_26 ?_
    cases h8
    exact jw_iret jM188 jq188_27 (fun z => absurd z (by decide)) (k σ9 s9 r1)
-- 189 victim need 0
def fo189_9 : Nat → jg_G → Int → Int → Int → Option (jg_G × Int)
  | 0, _, _, _, _ => none
  | m + 1, G, l1, l2, l3 => if l3 = (-1) then (if l3 = l1 then (some (G, l2)) else (some (G, (-1)))) else (if l3 = l1 then (some (G, l2)) else (if 0 ≤ l3 ∧ l3 < 4 then if 0 ≤ l2 ∧ l2 < 4 then if G 109 l3 < G 109 l2 then (fo189_9 m G l1 l3 (G 110 l3)) else (if G 109 l3 = G 109 l2 then (if l3 ≤ l2 then (fo189_9 m G l1 l2 (G 110 l3)) else (fo189_9 m G l1 l3 (G 110 l3))) else (fo189_9 m G l1 l2 (G 110 l3))) else none else none))
theorem jf189_9 {d : Nat} {σ0 : ib_H} {Q : ib_O → Prop} : ∀ (m : Nat) {G : jg_G} {l1 : Int} {l2 : Int} {l3 : Int} (hl1 : jb_r l1) (hl2 : jb_r l2) (hl3 : jb_r l3) {r : jg_G × Int} (h : fo189_9 m G l1 l2 l3 = some r) (k : ∀ σ, jg_S σ0 r.1 σ → jb_r r.2 → Q (.inl (some (jb_v r.2)), σ)), jg_W σ0 G d 189 9 [some (.ref 92), some (jb_v l1), some (jb_v l2), some (jb_v l3)] [] Q := by
  intro m
  induction m with
  | zero =>
    intro G l1 l2 l3 hl1 hl2 hl3 r h k
    cases h
  | succ m ih =>
    intro G l1 l2 l3 hl1 hl2 hl3 r h k σ s
    unfold fo189_9 at h
    refine jiL3 (p := 10) rfl jM189 jq189_9 ?_
    refine jw_iconst (p := 11) rfl jM189 jq189_10 ?_
    refine jw_ic (p := 14) rfl jM189 jq189_11 (jc_eq hl3 (jb_rn rfl)) (fun c1 => ?_) (fun c1 => ?_)
    · have h1 := jo_p c1 h
      refine jiL3 (p := 71) rfl jM189 jq189_70 ?_
      refine jiL1 (p := 72) rfl jM189 jq189_71 ?_
      refine jw_ic (p := 75) rfl jM189 jq189_72 (jc_ne hl3 hl1) (fun c2 => ?_) (fun c2 => ?_)
      · have h2 := jo_n c2 h1
        refine jw_iconst (p := 80) rfl jM189 jq189_79 ?_
        cases h2
        exact jw_iret jM189 jq189_80 (fun z => absurd z (by decide)) (k σ s (jb_rn rfl))
      · have h2 := jo_p (Decidable.byContradiction c2) h1
        refine jiL2 (p := 76) rfl jM189 jq189_75 ?_
        refine jw_goto jM189 jq189_76 ?_
        cases h2
        exact jw_iret jM189 jq189_80 (fun z => absurd z (by decide)) (k σ s hl2)
    · have h1 := jo_n c1 h
      refine jiL3 (p := 15) rfl jM189 jq189_14 ?_
      refine jiL1 (p := 16) rfl jM189 jq189_15 ?_
      refine jw_ic (p := 19) rfl jM189 jq189_16 (jc_eq hl3 hl1) (fun c3 => ?_) (fun c3 => ?_)
      · have h3 := jo_p c3 h1
        refine jiL3 (p := 71) rfl jM189 jq189_70 ?_
        refine jiL1 (p := 72) rfl jM189 jq189_71 ?_
        refine jw_ic (p := 75) rfl jM189 jq189_72 (jc_ne hl3 hl1) (fun z => absurd c3 z) (fun _ => ?_)
        refine jiL2 (p := 76) rfl jM189 jq189_75 ?_
        refine jw_goto jM189 jq189_76 ?_
        cases h3
        exact jw_iret jM189 jq189_80 (fun z => absurd z (by decide)) (k σ s hl2)
      · have h3 := jo_n c3 h1
        refine jaL0 (p := 20) rfl jM189 jq189_19 ?_
        refine jw_getP (p := 23) (i := 25) (q := 109) rfl jM189 jq189_20 rfl (jo_92 s.1) je_11_25 (jp_92_25 s.1) ?_
        refine jiL3 (p := 24) rfl jM189 jq189_23 ?_
        obtain ⟨c4, h4⟩ := jo_i h3
        refine jg_iald (p := 25) rfl jM189 jq189_24 (ja_109 s.1) c4.1 c4.2 s (by decide) rfl ?_
        refine jaL0 (p := 26) rfl jM189 jq189_25 ?_
        refine jw_getP (p := 29) (i := 25) (q := 109) rfl jM189 jq189_26 rfl (jo_92 s.1) je_11_25 (jp_92_25 s.1) ?_
        refine jiL2 (p := 30) rfl jM189 jq189_29 ?_
        obtain ⟨c5, h5⟩ := jo_i h4
        refine jg_iald (p := 31) rfl jM189 jq189_30 (ja_109 s.1) c5.1 c5.2 s (by decide) rfl ?_
        refine jw_ic (p := 34) rfl jM189 jq189_31 (jc_lt (s.r _ _) (s.r _ _)) (fun c6 => ?_) (fun c6 => ?_)
        · have h6 := jo_p c6 h5
          refine jiL3 (p := 55) rfl jM189 jq189_54 ?_
          refine jw_goto jM189 jq189_55 ?_
          refine jiS2 (p := 60) rfl jM189 jq189_59 ?_
          refine jaL0 (p := 61) rfl jM189 jq189_60 ?_
          refine jw_getP (p := 64) (i := 26) (q := 110) rfl jM189 jq189_61 rfl (jo_92 s.1) je_11_26 (jp_92_26 s.1) ?_
          refine jiL3 (p := 65) rfl jM189 jq189_64 ?_
          refine jg_iald (p := 66) rfl jM189 jq189_65 (ja_110 s.1) c4.1 c4.2 s (by decide) rfl ?_
          refine jiS3 (p := 67) rfl jM189 jq189_66 ?_
          refine jw_goto jM189 jq189_67 ?_
          exact ih hl1 hl3 (s.r _ _) h6 k σ s
        · have h6 := jo_n c6 h5
          refine jaL0 (p := 35) rfl jM189 jq189_34 ?_
          refine jw_getP (p := 38) (i := 25) (q := 109) rfl jM189 jq189_35 rfl (jo_92 s.1) je_11_25 (jp_92_25 s.1) ?_
          refine jiL3 (p := 39) rfl jM189 jq189_38 ?_
          refine jg_iald (p := 40) rfl jM189 jq189_39 (ja_109 s.1) c4.1 c4.2 s (by decide) rfl ?_
          refine jaL0 (p := 41) rfl jM189 jq189_40 ?_
          refine jw_getP (p := 44) (i := 25) (q := 109) rfl jM189 jq189_41 rfl (jo_92 s.1) je_11_25 (jp_92_25 s.1) ?_
          refine jiL2 (p := 45) rfl jM189 jq189_44 ?_
          refine jg_iald (p := 46) rfl jM189 jq189_45 (ja_109 s.1) c5.1 c5.2 s (by decide) rfl ?_
          refine jw_ic (p := 49) rfl jM189 jq189_46 (jc_ne (s.r _ _) (s.r _ _)) (fun c7 => ?_) (fun c7 => ?_)
          · have h7 := jo_n c7 h6
            refine jiL2 (p := 59) rfl jM189 jq189_58 ?_
            refine jiS2 (p := 60) rfl jM189 jq189_59 ?_
            refine jaL0 (p := 61) rfl jM189 jq189_60 ?_
            refine jw_getP (p := 64) (i := 26) (q := 110) rfl jM189 jq189_61 rfl (jo_92 s.1) je_11_26 (jp_92_26 s.1) ?_
            refine jiL3 (p := 65) rfl jM189 jq189_64 ?_
            refine jg_iald (p := 66) rfl jM189 jq189_65 (ja_110 s.1) c4.1 c4.2 s (by decide) rfl ?_
            refine jiS3 (p := 67) rfl jM189 jq189_66 ?_
            refine jw_goto jM189 jq189_67 ?_
            exact ih hl1 hl2 (s.r _ _) h7 k σ s
          · have h7 := jo_p (Decidable.byContradiction c7) h6
            refine jiL3 (p := 50) rfl jM189 jq189_49 ?_
            refine jiL2 (p := 51) rfl jM189 jq189_50 ?_
            refine jw_ic (p := 54) rfl jM189 jq189_51 (jc_le hl3 hl2) (fun c8 => ?_) (fun c8 => ?_)
            · have h8 := jo_p c8 h7
              refine jiL2 (p := 59) rfl jM189 jq189_58 ?_
              refine jiS2 (p := 60) rfl jM189 jq189_59 ?_
              refine jaL0 (p := 61) rfl jM189 jq189_60 ?_
              refine jw_getP (p := 64) (i := 26) (q := 110) rfl jM189 jq189_61 rfl (jo_92 s.1) je_11_26 (jp_92_26 s.1) ?_
              refine jiL3 (p := 65) rfl jM189 jq189_64 ?_
              refine jg_iald (p := 66) rfl jM189 jq189_65 (ja_110 s.1) c4.1 c4.2 s (by decide) rfl ?_
              refine jiS3 (p := 67) rfl jM189 jq189_66 ?_
              refine jw_goto jM189 jq189_67 ?_
              exact ih hl1 hl2 (s.r _ _) h8 k σ s
            · have h8 := jo_n c8 h7
              refine jiL3 (p := 55) rfl jM189 jq189_54 ?_
              refine jw_goto jM189 jq189_55 ?_
              refine jiS2 (p := 60) rfl jM189 jq189_59 ?_
              refine jaL0 (p := 61) rfl jM189 jq189_60 ?_
              refine jw_getP (p := 64) (i := 26) (q := 110) rfl jM189 jq189_61 rfl (jo_92 s.1) je_11_26 (jp_92_26 s.1) ?_
              refine jiL3 (p := 65) rfl jM189 jq189_64 ?_
              refine jg_iald (p := 66) rfl jM189 jq189_65 (ja_110 s.1) c4.1 c4.2 s (by decide) rfl ?_
              refine jiS3 (p := 67) rfl jM189 jq189_66 ?_
              refine jw_goto jM189 jq189_67 ?_
              exact ih hl1 hl3 (s.r _ _) h8 k σ s
def fo189 (G : jg_G) (l1 : Int) : Option (jg_G × Int) := if 0 ≤ l1 ∧ l1 < 4 then fo189_9 jo_N G l1 l1 (G 110 l1) else none
theorem jf189 {d : Nat} {σ0 : ib_H} {Q : ib_O → Prop} {G : jg_G} {l1 : Int} (hl1 : jb_r l1) {r : jg_G × Int} (h : fo189 G l1 = some r) (k : ∀ σ, jg_S σ0 r.1 σ → jb_r r.2 → Q (.inl (some (jb_v r.2)), σ)) : jg_W σ0 G d 189 0 [some (.ref 92), some (jb_v l1), none, none] [] Q := by
  intro σ s
  unfold fo189 at h
  refine jiL1 (p := 1) rfl jM189 jq189_0 ?_
  refine jiS2 (p := 2) rfl jM189 jq189_1 ?_
  refine jaL0 (p := 3) rfl jM189 jq189_2 ?_
  refine jw_getP (p := 6) (i := 26) (q := 110) rfl jM189 jq189_3 rfl (jo_92 s.1) je_11_26 (jp_92_26 s.1) ?_
  refine jiL1 (p := 7) rfl jM189 jq189_6 ?_
  obtain ⟨c1, h1⟩ := jo_i h
  refine jg_iald (p := 8) rfl jM189 jq189_7 (ja_110 s.1) c1.1 c1.2 s (by decide) rfl ?_
  refine jiS3 (p := 9) rfl jM189 jq189_8 ?_
  exact jf189_9 jo_N hl1 hl1 (s.r _ _) h1 k σ s
-- 190 locks need 12
def fo190_7 : Nat → jg_G → Int → Int → Option (jg_G × Int)
  | 0, _, _, _ => none
  | m + 1, G, l1, l2 => if 0 ≤ l2 ∧ l2 < 32 then if G 111 l2 = (-1) then (some (jg_u G 111 l2 l1, 0)) else (if G 111 l2 = l1 then (some (jg_u G 111 l2 l1, 0)) else (if 0 ≤ l1 ∧ l1 < 4 then (fo189 (jg_u G 110 l1 (G 111 l2)) l1).bind fun x8 => if x8.2 = (-1) then (some (x8.1, (-2))) else ((fo188 (x8.1) (x8.2)).bind fun x11 => if (x11.1) 92 7 = 0 then (if x8.2 = l1 then (some (x11.1, (-3))) else (fo190_7 m (jg_u (x11.1) 110 l1 (-1)) l1 l2)) else (some (x11.1, (-4)))) else none)) else none
theorem jf190_7 {d : Nat} {σ0 : ib_H} {Q : ib_O → Prop} : ∀ (m : Nat) {G : jg_G} {l1 : Int} {l2 : Int} {o3 : Option Value} (hl1 : jb_r l1) (hl2 : jb_r l2) {r : jg_G × Int} (h : fo190_7 m G l1 l2 = some r) (k : ∀ σ, jg_S σ0 r.1 σ → jb_r r.2 → Q (.inl (some (jb_v r.2)), σ)), jg_W σ0 G (d + 12) 190 7 [some (.ref 92), some (jb_v l1), some (jb_v l2), o3] [] Q := by
  intro m
  induction m with
  | zero =>
    intro G l1 l2 o3 hl1 hl2 r h k
    cases h
  | succ m ih =>
    intro G l1 l2 o3 hl1 hl2 r h k σ s
    unfold fo190_7 at h
    refine jaL0 (p := 8) rfl jM190 jq190_7 ?_
    refine jw_getP (p := 11) (i := 27) (q := 111) rfl jM190 jq190_8 rfl (jo_92 s.1) je_11_27 (jp_92_27 s.1) ?_
    refine jiL2 (p := 12) rfl jM190 jq190_11 ?_
    obtain ⟨c1, h1⟩ := jo_i h
    refine jg_iald (p := 13) rfl jM190 jq190_12 (ja_111 s.1) c1.1 c1.2 s (by decide) rfl ?_
    refine jw_iconst (p := 14) rfl jM190 jq190_13 ?_
    refine jw_ic (p := 17) rfl jM190 jq190_14 (jc_eq (s.r _ _) (jb_rn rfl)) (fun c2 => ?_) (fun c2 => ?_)
    · have h2 := jo_p c2 h1
      refine jaL0 (p := 88) rfl jM190 jq190_87 ?_
      refine jw_getP (p := 91) (i := 27) (q := 111) rfl jM190 jq190_88 rfl (jo_92 s.1) je_11_27 (jp_92_27 s.1) ?_
      refine jiL2 (p := 92) rfl jM190 jq190_91 ?_
      refine jiL1 (p := 93) rfl jM190 jq190_92 ?_
      refine jg_iast (p := 94) rfl jM190 jq190_93 (ja_111 s.1) c1.1 c1.2 s (by decide) hl1 ?_
      intro σ3 s3
      refine jw_iconst (p := 95) rfl jM190 jq190_94 ?_
      cases h2
      exact jw_iret jM190 jq190_95 (fun z => absurd z (by decide)) (k σ3 s3 (jb_rn rfl))
    · have h2 := jo_n c2 h1
      refine jaL0 (p := 18) rfl jM190 jq190_17 ?_
      refine jw_getP (p := 21) (i := 27) (q := 111) rfl jM190 jq190_18 rfl (jo_92 s.1) je_11_27 (jp_92_27 s.1) ?_
      refine jiL2 (p := 22) rfl jM190 jq190_21 ?_
      refine jg_iald (p := 23) rfl jM190 jq190_22 (ja_111 s.1) c1.1 c1.2 s (by decide) rfl ?_
      refine jiL1 (p := 24) rfl jM190 jq190_23 ?_
      refine jw_ic (p := 27) rfl jM190 jq190_24 (jc_eq (s.r _ _) hl1) (fun c4 => ?_) (fun c4 => ?_)
      · have h4 := jo_p c4 h2
        refine jaL0 (p := 88) rfl jM190 jq190_87 ?_
        refine jw_getP (p := 91) (i := 27) (q := 111) rfl jM190 jq190_88 rfl (jo_92 s.1) je_11_27 (jp_92_27 s.1) ?_
        refine jiL2 (p := 92) rfl jM190 jq190_91 ?_
        refine jiL1 (p := 93) rfl jM190 jq190_92 ?_
        refine jg_iast (p := 94) rfl jM190 jq190_93 (ja_111 s.1) c1.1 c1.2 s (by decide) hl1 ?_
        intro σ5 s5
        refine jw_iconst (p := 95) rfl jM190 jq190_94 ?_
        cases h4
        exact jw_iret jM190 jq190_95 (fun z => absurd z (by decide)) (k σ5 s5 (jb_rn rfl))
      · have h4 := jo_n c4 h2
        refine jaL0 (p := 28) rfl jM190 jq190_27 ?_
        refine jw_getP (p := 31) (i := 26) (q := 110) rfl jM190 jq190_28 rfl (jo_92 s.1) je_11_26 (jp_92_26 s.1) ?_
        refine jiL1 (p := 32) rfl jM190 jq190_31 ?_
        refine jaL0 (p := 33) rfl jM190 jq190_32 ?_
        refine jw_getP (p := 36) (i := 27) (q := 111) rfl jM190 jq190_33 rfl (jo_92 s.1) je_11_27 (jp_92_27 s.1) ?_
        refine jiL2 (p := 37) rfl jM190 jq190_36 ?_
        refine jg_iald (p := 38) rfl jM190 jq190_37 (ja_111 s.1) c1.1 c1.2 s (by decide) rfl ?_
        obtain ⟨c6, h6⟩ := jo_i h4
        refine jg_iast (p := 39) rfl jM190 jq190_38 (ja_110 s.1) c6.1 c6.2 s (by decide) (s.r _ _) ?_
        intro σ7 s7
        refine jaL0 (p := 40) rfl jM190 jq190_39 ?_
        refine jiL1 (p := 41) rfl jM190 jq190_40 ?_
        refine jw_callV [(jb_v l1)] jM190 jq190_41 rfl rfl (jo_92 s7.1) rfl jM189 rfl rfl ?_
        obtain ⟨x8, b9, h9⟩ := jo_b h6
        refine jf189 hl1 b9 (fun σ8 s8 r8 => ?_) σ7 s7
        show jb_w (d + 12) 190 44 [some (.ref 92), some (jb_v l1), some (jb_v l2), o3] [(jb_v (x8.2))] σ8 Q
        refine jiS3 (p := 45) rfl jM190 jq190_44 ?_
        refine jiL3 (p := 46) rfl jM190 jq190_45 ?_
        refine jw_iconst (p := 47) rfl jM190 jq190_46 ?_
        refine jw_ic (p := 50) rfl jM190 jq190_47 (jc_ne r8 (jb_rn rfl)) (fun c10 => ?_) (fun c10 => ?_)
        · have h10 := jo_n c10 h9
          refine jaL0 (p := 54) rfl jM190 jq190_53 ?_
          refine jiL3 (p := 55) rfl jM190 jq190_54 ?_
          refine jw_callV [(jb_v (x8.2))] jM190 jq190_55 rfl rfl (jo_92 s8.1) rfl jM188 rfl rfl ?_
          obtain ⟨x11, b12, h12⟩ := jo_b h10
          refine jf188 r8 b12 (fun σ11 s11 r11 => ?_) σ8 s8
          show jb_w (d + 12) 190 58 [some (.ref 92), some (jb_v l1), some (jb_v l2), some (jb_v (x8.2))] [(jb_v (x11.2))] σ11 Q
          refine jw_popI (p := 59) rfl jM190 jq190_58 ?_
          refine jaL0 (p := 60) rfl jM190 jq190_59 ?_
          refine jg_getI (p := 63) (i := 7) rfl jM190 jq190_60 rfl (jo_92 s11.1) jn_11_7 s11 (by decide) (by decide) rfl ?_
          refine jw_if (p := 66) rfl jM190 jq190_63 (jc_eq (s11.r _ _) jb_r0) (fun c13 => ?_) (fun c13 => ?_)
          · have h13 := jo_p c13 h12
            refine jiL3 (p := 70) rfl jM190 jq190_69 ?_
            refine jiL1 (p := 71) rfl jM190 jq190_70 ?_
            refine jw_ic (p := 74) rfl jM190 jq190_71 (jc_ne r8 hl1) (fun c14 => ?_) (fun c14 => ?_)
            · have h14 := jo_n c14 h13
              refine jaL0 (p := 78) rfl jM190 jq190_77 ?_
              refine jw_getP (p := 81) (i := 26) (q := 110) rfl jM190 jq190_78 rfl (jo_92 s11.1) je_11_26 (jp_92_26 s11.1) ?_
              refine jiL1 (p := 82) rfl jM190 jq190_81 ?_
              refine jw_iconst (p := 83) rfl jM190 jq190_82 ?_
              refine jg_iast (p := 84) rfl jM190 jq190_83 (ja_110 s11.1) c6.1 c6.2 s11 (by decide) (jb_rn rfl) ?_
              intro σ15 s15
              refine jw_goto jM190 jq190_84 ?_
              exact ih hl1 hl2 h14 k σ15 s15
            · have h14 := jo_p (Decidable.byContradiction c14) h13
              refine jw_bipush (p := 76) rfl jM190 jq190_74 (by decide) ?_
              cases h14
              exact jw_iret jM190 jq190_76 (fun z => absurd z (by decide)) (k σ11 s11 (jb_rn rfl))
          · have h13 := jo_n c13 h12
            refine jw_bipush (p := 68) rfl jM190 jq190_66 (by decide) ?_
            cases h13
            exact jw_iret jM190 jq190_68 (fun z => absurd z (by decide)) (k σ11 s11 (jb_rn rfl))
        · have h10 := jo_p (Decidable.byContradiction c10) h9
          refine jw_bipush (p := 52) rfl jM190 jq190_50 (by decide) ?_
          cases h10
          exact jw_iret jM190 jq190_52 (fun z => absurd z (by decide)) (k σ8 s8 (jb_rn rfl))
def fo190 (G : jg_G) (l1 : Int) (l2 : Int) : Option (jg_G × Int) := if 0 ≤ l1 ∧ l1 < 4 then fo190_7 jo_N (jg_u G 110 l1 (-1)) l1 l2 else none
theorem jf190 {d : Nat} {σ0 : ib_H} {Q : ib_O → Prop} {G : jg_G} {l1 : Int} {l2 : Int} (hl1 : jb_r l1) (hl2 : jb_r l2) {r : jg_G × Int} (h : fo190 G l1 l2 = some r) (k : ∀ σ, jg_S σ0 r.1 σ → jb_r r.2 → Q (.inl (some (jb_v r.2)), σ)) : jg_W σ0 G (d + 12) 190 0 [some (.ref 92), some (jb_v l1), some (jb_v l2), none] [] Q := by
  intro σ s
  unfold fo190 at h
  refine jaL0 (p := 1) rfl jM190 jq190_0 ?_
  refine jw_getP (p := 4) (i := 26) (q := 110) rfl jM190 jq190_1 rfl (jo_92 s.1) je_11_26 (jp_92_26 s.1) ?_
  refine jiL1 (p := 5) rfl jM190 jq190_4 ?_
  refine jw_iconst (p := 6) rfl jM190 jq190_5 ?_
  obtain ⟨c1, h1⟩ := jo_i h
  refine jg_iast (p := 7) rfl jM190 jq190_6 (ja_110 s.1) c1.1 c1.2 s (by decide) (jb_rn rfl) ?_
  intro σ2 s2
  exact jf190_7 jo_N hl1 hl2 h1 k σ2 s2
-- 192 changesKey need 7
def fo192 (G : jg_G) (l1 : Int) (l2 : Int) (l3 : Int) : Option (jg_G × Int) := if 0 ≤ ((G 92 29) - 1) ∧ ((G 92 29) - 1) < 25 then if 0 ≤ (G 112 ((G 92 29) - 1)) ∧ (G 112 ((G 92 29) - 1)) < 24 then jo_l (fr_ro G (G 112 ((G 92 29) - 1))) fun x3 => if 0 ≤ x3 ∧ x3 < 4554 then if 0 ≤ G 93 (67 * x3 + 2) ∧ G 93 (67 * x3 + 2) ≤ 32 then jo_l (fr_pl G x3 l2) fun x7 => if 0 ≤ G 92 12 ∧ G 92 12 < 1500 then if -1 ≤ l1 ∧ l1 < 4 then jo_l (G 92 12 + 1) fun x11 => if 0 ≤ x11 ∧ x11 < 1501 then if x7 < 0 then (if 0 ≤ (3 * x11) ∧ (3 * x11) < 4503 then (fo174 (jg_u (jg_u (jg_u (jg_u (jg_u (fr_no G (0 : Int) l1) 101 x11 l2) 102 x11 (-1)) 103 x11 l3) 106 (3 * x11) (G 112 ((G 92 29) - 1))) 105 x11 1) x11).bind fun x21 => some (x21.1, 0) else none) else (jo_l (fr_ro (jg_u (fr_no G (0 : Int) l1) 101 x11 l2) (G 112 ((G 92 29) - 1))) fun x23 => if 0 ≤ (((67 * x23) + 4) + (2 * x7)) ∧ (((67 * x23) + 4) + (2 * x7)) < 305118 then if 0 ≤ (3 * x11) ∧ (3 * x11) < 4503 then (fo174 (jg_u (jg_u (jg_u (jg_u (jg_u (fr_no G (0 : Int) l1) 101 x11 l2) 102 x11 ((fr_no G (0 : Int) l1) 93 (((67 * x23) + 4) + (2 * x7)))) 103 x11 l3) 106 (3 * x11) (G 112 ((G 92 29) - 1))) 105 x11 1) x11).bind fun x31 => some (x31.1, 0) else none else none) else none else none else none else none else none else none else none
theorem jf192 {d : Nat} {σ0 : ib_H} {Q : ib_O → Prop} {G : jg_G} {l1 : Int} {l2 : Int} {l3 : Int} (hl1 : jb_r l1) (hl2 : jb_r l2) (hl3 : jb_r l3) {r : jg_G × Int} (h : fo192 G l1 l2 l3 = some r) (k : ∀ σ, jg_S σ0 r.1 σ → Q (.inl none, σ)) : jg_W σ0 G (d + 7) 192 0 [some (.ref 92), some (jb_v l1), some (jb_v l2), some (jb_v l3), none, none, none] [] Q := by
  intro σ s
  unfold fo192 at h
  refine jaL0 (p := 1) rfl jM192 jq192_0 ?_
  refine jw_getP (p := 4) (i := 28) (q := 112) rfl jM192 jq192_1 rfl (jo_92 s.1) je_11_28 (jp_92_28 s.1) ?_
  refine jaL0 (p := 5) rfl jM192 jq192_4 ?_
  refine jg_getI (p := 8) (i := 29) rfl jM192 jq192_5 rfl (jo_92 s.1) jn_11_29 s (by decide) (by decide) rfl ?_
  refine jw_iconst (p := 9) rfl jM192 jq192_8 ?_
  refine jw_isub (p := 10) rfl jM192 jq192_9 ?_
  obtain ⟨c1, h1⟩ := jo_i h
  refine jg_iald (p := 11) rfl jM192 jq192_10 (ja_112 s.1) c1.1 c1.2 s (by decide) rfl ?_
  refine jiS4 (p := 13) rfl jM192 jq192_11 ?_
  refine jaL0 (p := 14) rfl jM192 jq192_13 ?_
  refine jaL0 (p := 15) rfl jM192 jq192_14 ?_
  refine jiL4 (p := 17) rfl jM192 jq192_15 ?_
  refine jw_callV [(jb_v (G 112 ((G 92 29) - 1)))] jM192 jq192_17 rfl rfl (jo_92 s.1) rfl jM161 rfl rfl ?_
  obtain ⟨c2, h2⟩ := jo_i h1
  obtain ⟨x3, e4, h4⟩ := jo_lb h2
  refine cs161 c2 (fun σ3 s3 r3 => ?_) σ s
  rw [e4] at r3 ⊢
  show jb_w (d + 7) 192 20 [some (.ref 92), some (jb_v l1), some (jb_v l2), some (jb_v l3), some (jb_v (G 112 ((G 92 29) - 1))), none, none] [(jb_v x3), (.ref 92)] σ3 Q
  refine jiL2 (p := 21) rfl jM192 jq192_20 ?_
  refine jw_callV [(jb_v x3), (jb_v l2)] jM192 jq192_21 rfl rfl (jo_92 s3.1) rfl jM158 rfl rfl ?_
  obtain ⟨c5, h5⟩ := jo_i h4
  obtain ⟨c6, h6⟩ := jo_i h5
  obtain ⟨x7, e8, h8⟩ := jo_lb h6
  refine cs158 c5 c6 hl2 (fun σ7 s7 r7 => ?_) σ3 s3
  rw [e8] at r7 ⊢
  show jb_w (d + 7) 192 24 [some (.ref 92), some (jb_v l1), some (jb_v l2), some (jb_v l3), some (jb_v (G 112 ((G 92 29) - 1))), none, none] [(jb_v x7)] σ7 Q
  refine jiS5 (p := 26) rfl jM192 jq192_24 ?_
  refine jaL0 (p := 27) rfl jM192 jq192_26 ?_
  refine jw_iconst (p := 28) rfl jM192 jq192_27 ?_
  refine jiL1 (p := 29) rfl jM192 jq192_28 ?_
  refine jw_callV [(jb_v 0), (jb_v l1)] jM192 jq192_29 rfl rfl (jo_92 s7.1) rfl jM169 rfl rfl ?_
  obtain ⟨c9, h9⟩ := jo_i h8
  obtain ⟨c10, h10⟩ := jo_i h9
  obtain ⟨x11, e12, h12⟩ := jo_lb h10
  refine cs169 c9 c10 (jb_rn rfl) (fun σ11 s11 r11 => ?_) σ7 s7
  rw [e12] at r11 ⊢
  show jb_w (d + 7) 192 32 [some (.ref 92), some (jb_v l1), some (jb_v l2), some (jb_v l3), some (jb_v (G 112 ((G 92 29) - 1))), some (jb_v x7), none] [(jb_v x11)] σ11 Q
  refine jiS6 (p := 34) rfl jM192 jq192_32 ?_
  refine jaL0 (p := 35) rfl jM192 jq192_34 ?_
  refine jw_getP (p := 38) (i := 17) (q := 101) rfl jM192 jq192_35 rfl (jo_92 s11.1) je_11_17 (jp_92_17 s11.1) ?_
  refine jiL6 (p := 40) rfl jM192 jq192_38 ?_
  refine jiL2 (p := 41) rfl jM192 jq192_40 ?_
  obtain ⟨c13, h13⟩ := jo_i h12
  refine jg_iast (p := 42) rfl jM192 jq192_41 (ja_101 s11.1) c13.1 c13.2 s11 (by decide) hl2 ?_
  intro σ14 s14
  refine jaL0 (p := 43) rfl jM192 jq192_42 ?_
  refine jw_getP (p := 46) (i := 18) (q := 102) rfl jM192 jq192_43 rfl (jo_92 s14.1) je_11_18 (jp_92_18 s14.1) ?_
  refine jiL6 (p := 48) rfl jM192 jq192_46 ?_
  refine jiL5 (p := 50) rfl jM192 jq192_48 ?_
  refine jw_if (p := 53) rfl jM192 jq192_50 (jc_lt r7 jb_r0) (fun c15 => ?_) (fun c15 => ?_)
  · have h15 := jo_p c15 h13
    refine jw_iconst (p := 69) rfl jM192 jq192_68 ?_
    refine jg_iast (p := 70) rfl jM192 jq192_69 (ja_102 s14.1) c13.1 c13.2 s14 (by decide) (jb_rn rfl) ?_
    intro σ16 s16
    refine jaL0 (p := 71) rfl jM192 jq192_70 ?_
    refine jw_getP (p := 74) (i := 19) (q := 103) rfl jM192 jq192_71 rfl (jo_92 s16.1) je_11_19 (jp_92_19 s16.1) ?_
    refine jiL6 (p := 76) rfl jM192 jq192_74 ?_
    refine jiL3 (p := 77) rfl jM192 jq192_76 ?_
    refine jg_iast (p := 78) rfl jM192 jq192_77 (ja_103 s16.1) c13.1 c13.2 s16 (by decide) hl3 ?_
    intro σ17 s17
    refine jaL0 (p := 79) rfl jM192 jq192_78 ?_
    refine jw_getP (p := 82) (i := 22) (q := 106) rfl jM192 jq192_79 rfl (jo_92 s17.1) je_11_22 (jp_92_22 s17.1) ?_
    refine jw_iconst (p := 83) rfl jM192 jq192_82 ?_
    refine jiL6 (p := 85) rfl jM192 jq192_83 ?_
    refine jw_imul (p := 86) rfl jM192 jq192_85 ?_
    refine jiL4 (p := 88) rfl jM192 jq192_86 ?_
    obtain ⟨c18, h18⟩ := jo_i h15
    refine jg_iast (p := 89) rfl jM192 jq192_88 (ja_106 s17.1) c18.1 c18.2 s17 (by decide) (s.r _ _) ?_
    intro σ19 s19
    refine jaL0 (p := 90) rfl jM192 jq192_89 ?_
    refine jw_getP (p := 93) (i := 21) (q := 105) rfl jM192 jq192_90 rfl (jo_92 s19.1) je_11_21 (jp_92_21 s19.1) ?_
    refine jiL6 (p := 95) rfl jM192 jq192_93 ?_
    refine jw_iconst (p := 96) rfl jM192 jq192_95 ?_
    refine jg_iast (p := 97) rfl jM192 jq192_96 (ja_105 s19.1) c13.1 c13.2 s19 (by decide) (jb_rn rfl) ?_
    intro σ20 s20
    refine jaL0 (p := 98) rfl jM192 jq192_97 ?_
    refine jiL6 (p := 100) rfl jM192 jq192_98 ?_
    refine jw_callV [(jb_v x11)] jM192 jq192_100 rfl rfl (jo_92 s20.1) rfl jM174 rfl rfl ?_
    obtain ⟨x21, b22, h22⟩ := jo_b h18
    refine jf174 r11 b22 (fun σ21 s21 => ?_) σ20 s20
    show jb_w (d + 7) 192 103 [some (.ref 92), some (jb_v l1), some (jb_v l2), some (jb_v l3), some (jb_v (G 112 ((G 92 29) - 1))), some (jb_v x7), some (jb_v x11)] [] σ21 Q
    cases h22
    exact jw_vret jM192 jq192_103 (k σ21 s21)
  · have h15 := jo_n c15 h13
    refine jaL0 (p := 54) rfl jM192 jq192_53 ?_
    refine jaL0 (p := 55) rfl jM192 jq192_54 ?_
    refine jiL4 (p := 57) rfl jM192 jq192_55 ?_
    refine jw_callV [(jb_v (G 112 ((G 92 29) - 1)))] jM192 jq192_57 rfl rfl (jo_92 s14.1) rfl jM161 rfl rfl ?_
    obtain ⟨x23, e24, h24⟩ := jo_lb h15
    refine cs161 c2 (fun σ23 s23 r23 => ?_) σ14 s14
    rw [e24] at r23 ⊢
    show jb_w (d + 7) 192 60 [some (.ref 92), some (jb_v l1), some (jb_v l2), some (jb_v l3), some (jb_v (G 112 ((G 92 29) - 1))), some (jb_v x7), some (jb_v x11)] [(jb_v x23), (.ref 92), (jb_v x11), (.ref 102)] σ23 Q
    refine jiL5 (p := 62) rfl jM192 jq192_60 ?_
    refine jw_callV [(jb_v x23), (jb_v x7)] jM192 jq192_62 rfl rfl (jo_92 s23.1) rfl jM152 rfl rfl ?_
    show jb_w (d + 6) 152 0 [some (.ref 92), some (jb_v x23), some (jb_v x7)] [] σ23 (jb_k (d + 7) 192 62 [some (.ref 92), some (jb_v l1), some (jb_v l2), some (jb_v l3), some (jb_v (G 112 ((G 92 29) - 1))), some (jb_v x7), some (jb_v x11)] [(jb_v x11), (.ref 102)] Q)
    refine jaL0 (p := 1) rfl jM152 jq152_0 ?_
    refine jw_getP (p := 4) (i := 1) (q := 93) rfl jM152 jq152_1 rfl (jo_92 s23.1) je_11_1 (jp_92_1 s23.1) ?_
    refine jw_bipush (p := 6) rfl jM152 jq152_4 (by decide) ?_
    refine jiL1 (p := 7) rfl jM152 jq152_6 ?_
    refine jw_imul (p := 8) rfl jM152 jq152_7 ?_
    refine jw_iconst (p := 9) rfl jM152 jq152_8 ?_
    refine jw_iadd (p := 10) rfl jM152 jq152_9 ?_
    refine jw_iconst (p := 11) rfl jM152 jq152_10 ?_
    refine jiL2 (p := 12) rfl jM152 jq152_11 ?_
    refine jw_imul (p := 13) rfl jM152 jq152_12 ?_
    refine jw_iadd (p := 14) rfl jM152 jq152_13 ?_
    obtain ⟨c25, h25⟩ := jo_i h24
    refine jg_iald (p := 15) rfl jM152 jq152_14 (ja_93 s23.1) c25.1 c25.2 s23 (by decide) (jg_uN (by decide)) ?_
    refine jw_iret jM152 jq152_15 (fun z => absurd z (by decide)) ?_
    show jb_w (d + 7) 192 65 [some (.ref 92), some (jb_v l1), some (jb_v l2), some (jb_v l3), some (jb_v (G 112 ((G 92 29) - 1))), some (jb_v x7), some (jb_v x11)] [(jb_v ((fr_no G (0 : Int) l1) 93 (((67 * x23) + 4) + (2 * x7)))), (jb_v x11), (.ref 102)] σ23 Q
    refine jw_goto jM192 jq192_65 ?_
    refine jg_iast (p := 70) rfl jM192 jq192_69 (ja_102 s23.1) c13.1 c13.2 s23 (by decide) (s11.r _ _) ?_
    intro σ26 s26
    refine jaL0 (p := 71) rfl jM192 jq192_70 ?_
    refine jw_getP (p := 74) (i := 19) (q := 103) rfl jM192 jq192_71 rfl (jo_92 s26.1) je_11_19 (jp_92_19 s26.1) ?_
    refine jiL6 (p := 76) rfl jM192 jq192_74 ?_
    refine jiL3 (p := 77) rfl jM192 jq192_76 ?_
    refine jg_iast (p := 78) rfl jM192 jq192_77 (ja_103 s26.1) c13.1 c13.2 s26 (by decide) hl3 ?_
    intro σ27 s27
    refine jaL0 (p := 79) rfl jM192 jq192_78 ?_
    refine jw_getP (p := 82) (i := 22) (q := 106) rfl jM192 jq192_79 rfl (jo_92 s27.1) je_11_22 (jp_92_22 s27.1) ?_
    refine jw_iconst (p := 83) rfl jM192 jq192_82 ?_
    refine jiL6 (p := 85) rfl jM192 jq192_83 ?_
    refine jw_imul (p := 86) rfl jM192 jq192_85 ?_
    refine jiL4 (p := 88) rfl jM192 jq192_86 ?_
    obtain ⟨c28, h28⟩ := jo_i h25
    refine jg_iast (p := 89) rfl jM192 jq192_88 (ja_106 s27.1) c28.1 c28.2 s27 (by decide) (s.r _ _) ?_
    intro σ29 s29
    refine jaL0 (p := 90) rfl jM192 jq192_89 ?_
    refine jw_getP (p := 93) (i := 21) (q := 105) rfl jM192 jq192_90 rfl (jo_92 s29.1) je_11_21 (jp_92_21 s29.1) ?_
    refine jiL6 (p := 95) rfl jM192 jq192_93 ?_
    refine jw_iconst (p := 96) rfl jM192 jq192_95 ?_
    refine jg_iast (p := 97) rfl jM192 jq192_96 (ja_105 s29.1) c13.1 c13.2 s29 (by decide) (jb_rn rfl) ?_
    intro σ30 s30
    refine jaL0 (p := 98) rfl jM192 jq192_97 ?_
    refine jiL6 (p := 100) rfl jM192 jq192_98 ?_
    refine jw_callV [(jb_v x11)] jM192 jq192_100 rfl rfl (jo_92 s30.1) rfl jM174 rfl rfl ?_
    obtain ⟨x31, b32, h32⟩ := jo_b h28
    refine jf174 r11 b32 (fun σ31 s31 => ?_) σ30 s30
    show jb_w (d + 7) 192 103 [some (.ref 92), some (jb_v l1), some (jb_v l2), some (jb_v l3), some (jb_v (G 112 ((G 92 29) - 1))), some (jb_v x7), some (jb_v x11)] [] σ31 Q
    cases h32
    exact jw_vret jM192 jq192_103 (k σ31 s31)
