/-! the reference as functions: written by wip/tools/genf.py (gr5.py) -/
def jo_N : Nat := 4000
def jo_l {α : Type} (v : Int) (f : Int → α) : α := f v
theorem jo_lb {α : Type} {v : Int} {f : Int → α} {r : α} (h : jo_l v f = r) : ∃ x, v = x ∧ f x = r := ⟨v, rfl, h⟩
theorem jo_p {α : Type} {P : Prop} [Decidable P] {a b r : α} (c : P) (h : (if P then a else b) = r) : a = r := (if_pos c).symm.trans h
theorem jo_n {α : Type} {P : Prop} [Decidable P] {a b r : α} (c : ¬ P) (h : (if P then a else b) = r) : b = r := (if_neg c).symm.trans h
theorem jo_i {α : Type} {P : Prop} [Decidable P] {a : Option α} {r : α} (h : (if P then a else none) = some r) : P ∧ a = some r := by
  by_cases c : P
  · exact ⟨c, (if_pos c).symm.trans h⟩
  · rw [if_neg c] at h
    cases h
theorem jo_b {α β : Type} {o : Option α} {f : α → Option β} {r : β} (h : o.bind f = some r) : ∃ x, o = some x ∧ f x = some r := by
  cases o with
  | none => cases h
  | some x => exact ⟨x, rfl, h⟩
-- 166 writesHalf need 3
def fo166 (G : jg_G) (l1 : Int) (l2 : Int) (l3 : Int) : Option (jg_G × Int) := if 0 ≤ G 92 6 ∧ G 92 6 < 1000 then jo_l (fr_ok G) fun x2 => if x2 = 0 then (some (fr_iw G, 0)) else (if 0 ≤ l1 ∧ l1 < 4554 then if 0 ≤ l2 ∧ l2 < 4554 then if 0 ≤ l2 ∧ l2 < 54 then some (jg_u (fr_copies (fr_iw G) l1 l2) 94 l2 l3, 0) else none else none else none) else none
theorem jf166 {d : Nat} {σ0 : ib_H} {Q : ib_O → Prop} {G : jg_G} {l1 : Int} {l2 : Int} {l3 : Int} (hl1 : jb_r l1) (hl2 : jb_r l2) (hl3 : jb_r l3) {r : jg_G × Int} (h : fo166 G l1 l2 l3 = some r) (k : ∀ σ, jg_S σ0 r.1 σ → Q (.inl none, σ)) : jg_W σ0 G (d + 3) 166 0 [some (.ref 92), some (jb_v l1), some (jb_v l2), some (jb_v l3)] [] Q := by
  intro σ s
  unfold fo166 at h
  refine jaL0 (p := 1) rfl jM166 jq166_0 ?_
  refine jw_callV [] jM166 jq166_1 rfl rfl (jo_92 s.1) rfl jM164 rfl rfl ?_
  obtain ⟨c1, h1⟩ := jo_i h
  obtain ⟨x2, e3, h3⟩ := jo_lb h1
  refine cs164 c1 (fun σ2 s2 r2 => ?_) σ s
  rw [e3] at r2 ⊢
  show jb_w (d + 3) 166 4 [some (.ref 92), some (jb_v l1), some (jb_v l2), some (jb_v l3)] [(jb_v x2)] σ2 Q
  refine jw_if (p := 7) rfl jM166 jq166_4 (jc_eq r2 jb_r0) (fun c4 => ?_) (fun c4 => ?_)
  · have h4 := jo_p c4 h3
    cases h4
    exact jw_vret jM166 jq166_20 (k σ2 s2)
  · have h4 := jo_n c4 h3
    refine jaL0 (p := 8) rfl jM166 jq166_7 ?_
    refine jiL1 (p := 9) rfl jM166 jq166_8 ?_
    refine jiL2 (p := 10) rfl jM166 jq166_9 ?_
    refine jw_callV [(jb_v l1), (jb_v l2)] jM166 jq166_10 rfl rfl (jo_92 s2.1) rfl jM148 rfl rfl ?_
    obtain ⟨c5, h5⟩ := jo_i h4
    obtain ⟨c6, h6⟩ := jo_i h5
    refine cs148 c5 c6 (fun σ7 s7 => ?_) σ2 s2
    show jb_w (d + 3) 166 13 [some (.ref 92), some (jb_v l1), some (jb_v l2), some (jb_v l3)] [] σ7 Q
    refine jaL0 (p := 14) rfl jM166 jq166_13 ?_
    refine jw_getP (p := 17) (i := 2) (q := 94) rfl jM166 jq166_14 rfl (jo_92 s7.1) je_11_2 (jp_92_2 s7.1) ?_
    refine jiL2 (p := 18) rfl jM166 jq166_17 ?_
    refine jiL3 (p := 19) rfl jM166 jq166_18 ?_
    obtain ⟨c8, h8⟩ := jo_i h6
    refine jg_iast (p := 20) rfl jM166 jq166_19 (ja_94 s7.1) c8.1 c8.2 s7 (by decide) hl3 ?_
    intro σ9 s9
    cases h8
    exact jw_vret jM166 jq166_20 (k σ9 s9)
-- 167 writesFrame need 4
def fo167_87 : Nat → jg_G → Int → Int → Int → Option (jg_G × Int)
  | 0, _, _, _, _ => none
  | m + 1, G, l1, l2, l3 => if 2 ≤ l3 then (if 0 ≤ l1 ∧ l1 < 4 then some (jg_u G 97 l1 0, 0) else none) else (if -2147483648 ≤ ((4 + (2 * l2)) + l3) ∧ ((4 + (2 * l2)) + l3) < 2147483648 then (fo166 G l1 ((4 + (2 * l2)) + l3) (G 92 3)).bind fun x5 => if -2147483648 ≤ (l3 + 1) ∧ (l3 + 1) < 2147483648 then fo167_87 m (x5.1) l1 l2 (l3 + 1) else none else none)
theorem jf167_87 {d : Nat} {σ0 : ib_H} {Q : ib_O → Prop} : ∀ (m : Nat) {G : jg_G} {l1 : Int} {l2 : Int} {l3 : Int} (hl1 : jb_r l1) (hl2 : jb_r l2) (hl3 : jb_r l3) {r : jg_G × Int} (h : fo167_87 m G l1 l2 l3 = some r) (k : ∀ σ, jg_S σ0 r.1 σ → Q (.inl none, σ)), jg_W σ0 G (d + 4) 167 87 [some (.ref 92), some (jb_v l1), some (jb_v l2), some (jb_v l3)] [] Q := by
  intro m
  induction m with
  | zero =>
    intro G l1 l2 l3 hl1 hl2 hl3 r h k
    cases h
  | succ m ih =>
    intro G l1 l2 l3 hl1 hl2 hl3 r h k σ s
    unfold fo167_87 at h
    refine jiL3 (p := 88) rfl jM167 jq167_87 ?_
    refine jw_iconst (p := 89) rfl jM167 jq167_88 ?_
    refine jw_ic (p := 92) rfl jM167 jq167_89 (jc_ge hl3 (jb_rn rfl)) (fun c1 => ?_) (fun c1 => ?_)
    · have h1 := jo_p c1 h
      refine jaL0 (p := 115) rfl jM167 jq167_114 ?_
      refine jw_getP (p := 118) (i := 11) (q := 97) rfl jM167 jq167_115 rfl (jo_92 s.1) je_11_11 (jp_92_11 s.1) ?_
      refine jiL1 (p := 119) rfl jM167 jq167_118 ?_
      refine jw_iconst (p := 120) rfl jM167 jq167_119 ?_
      obtain ⟨c2, h2⟩ := jo_i h1
      refine jg_iast (p := 121) rfl jM167 jq167_120 (ja_97 s.1) c2.1 c2.2 s (by decide) (jb_rn rfl) ?_
      intro σ3 s3
      cases h2
      exact jw_vret jM167 jq167_121 (k σ3 s3)
    · have h1 := jo_n c1 h
      refine jaL0 (p := 93) rfl jM167 jq167_92 ?_
      refine jiL1 (p := 94) rfl jM167 jq167_93 ?_
      refine jw_iconst (p := 95) rfl jM167 jq167_94 ?_
      refine jw_iconst (p := 96) rfl jM167 jq167_95 ?_
      refine jiL2 (p := 97) rfl jM167 jq167_96 ?_
      refine jw_imul (p := 98) rfl jM167 jq167_97 ?_
      refine jw_iadd (p := 99) rfl jM167 jq167_98 ?_
      refine jiL3 (p := 100) rfl jM167 jq167_99 ?_
      refine jw_iadd (p := 101) rfl jM167 jq167_100 ?_
      refine jaL0 (p := 102) rfl jM167 jq167_101 ?_
      refine jg_getI (p := 105) (i := 3) rfl jM167 jq167_102 rfl (jo_92 s.1) jn_11_3 s (by decide) (by decide) rfl ?_
      refine jw_callV [(jb_v l1), (jb_v ((4 + (2 * l2)) + l3)), (jb_v (G 92 3))] jM167 jq167_105 rfl rfl (jo_92 s.1) rfl jM166 rfl rfl ?_
      obtain ⟨c4, h4⟩ := jo_i h1
      obtain ⟨x5, b6, h6⟩ := jo_b h4
      refine jf166 hl1 c4 (s.r _ _) b6 (fun σ5 s5 => ?_) σ s
      show jb_w (d + 4) 167 108 [some (.ref 92), some (jb_v l1), some (jb_v l2), some (jb_v l3)] [] σ5 Q
      refine jiI3 (p := 111) rfl jM167 jq167_108 ?_
      refine jw_goto jM167 jq167_111 ?_
      obtain ⟨c7, h7⟩ := jo_i h6
      exact ih hl1 hl2 c7 h7 k σ5 s5
def fo167_42 : Nat → jg_G → Int → Int → Int → Option (jg_G × Int)
  | 0, _, _, _, _ => none
  | m + 1, G, l1, l2, l3 => if 2 ≤ l3 then (if G 92 7 = 0 then (fo167_87 jo_N (jg_u G 92 4 l2) l1 l2 0) else (fo167_87 jo_N (jg_u G 92 4 (G 92 4)) l1 l2 0)) else (if -2147483648 ≤ (52 + l3) ∧ (52 + l3) < 2147483648 then (fo166 G l1 (52 + l3) (G 92 3)).bind fun x6 => if -2147483648 ≤ (l3 + 1) ∧ (l3 + 1) < 2147483648 then fo167_42 m (x6.1) l1 l2 (l3 + 1) else none else none)
theorem jf167_42 {d : Nat} {σ0 : ib_H} {Q : ib_O → Prop} : ∀ (m : Nat) {G : jg_G} {l1 : Int} {l2 : Int} {l3 : Int} (hl1 : jb_r l1) (hl2 : jb_r l2) (hl3 : jb_r l3) {r : jg_G × Int} (h : fo167_42 m G l1 l2 l3 = some r) (k : ∀ σ, jg_S σ0 r.1 σ → Q (.inl none, σ)), jg_W σ0 G (d + 4) 167 42 [some (.ref 92), some (jb_v l1), some (jb_v l2), some (jb_v l3)] [] Q := by
  intro m
  induction m with
  | zero =>
    intro G l1 l2 l3 hl1 hl2 hl3 r h k
    cases h
  | succ m ih =>
    intro G l1 l2 l3 hl1 hl2 hl3 r h k σ s
    unfold fo167_42 at h
    refine jiL3 (p := 43) rfl jM167 jq167_42 ?_
    refine jw_iconst (p := 44) rfl jM167 jq167_43 ?_
    refine jw_ic (p := 47) rfl jM167 jq167_44 (jc_ge hl3 (jb_rn rfl)) (fun c1 => ?_) (fun c1 => ?_)
    · have h1 := jo_p c1 h
      refine jaL0 (p := 67) rfl jM167 jq167_66 ?_
      refine jaL0 (p := 68) rfl jM167 jq167_67 ?_
      refine jg_getI (p := 71) (i := 7) rfl jM167 jq167_68 rfl (jo_92 s.1) jn_11_7 s (by decide) (by decide) rfl ?_
      refine jw_if (p := 74) rfl jM167 jq167_71 (jc_eq (s.r _ _) jb_r0) (fun c2 => ?_) (fun c2 => ?_)
      · have h2 := jo_p c2 h1
        refine jiL2 (p := 82) rfl jM167 jq167_81 ?_
        refine jg_putI (p := 85) (i := 4) rfl jM167 jq167_82 rfl (jo_92 s.1) (Or.inl jz_11_4) s (by decide) (by decide) hl2 ?_
        intro σ3 s3
        refine jw_iconst (p := 86) rfl jM167 jq167_85 ?_
        refine jiS3 (p := 87) rfl jM167 jq167_86 ?_
        exact jf167_87 jo_N hl1 hl2 (jb_rn rfl) h2 k σ3 s3
      · have h2 := jo_n c2 h1
        refine jaL0 (p := 75) rfl jM167 jq167_74 ?_
        refine jg_getI (p := 78) (i := 4) rfl jM167 jq167_75 rfl (jo_92 s.1) jn_11_4 s (by decide) (by decide) rfl ?_
        refine jw_goto jM167 jq167_78 ?_
        refine jg_putI (p := 85) (i := 4) rfl jM167 jq167_82 rfl (jo_92 s.1) (Or.inl jz_11_4) s (by decide) (by decide) (s.r _ _) ?_
        intro σ4 s4
        refine jw_iconst (p := 86) rfl jM167 jq167_85 ?_
        refine jiS3 (p := 87) rfl jM167 jq167_86 ?_
        exact jf167_87 jo_N hl1 hl2 (jb_rn rfl) h2 k σ4 s4
    · have h1 := jo_n c1 h
      refine jaL0 (p := 48) rfl jM167 jq167_47 ?_
      refine jiL1 (p := 49) rfl jM167 jq167_48 ?_
      refine jw_bipush (p := 51) rfl jM167 jq167_49 (by decide) ?_
      refine jiL3 (p := 52) rfl jM167 jq167_51 ?_
      refine jw_iadd (p := 53) rfl jM167 jq167_52 ?_
      refine jaL0 (p := 54) rfl jM167 jq167_53 ?_
      refine jg_getI (p := 57) (i := 3) rfl jM167 jq167_54 rfl (jo_92 s.1) jn_11_3 s (by decide) (by decide) rfl ?_
      refine jw_callV [(jb_v l1), (jb_v (52 + l3)), (jb_v (G 92 3))] jM167 jq167_57 rfl rfl (jo_92 s.1) rfl jM166 rfl rfl ?_
      obtain ⟨c5, h5⟩ := jo_i h1
      obtain ⟨x6, b7, h7⟩ := jo_b h5
      refine jf166 hl1 c5 (s.r _ _) b7 (fun σ6 s6 => ?_) σ s
      show jb_w (d + 4) 167 60 [some (.ref 92), some (jb_v l1), some (jb_v l2), some (jb_v l3)] [] σ6 Q
      refine jiI3 (p := 63) rfl jM167 jq167_60 ?_
      refine jw_goto jM167 jq167_63 ?_
      obtain ⟨c8, h8⟩ := jo_i h7
      exact ih hl1 hl2 c8 h8 k σ6 s6
def fo167 (G : jg_G) (l1 : Int) : Option (jg_G × Int) := if 0 ≤ l1 ∧ l1 < 4 then if 0 ≤ ((67 * l1) + 1) ∧ ((67 * l1) + 1) < 305118 then if 0 ≤ (G 93 ((67 * l1) + 1)) ∧ (G 93 ((67 * l1) + 1)) < 1501 then if 0 ≤ G 92 6 ∧ G 92 6 < 1000 then if 0 ≤ G 92 13 then if (fr_ha G (G 93 ((67 * l1) + 1))) 92 7 = 0 then (fo167_42 jo_N (jg_u (fr_ha G (G 93 ((67 * l1) + 1))) 92 3 (jb_m (((fr_ha G (G 93 ((67 * l1) + 1))) 92 3) + 1))) l1 (G 95 l1) 0) else (some (fr_ha G (G 93 ((67 * l1) + 1)), 0)) else none else none else none else none else none
theorem jf167 {d : Nat} {σ0 : ib_H} {Q : ib_O → Prop} {G : jg_G} {l1 : Int} (hl1 : jb_r l1) {r : jg_G × Int} (h : fo167 G l1 = some r) (k : ∀ σ, jg_S σ0 r.1 σ → Q (.inl none, σ)) : jg_W σ0 G (d + 4) 167 0 [some (.ref 92), some (jb_v l1), none, none] [] Q := by
  intro σ s
  unfold fo167 at h
  refine jaL0 (p := 1) rfl jM167 jq167_0 ?_
  refine jw_getP (p := 4) (i := 9) (q := 95) rfl jM167 jq167_1 rfl (jo_92 s.1) je_11_9 (jp_92_9 s.1) ?_
  refine jiL1 (p := 5) rfl jM167 jq167_4 ?_
  obtain ⟨c1, h1⟩ := jo_i h
  refine jg_iald (p := 6) rfl jM167 jq167_5 (ja_95 s.1) c1.1 c1.2 s (by decide) rfl ?_
  refine jiS2 (p := 7) rfl jM167 jq167_6 ?_
  refine jaL0 (p := 8) rfl jM167 jq167_7 ?_
  refine jaL0 (p := 9) rfl jM167 jq167_8 ?_
  refine jw_getP (p := 12) (i := 1) (q := 93) rfl jM167 jq167_9 rfl (jo_92 s.1) je_11_1 (jp_92_1 s.1) ?_
  refine jw_bipush (p := 14) rfl jM167 jq167_12 (by decide) ?_
  refine jiL1 (p := 15) rfl jM167 jq167_14 ?_
  refine jw_imul (p := 16) rfl jM167 jq167_15 ?_
  refine jw_iconst (p := 17) rfl jM167 jq167_16 ?_
  refine jw_iadd (p := 18) rfl jM167 jq167_17 ?_
  obtain ⟨c2, h2⟩ := jo_i h1
  refine jg_iald (p := 19) rfl jM167 jq167_18 (ja_93 s.1) c2.1 c2.2 s (by decide) rfl ?_
  refine jw_callV [(jb_v (G 93 ((67 * l1) + 1)))] jM167 jq167_19 rfl rfl (jo_92 s.1) rfl jM165 rfl rfl ?_
  obtain ⟨c3, h3⟩ := jo_i h2
  obtain ⟨c4, h4⟩ := jo_i h3
  obtain ⟨c5, h5⟩ := jo_i h4
  refine cs165' c3 c4 c5 (fun σ6 s6 => ?_) σ s
  show jb_w (d + 4) 167 22 [some (.ref 92), some (jb_v l1), some (jb_v (G 95 l1)), none] [] σ6 Q
  refine jaL0 (p := 23) rfl jM167 jq167_22 ?_
  refine jg_getI (p := 26) (i := 7) rfl jM167 jq167_23 rfl (jo_92 s6.1) jn_11_7 s6 (by decide) (by decide) rfl ?_
  refine jw_if (p := 29) rfl jM167 jq167_26 (jc_eq (s6.r _ _) jb_r0) (fun c7 => ?_) (fun c7 => ?_)
  · have h7 := jo_p c7 h5
    refine jaL0 (p := 31) rfl jM167 jq167_30 ?_
    refine jw_dupA (p := 32) rfl jM167 jq167_31 ?_
    refine jg_getI (p := 35) (i := 3) rfl jM167 jq167_32 rfl (jo_92 s6.1) jn_11_3 s6 (by decide) (by decide) rfl ?_
    refine jw_iconst (p := 36) rfl jM167 jq167_35 ?_
    refine jw_iadd (p := 37) rfl jM167 jq167_36 ?_
    refine jg_putM (p := 40) (i := 3) rfl jM167 jq167_37 rfl (jo_92 s6.1) (Or.inl jz_11_3) s6 (by decide) (by decide) ?_
    intro σ8 s8
    refine jw_iconst (p := 41) rfl jM167 jq167_40 ?_
    refine jiS3 (p := 42) rfl jM167 jq167_41 ?_
    exact jf167_42 jo_N hl1 (s.r _ _) (jb_rn rfl) h7 k σ8 s8
  · have h7 := jo_n c7 h5
    cases h7
    exact jw_vret jM167 jq167_29 (k σ6 s6)
-- 168 uses need 5
def fo168_125 (G : jg_G) (l1 : Int) (l2 : Int) : Option (jg_G × Int) := if 0 ≤ l2 ∧ l2 < 4 then some (jg_u G 96 l2 1, 0) else none
theorem jf168_125 {d : Nat} {σ0 : ib_H} {Q : ib_O → Prop} {G : jg_G} {l1 : Int} {l2 : Int} (hl1 : jb_r l1) (hl2 : jb_r l2) {r : jg_G × Int} (h : fo168_125 G l1 l2 = some r) (k : ∀ σ, jg_S σ0 r.1 σ → Q (.inl none, σ)) : jg_W σ0 G (d + 5) 168 125 [some (.ref 92), some (jb_v l1), some (jb_v l2)] [] Q := by
  intro σ s
  unfold fo168_125 at h
  refine jaL0 (p := 126) rfl jM168 jq168_125 ?_
  refine jw_getP (p := 129) (i := 10) (q := 96) rfl jM168 jq168_126 rfl (jo_92 s.1) je_11_10 (jp_92_10 s.1) ?_
  refine jiL2 (p := 130) rfl jM168 jq168_129 ?_
  refine jw_iconst (p := 131) rfl jM168 jq168_130 ?_
  obtain ⟨c1, h1⟩ := jo_i h
  refine jg_bast (p := 132) rfl jM168 jq168_131 (ja_96 s.1) c1.1 c1.2 (Or.inr rfl) s (by decide) ?_
  intro σ2 s2
  cases h1
  exact jw_vret jM168 jq168_132 (k σ2 s2)
def fo168_100 (G : jg_G) (l1 : Int) (l2 : Int) : Option (jg_G × Int) := if G 92 7 = 0 then (if 0 ≤ l2 ∧ l2 < 4 then if 0 ≤ (4 + (2 * l1)) ∧ (4 + (2 * l1)) < 4554 then if 0 ≤ l2 ∧ l2 < 4554 then fo168_125 (fr_copies (jg_u G 95 l2 l1) (4 + (2 * l1)) l2) l1 l2 else none else none else none) else (some (G, 0))
theorem jf168_100 {d : Nat} {σ0 : ib_H} {Q : ib_O → Prop} {G : jg_G} {l1 : Int} {l2 : Int} (hl1 : jb_r l1) (hl2 : jb_r l2) {r : jg_G × Int} (h : fo168_100 G l1 l2 = some r) (k : ∀ σ, jg_S σ0 r.1 σ → Q (.inl none, σ)) : jg_W σ0 G (d + 5) 168 100 [some (.ref 92), some (jb_v l1), some (jb_v l2)] [] Q := by
  intro σ s
  unfold fo168_100 at h
  refine jaL0 (p := 101) rfl jM168 jq168_100 ?_
  refine jg_getI (p := 104) (i := 7) rfl jM168 jq168_101 rfl (jo_92 s.1) jn_11_7 s (by decide) (by decide) rfl ?_
  refine jw_if (p := 107) rfl jM168 jq168_104 (jc_eq (s.r _ _) jb_r0) (fun c1 => ?_) (fun c1 => ?_)
  · have h1 := jo_p c1 h
    refine jaL0 (p := 109) rfl jM168 jq168_108 ?_
    refine jw_getP (p := 112) (i := 9) (q := 95) rfl jM168 jq168_109 rfl (jo_92 s.1) je_11_9 (jp_92_9 s.1) ?_
    refine jiL2 (p := 113) rfl jM168 jq168_112 ?_
    refine jiL1 (p := 114) rfl jM168 jq168_113 ?_
    obtain ⟨c2, h2⟩ := jo_i h1
    refine jg_iast (p := 115) rfl jM168 jq168_114 (ja_95 s.1) c2.1 c2.2 s (by decide) hl1 ?_
    intro σ3 s3
    refine jaL0 (p := 116) rfl jM168 jq168_115 ?_
    refine jw_iconst (p := 117) rfl jM168 jq168_116 ?_
    refine jw_iconst (p := 118) rfl jM168 jq168_117 ?_
    refine jiL1 (p := 119) rfl jM168 jq168_118 ?_
    refine jw_imul (p := 120) rfl jM168 jq168_119 ?_
    refine jw_iadd (p := 121) rfl jM168 jq168_120 ?_
    refine jiL2 (p := 122) rfl jM168 jq168_121 ?_
    refine jw_callV [(jb_v (4 + (2 * l1))), (jb_v l2)] jM168 jq168_122 rfl rfl (jo_92 s3.1) rfl jM148 rfl rfl ?_
    obtain ⟨c4, h4⟩ := jo_i h2
    obtain ⟨c5, h5⟩ := jo_i h4
    refine cs148 c4 c5 (fun σ6 s6 => ?_) σ3 s3
    show jb_w (d + 5) 168 125 [some (.ref 92), some (jb_v l1), some (jb_v l2)] [] σ6 Q
    exact jf168_125 hl1 hl2 h5 k σ6 s6
  · have h1 := jo_n c1 h
    cases h1
    exact jw_vret jM168 jq168_107 (k σ s)
def fo168_19 : Nat → jg_G → Int → Int → Option (jg_G × Int)
  | 0, _, _, _ => none
  | m + 1, G, l1, l2 => if 0 ≤ (G 92 8) ∧ (G 92 8) < 4 then if G 95 (G 92 8) = (-1) then (if -2147483648 ≤ ((G 92 8) + 1) ∧ ((G 92 8) + 1) < 2147483648 then if 0 ≤ ((G 92 8) + 1) then if G 97 (G 92 8) ≤ 0 then (fo168_100 (jg_u G 92 8 (((G 92 8) + 1) % 4)) l1 (G 92 8)) else ((fo167 (jg_u G 92 8 (((G 92 8) + 1) % 4)) (G 92 8)).bind fun x7 => fo168_100 (x7.1) l1 (G 92 8)) else none else none) else (if G 96 (G 92 8) = 0 then (if -2147483648 ≤ ((G 92 8) + 1) ∧ ((G 92 8) + 1) < 2147483648 then if 0 ≤ ((G 92 8) + 1) then if G 97 (G 92 8) ≤ 0 then (fo168_100 (jg_u G 92 8 (((G 92 8) + 1) % 4)) l1 (G 92 8)) else ((fo167 (jg_u G 92 8 (((G 92 8) + 1) % 4)) (G 92 8)).bind fun x14 => fo168_100 (x14.1) l1 (G 92 8)) else none else none) else (if -2147483648 ≤ ((G 92 8) + 1) ∧ ((G 92 8) + 1) < 2147483648 then if 0 ≤ ((G 92 8) + 1) then fo168_19 m (jg_u (jg_u G 96 (G 92 8) 0) 92 8 (((G 92 8) + 1) % 4)) l1 l2 else none else none)) else none
theorem jf168_19 {d : Nat} {σ0 : ib_H} {Q : ib_O → Prop} : ∀ (m : Nat) {G : jg_G} {l1 : Int} {l2 : Int} (hl1 : jb_r l1) (hl2 : jb_r l2) {r : jg_G × Int} (h : fo168_19 m G l1 l2 = some r) (k : ∀ σ, jg_S σ0 r.1 σ → Q (.inl none, σ)), jg_W σ0 G (d + 5) 168 19 [some (.ref 92), some (jb_v l1), some (jb_v l2)] [] Q := by
  intro m
  induction m with
  | zero =>
    intro G l1 l2 hl1 hl2 r h k
    cases h
  | succ m ih =>
    intro G l1 l2 hl1 hl2 r h k σ s
    unfold fo168_19 at h
    refine jaL0 (p := 20) rfl jM168 jq168_19 ?_
    refine jw_getP (p := 23) (i := 9) (q := 95) rfl jM168 jq168_20 rfl (jo_92 s.1) je_11_9 (jp_92_9 s.1) ?_
    refine jaL0 (p := 24) rfl jM168 jq168_23 ?_
    refine jg_getI (p := 27) (i := 8) rfl jM168 jq168_24 rfl (jo_92 s.1) jn_11_8 s (by decide) (by decide) rfl ?_
    obtain ⟨c1, h1⟩ := jo_i h
    refine jg_iald (p := 28) rfl jM168 jq168_27 (ja_95 s.1) c1.1 c1.2 s (by decide) rfl ?_
    refine jw_iconst (p := 29) rfl jM168 jq168_28 ?_
    refine jw_ic (p := 32) rfl jM168 jq168_29 (jc_eq (s.r _ _) (jb_rn rfl)) (fun c2 => ?_) (fun c2 => ?_)
    · have h2 := jo_p c2 h1
      refine jaL0 (p := 70) rfl jM168 jq168_69 ?_
      refine jg_getI (p := 73) (i := 8) rfl jM168 jq168_70 rfl (jo_92 s.1) jn_11_8 s (by decide) (by decide) rfl ?_
      refine jiS2 (p := 74) rfl jM168 jq168_73 ?_
      refine jaL0 (p := 75) rfl jM168 jq168_74 ?_
      refine jaL0 (p := 76) rfl jM168 jq168_75 ?_
      refine jg_getI (p := 79) (i := 8) rfl jM168 jq168_76 rfl (jo_92 s.1) jn_11_8 s (by decide) (by decide) rfl ?_
      refine jw_iconst (p := 80) rfl jM168 jq168_79 ?_
      refine jw_iadd (p := 81) rfl jM168 jq168_80 ?_
      refine jw_iconst (p := 82) rfl jM168 jq168_81 ?_
      obtain ⟨c3, h3⟩ := jo_i h2
      obtain ⟨c4, h4⟩ := jo_i h3
      refine jw_irem (p := 83) rfl jM168 jq168_82 c4 c3 (by decide) (jb_rn rfl) ?_
      refine jg_putI (p := 86) (i := 8) rfl jM168 jq168_83 rfl (jo_92 s.1) (Or.inl jz_11_8) s (by decide) (by decide) (jb_r_rem c4 c3 (by decide)) ?_
      intro σ5 s5
      refine jaL0 (p := 87) rfl jM168 jq168_86 ?_
      refine jw_getP (p := 90) (i := 11) (q := 97) rfl jM168 jq168_87 rfl (jo_92 s5.1) je_11_11 (jp_92_11 s5.1) ?_
      refine jiL2 (p := 91) rfl jM168 jq168_90 ?_
      refine jg_iald (p := 92) rfl jM168 jq168_91 (ja_97 s5.1) c1.1 c1.2 s5 (by decide) (jg_uN (by decide)) ?_
      refine jw_if (p := 95) rfl jM168 jq168_92 (jc_le (s.r _ _) jb_r0) (fun c6 => ?_) (fun c6 => ?_)
      · have h6 := jo_p c6 h4
        exact jf168_100 hl1 (s.r _ _) h6 k σ5 s5
      · have h6 := jo_n c6 h4
        refine jaL0 (p := 96) rfl jM168 jq168_95 ?_
        refine jiL2 (p := 97) rfl jM168 jq168_96 ?_
        refine jw_callV [(jb_v (G 92 8))] jM168 jq168_97 rfl rfl (jo_92 s5.1) rfl jM167 rfl rfl ?_
        obtain ⟨x7, b8, h8⟩ := jo_b h6
        refine jf167 (s.r _ _) b8 (fun σ7 s7 => ?_) σ5 s5
        show jb_w (d + 5) 168 100 [some (.ref 92), some (jb_v l1), some (jb_v (G 92 8))] [] σ7 Q
        exact jf168_100 hl1 (s.r _ _) h8 k σ7 s7
    · have h2 := jo_n c2 h1
      refine jaL0 (p := 33) rfl jM168 jq168_32 ?_
      refine jw_getP (p := 36) (i := 10) (q := 96) rfl jM168 jq168_33 rfl (jo_92 s.1) je_11_10 (jp_92_10 s.1) ?_
      refine jaL0 (p := 37) rfl jM168 jq168_36 ?_
      refine jg_getI (p := 40) (i := 8) rfl jM168 jq168_37 rfl (jo_92 s.1) jn_11_8 s (by decide) (by decide) rfl ?_
      refine jg_bald (p := 41) rfl jM168 jq168_40 (ja_96 s.1) c1.1 c1.2 s (by decide) rfl ?_
      refine jw_if (p := 44) rfl jM168 jq168_41 (jc_eq (s.r _ _) jb_r0) (fun c9 => ?_) (fun c9 => ?_)
      · have h9 := jo_p c9 h2
        refine jaL0 (p := 70) rfl jM168 jq168_69 ?_
        refine jg_getI (p := 73) (i := 8) rfl jM168 jq168_70 rfl (jo_92 s.1) jn_11_8 s (by decide) (by decide) rfl ?_
        refine jiS2 (p := 74) rfl jM168 jq168_73 ?_
        refine jaL0 (p := 75) rfl jM168 jq168_74 ?_
        refine jaL0 (p := 76) rfl jM168 jq168_75 ?_
        refine jg_getI (p := 79) (i := 8) rfl jM168 jq168_76 rfl (jo_92 s.1) jn_11_8 s (by decide) (by decide) rfl ?_
        refine jw_iconst (p := 80) rfl jM168 jq168_79 ?_
        refine jw_iadd (p := 81) rfl jM168 jq168_80 ?_
        refine jw_iconst (p := 82) rfl jM168 jq168_81 ?_
        obtain ⟨c10, h10⟩ := jo_i h9
        obtain ⟨c11, h11⟩ := jo_i h10
        refine jw_irem (p := 83) rfl jM168 jq168_82 c11 c10 (by decide) (jb_rn rfl) ?_
        refine jg_putI (p := 86) (i := 8) rfl jM168 jq168_83 rfl (jo_92 s.1) (Or.inl jz_11_8) s (by decide) (by decide) (jb_r_rem c11 c10 (by decide)) ?_
        intro σ12 s12
        refine jaL0 (p := 87) rfl jM168 jq168_86 ?_
        refine jw_getP (p := 90) (i := 11) (q := 97) rfl jM168 jq168_87 rfl (jo_92 s12.1) je_11_11 (jp_92_11 s12.1) ?_
        refine jiL2 (p := 91) rfl jM168 jq168_90 ?_
        refine jg_iald (p := 92) rfl jM168 jq168_91 (ja_97 s12.1) c1.1 c1.2 s12 (by decide) (jg_uN (by decide)) ?_
        refine jw_if (p := 95) rfl jM168 jq168_92 (jc_le (s.r _ _) jb_r0) (fun c13 => ?_) (fun c13 => ?_)
        · have h13 := jo_p c13 h11
          exact jf168_100 hl1 (s.r _ _) h13 k σ12 s12
        · have h13 := jo_n c13 h11
          refine jaL0 (p := 96) rfl jM168 jq168_95 ?_
          refine jiL2 (p := 97) rfl jM168 jq168_96 ?_
          refine jw_callV [(jb_v (G 92 8))] jM168 jq168_97 rfl rfl (jo_92 s12.1) rfl jM167 rfl rfl ?_
          obtain ⟨x14, b15, h15⟩ := jo_b h13
          refine jf167 (s.r _ _) b15 (fun σ14 s14 => ?_) σ12 s12
          show jb_w (d + 5) 168 100 [some (.ref 92), some (jb_v l1), some (jb_v (G 92 8))] [] σ14 Q
          exact jf168_100 hl1 (s.r _ _) h15 k σ14 s14
      · have h9 := jo_n c9 h2
        refine jaL0 (p := 45) rfl jM168 jq168_44 ?_
        refine jw_getP (p := 48) (i := 10) (q := 96) rfl jM168 jq168_45 rfl (jo_92 s.1) je_11_10 (jp_92_10 s.1) ?_
        refine jaL0 (p := 49) rfl jM168 jq168_48 ?_
        refine jg_getI (p := 52) (i := 8) rfl jM168 jq168_49 rfl (jo_92 s.1) jn_11_8 s (by decide) (by decide) rfl ?_
        refine jw_iconst (p := 53) rfl jM168 jq168_52 ?_
        refine jg_bast (p := 54) rfl jM168 jq168_53 (ja_96 s.1) c1.1 c1.2 (Or.inl rfl) s (by decide) ?_
        intro σ16 s16
        refine jaL0 (p := 55) rfl jM168 jq168_54 ?_
        refine jaL0 (p := 56) rfl jM168 jq168_55 ?_
        refine jg_getI (p := 59) (i := 8) rfl jM168 jq168_56 rfl (jo_92 s16.1) jn_11_8 s16 (by decide) (by decide) (jg_uN (by decide)) ?_
        refine jw_iconst (p := 60) rfl jM168 jq168_59 ?_
        refine jw_iadd (p := 61) rfl jM168 jq168_60 ?_
        refine jw_iconst (p := 62) rfl jM168 jq168_61 ?_
        obtain ⟨c17, h17⟩ := jo_i h9
        obtain ⟨c18, h18⟩ := jo_i h17
        refine jw_irem (p := 63) rfl jM168 jq168_62 c18 c17 (by decide) (jb_rn rfl) ?_
        refine jg_putI (p := 66) (i := 8) rfl jM168 jq168_63 rfl (jo_92 s16.1) (Or.inl jz_11_8) s16 (by decide) (by decide) (jb_r_rem c18 c17 (by decide)) ?_
        intro σ19 s19
        refine jw_goto jM168 jq168_66 ?_
        exact ih hl1 hl2 h18 k σ19 s19
def fo168_14 (G : jg_G) (l1 : Int) (l2 : Int) : Option (jg_G × Int) := if l2 = (-1) then (fo168_19 jo_N G l1 l2) else (fo168_125 G l1 l2)
theorem jf168_14 {d : Nat} {σ0 : ib_H} {Q : ib_O → Prop} {G : jg_G} {l1 : Int} {l2 : Int} (hl1 : jb_r l1) (hl2 : jb_r l2) {r : jg_G × Int} (h : fo168_14 G l1 l2 = some r) (k : ∀ σ, jg_S σ0 r.1 σ → Q (.inl none, σ)) : jg_W σ0 G (d + 5) 168 14 [some (.ref 92), some (jb_v l1), some (jb_v l2)] [] Q := by
  intro σ s
  unfold fo168_14 at h
  refine jiL2 (p := 15) rfl jM168 jq168_14 ?_
  refine jw_iconst (p := 16) rfl jM168 jq168_15 ?_
  refine jw_ic (p := 19) rfl jM168 jq168_16 (jc_ne hl2 (jb_rn rfl)) (fun c1 => ?_) (fun c1 => ?_)
  · have h1 := jo_n c1 h
    exact jf168_125 hl1 hl2 h1 k σ s
  · have h1 := jo_p (Decidable.byContradiction c1) h
    exact jf168_19 jo_N hl1 hl2 h1 k σ s
def fo168 (G : jg_G) (l1 : Int) : Option (jg_G × Int) := if G 92 7 = 0 then (jo_l (fr_fo G l1) fun x2 => fo168_14 G l1 x2) else (some (G, 0))
theorem jf168 {d : Nat} {σ0 : ib_H} {Q : ib_O → Prop} {G : jg_G} {l1 : Int} (hl1 : jb_r l1) {r : jg_G × Int} (h : fo168 G l1 = some r) (k : ∀ σ, jg_S σ0 r.1 σ → Q (.inl none, σ)) : jg_W σ0 G (d + 5) 168 0 [some (.ref 92), some (jb_v l1), none] [] Q := by
  intro σ s
  unfold fo168 at h
  refine jaL0 (p := 1) rfl jM168 jq168_0 ?_
  refine jg_getI (p := 4) (i := 7) rfl jM168 jq168_1 rfl (jo_92 s.1) jn_11_7 s (by decide) (by decide) rfl ?_
  refine jw_if (p := 7) rfl jM168 jq168_4 (jc_eq (s.r _ _) jb_r0) (fun c1 => ?_) (fun c1 => ?_)
  · have h1 := jo_p c1 h
    refine jaL0 (p := 9) rfl jM168 jq168_8 ?_
    refine jiL1 (p := 10) rfl jM168 jq168_9 ?_
    refine jw_callV [(jb_v l1)] jM168 jq168_10 rfl rfl (jo_92 s.1) rfl jM160 rfl rfl ?_
    obtain ⟨x2, e3, h3⟩ := jo_lb h1
    refine cs160 hl1 (fun σ2 s2 r2 => ?_) σ s
    rw [e3] at r2 ⊢
    show jb_w (d + 5) 168 13 [some (.ref 92), some (jb_v l1), none] [(jb_v x2)] σ2 Q
    refine jiS2 (p := 14) rfl jM168 jq168_13 ?_
    exact jf168_14 hl1 r2 h3 k σ2 s2
  · have h1 := jo_n c1 h
    cases h1
    exact jw_vret jM168 jq168_7 (k σ s)
-- 176 free need 2
def fo176_2 : Nat → jg_G → Int → Int → Option (jg_G × Int)
  | 0, _, _, _ => none
  | m + 1, G, l1, l2 => if 24 ≤ l2 then (some (G, l2)) else (if 0 ≤ l2 ∧ l2 < 24 then jo_l (fr_ro G l2) fun x3 => if 0 ≤ (67 * x3) ∧ (67 * x3) < 305118 then if G 93 (67 * x3) = 0 then (some (G, l2)) else (if -2147483648 ≤ (l2 + 1) ∧ (l2 + 1) < 2147483648 then fo176_2 m G l1 (l2 + 1) else none) else none else none)
theorem jf176_2 {d : Nat} {σ0 : ib_H} {Q : ib_O → Prop} : ∀ (m : Nat) {G : jg_G} {l1 : Int} {l2 : Int} (hl1 : jb_r l1) (hl2 : jb_r l2) {r : jg_G × Int} (h : fo176_2 m G l1 l2 = some r) (k : ∀ σ, jg_S σ0 r.1 σ → jb_r r.2 → Q (.inl (some (jb_v r.2)), σ)), jg_W σ0 G (d + 2) 176 2 [some (.ref 92), some (jb_v l1), some (jb_v l2)] [] Q := by
  intro m
  induction m with
  | zero =>
    intro G l1 l2 hl1 hl2 r h k
    cases h
  | succ m ih =>
    intro G l1 l2 hl1 hl2 r h k σ s
    unfold fo176_2 at h
    refine jiL2 (p := 3) rfl jM176 jq176_2 ?_
    refine jw_bipush (p := 5) rfl jM176 jq176_3 (by decide) ?_
    refine jw_ic (p := 8) rfl jM176 jq176_5 (jc_ge hl2 (jb_rn rfl)) (fun c1 => ?_) (fun c1 => ?_)
    · have h1 := jo_p c1 h
      refine jiL2 (p := 27) rfl jM176 jq176_26 ?_
      cases h1
      exact jw_iret jM176 jq176_27 (fun z => absurd z (by decide)) (k σ s hl2)
    · have h1 := jo_n c1 h
      refine jaL0 (p := 9) rfl jM176 jq176_8 ?_
      refine jaL0 (p := 10) rfl jM176 jq176_9 ?_
      refine jiL2 (p := 11) rfl jM176 jq176_10 ?_
      refine jw_callV [(jb_v l2)] jM176 jq176_11 rfl rfl (jo_92 s.1) rfl jM161 rfl rfl ?_
      obtain ⟨c2, h2⟩ := jo_i h1
      obtain ⟨x3, e4, h4⟩ := jo_lb h2
      refine cs161 c2 (fun σ3 s3 r3 => ?_) σ s
      rw [e4] at r3 ⊢
      show jb_w (d + 2) 176 14 [some (.ref 92), some (jb_v l1), some (jb_v l2)] [(jb_v x3), (.ref 92)] σ3 Q
      refine jw_callV [(jb_v x3)] jM176 jq176_14 rfl rfl (jo_92 s3.1) rfl jM149 rfl rfl ?_
      show jb_w (d + 1) 149 0 [some (.ref 92), some (jb_v x3)] [] σ3 (jb_k (d + 2) 176 14 [some (.ref 92), some (jb_v l1), some (jb_v l2)] [] Q)
      refine jaL0 (p := 1) rfl jM149 jq149_0 ?_
      refine jw_getP (p := 4) (i := 1) (q := 93) rfl jM149 jq149_1 rfl (jo_92 s3.1) je_11_1 (jp_92_1 s3.1) ?_
      refine jw_bipush (p := 6) rfl jM149 jq149_4 (by decide) ?_
      refine jiL1 (p := 7) rfl jM149 jq149_6 ?_
      refine jw_imul (p := 8) rfl jM149 jq149_7 ?_
      obtain ⟨c5, h5⟩ := jo_i h4
      refine jg_iald (p := 9) rfl jM149 jq149_8 (ja_93 s3.1) c5.1 c5.2 s3 (by decide) rfl ?_
      refine jw_iret jM149 jq149_9 (fun z => absurd z (by decide)) ?_
      show jb_w (d + 2) 176 17 [some (.ref 92), some (jb_v l1), some (jb_v l2)] [(jb_v (G 93 (67 * x3)))] σ3 Q
      refine jw_if (p := 20) rfl jM176 jq176_17 (jc_eq (s.r _ _) jb_r0) (fun c6 => ?_) (fun c6 => ?_)
      · have h6 := jo_p c6 h5
        refine jiL2 (p := 27) rfl jM176 jq176_26 ?_
        cases h6
        exact jw_iret jM176 jq176_27 (fun z => absurd z (by decide)) (k σ3 s3 hl2)
      · have h6 := jo_n c6 h5
        refine jiI2 (p := 23) rfl jM176 jq176_20 ?_
        refine jw_goto jM176 jq176_23 ?_
        obtain ⟨c7, h7⟩ := jo_i h6
        exact ih hl1 c7 h7 k σ3 s3
def fo176 (G : jg_G) (l1 : Int) : Option (jg_G × Int) := fo176_2 jo_N G l1 l1
theorem jf176 {d : Nat} {σ0 : ib_H} {Q : ib_O → Prop} {G : jg_G} {l1 : Int} (hl1 : jb_r l1) {r : jg_G × Int} (h : fo176 G l1 = some r) (k : ∀ σ, jg_S σ0 r.1 σ → jb_r r.2 → Q (.inl (some (jb_v r.2)), σ)) : jg_W σ0 G (d + 2) 176 0 [some (.ref 92), some (jb_v l1), none] [] Q := by
  intro σ s
  unfold fo176 at h
  refine jiL1 (p := 1) rfl jM176 jq176_0 ?_
  refine jiS2 (p := 2) rfl jM176 jq176_1 ?_
  exact jf176_2 jo_N hl1 hl1 h k σ s
-- 177 isFull need 2
def fo177 (G : jg_G) (l1 : Int) : Option (jg_G × Int) := if 0 ≤ l1 ∧ l1 < 24 then jo_l (fr_ro G l1) fun x2 => if 0 ≤ ((67 * x2) + 2) ∧ ((67 * x2) + 2) < 305118 then if G 93 ((67 * x2) + 2) < 4 then (some (G, 0)) else (some (G, 1)) else none else none
theorem jf177 {d : Nat} {σ0 : ib_H} {Q : ib_O → Prop} {G : jg_G} {l1 : Int} (hl1 : jb_r l1) {r : jg_G × Int} (h : fo177 G l1 = some r) (k : ∀ σ, jg_S σ0 r.1 σ → jb_r r.2 → Q (.inl (some (jb_v r.2)), σ)) : jg_W σ0 G (d + 2) 177 0 [some (.ref 92), some (jb_v l1)] [] Q := by
  intro σ s
  unfold fo177 at h
  refine jaL0 (p := 1) rfl jM177 jq177_0 ?_
  refine jaL0 (p := 2) rfl jM177 jq177_1 ?_
  refine jiL1 (p := 3) rfl jM177 jq177_2 ?_
  refine jw_callV [(jb_v l1)] jM177 jq177_3 rfl rfl (jo_92 s.1) rfl jM161 rfl rfl ?_
  obtain ⟨c1, h1⟩ := jo_i h
  obtain ⟨x2, e3, h3⟩ := jo_lb h1
  refine cs161 c1 (fun σ2 s2 r2 => ?_) σ s
  rw [e3] at r2 ⊢
  show jb_w (d + 2) 177 6 [some (.ref 92), some (jb_v l1)] [(jb_v x2), (.ref 92)] σ2 Q
  refine jw_callV [(jb_v x2)] jM177 jq177_6 rfl rfl (jo_92 s2.1) rfl jM150 rfl rfl ?_
  show jb_w (d + 1) 150 0 [some (.ref 92), some (jb_v x2)] [] σ2 (jb_k (d + 2) 177 6 [some (.ref 92), some (jb_v l1)] [] Q)
  refine jaL0 (p := 1) rfl jM150 jq150_0 ?_
  refine jw_getP (p := 4) (i := 1) (q := 93) rfl jM150 jq150_1 rfl (jo_92 s2.1) je_11_1 (jp_92_1 s2.1) ?_
  refine jw_bipush (p := 6) rfl jM150 jq150_4 (by decide) ?_
  refine jiL1 (p := 7) rfl jM150 jq150_6 ?_
  refine jw_imul (p := 8) rfl jM150 jq150_7 ?_
  refine jw_iconst (p := 9) rfl jM150 jq150_8 ?_
  refine jw_iadd (p := 10) rfl jM150 jq150_9 ?_
  obtain ⟨c4, h4⟩ := jo_i h3
  refine jg_iald (p := 11) rfl jM150 jq150_10 (ja_93 s2.1) c4.1 c4.2 s2 (by decide) rfl ?_
  refine jw_iret jM150 jq150_11 (fun z => absurd z (by decide)) ?_
  show jb_w (d + 2) 177 9 [some (.ref 92), some (jb_v l1)] [(jb_v (G 93 ((67 * x2) + 2)))] σ2 Q
  refine jw_iconst (p := 10) rfl jM177 jq177_9 ?_
  refine jw_ic (p := 13) rfl jM177 jq177_10 (jc_lt (s.r _ _) (jb_rn rfl)) (fun c5 => ?_) (fun c5 => ?_)
  · have h5 := jo_p c5 h4
    refine jw_iconst (p := 18) rfl jM177 jq177_17 ?_
    cases h5
    exact jw_iret jM177 jq177_18 (fun _ => Or.inl rfl) (k σ2 s2 (jb_rn rfl))
  · have h5 := jo_n c5 h4
    refine jw_iconst (p := 14) rfl jM177 jq177_13 ?_
    refine jw_goto jM177 jq177_14 ?_
    cases h5
    exact jw_iret jM177 jq177_18 (fun _ => Or.inr rfl) (k σ2 s2 (jb_rn rfl))
-- 173 changesPage need 2
def fo173_133 (G : jg_G) (l1 : Int) (l2 : Int) (l3 : Int) : Option (jg_G × Int) := if 0 ≤ ((67 * l3) + 1) ∧ ((67 * l3) + 1) < 305118 then if 0 ≤ l3 ∧ l3 < 4 then if G 97 l3 = 0 then (some (jg_u (jg_u G 93 ((67 * l3) + 1) l1) 97 l3 l1, 0)) else (some (jg_u (jg_u G 93 ((67 * l3) + 1) l1) 97 l3 (G 97 l3), 0)) else none else none
theorem jf173_133 {d : Nat} {σ0 : ib_H} {Q : ib_O → Prop} {G : jg_G} {l1 : Int} {l2 : Int} {l3 : Int} {o4 : Option Value} (hl1 : jb_r l1) (hl2 : jb_r l2) (hl3 : jb_r l3) {r : jg_G × Int} (h : fo173_133 G l1 l2 l3 = some r) (k : ∀ σ, jg_S σ0 r.1 σ → Q (.inl none, σ)) : jg_W σ0 G (d + 2) 173 133 [some (.ref 92), some (jb_v l1), some (jb_v l2), some (jb_v l3), o4] [] Q := by
  intro σ s
  unfold fo173_133 at h
  refine jaL0 (p := 134) rfl jM173 jq173_133 ?_
  refine jw_getP (p := 137) (i := 1) (q := 93) rfl jM173 jq173_134 rfl (jo_92 s.1) je_11_1 (jp_92_1 s.1) ?_
  refine jw_bipush (p := 139) rfl jM173 jq173_137 (by decide) ?_
  refine jiL3 (p := 140) rfl jM173 jq173_139 ?_
  refine jw_imul (p := 141) rfl jM173 jq173_140 ?_
  refine jw_iconst (p := 142) rfl jM173 jq173_141 ?_
  refine jw_iadd (p := 143) rfl jM173 jq173_142 ?_
  refine jiL1 (p := 144) rfl jM173 jq173_143 ?_
  obtain ⟨c1, h1⟩ := jo_i h
  refine jg_iast (p := 145) rfl jM173 jq173_144 (ja_93 s.1) c1.1 c1.2 s (by decide) hl1 ?_
  intro σ2 s2
  refine jaL0 (p := 146) rfl jM173 jq173_145 ?_
  refine jw_getP (p := 149) (i := 11) (q := 97) rfl jM173 jq173_146 rfl (jo_92 s2.1) je_11_11 (jp_92_11 s2.1) ?_
  refine jiL3 (p := 150) rfl jM173 jq173_149 ?_
  refine jaL0 (p := 151) rfl jM173 jq173_150 ?_
  refine jw_getP (p := 154) (i := 11) (q := 97) rfl jM173 jq173_151 rfl (jo_92 s2.1) je_11_11 (jp_92_11 s2.1) ?_
  refine jiL3 (p := 155) rfl jM173 jq173_154 ?_
  obtain ⟨c3, h3⟩ := jo_i h1
  refine jg_iald (p := 156) rfl jM173 jq173_155 (ja_97 s2.1) c3.1 c3.2 s2 (by decide) (jg_uN (by decide)) ?_
  refine jw_if (p := 159) rfl jM173 jq173_156 (jc_ne (s.r _ _) jb_r0) (fun c4 => ?_) (fun c4 => ?_)
  · have h4 := jo_n c4 h3
    refine jaL0 (p := 164) rfl jM173 jq173_163 ?_
    refine jw_getP (p := 167) (i := 11) (q := 97) rfl jM173 jq173_164 rfl (jo_92 s2.1) je_11_11 (jp_92_11 s2.1) ?_
    refine jiL3 (p := 168) rfl jM173 jq173_167 ?_
    refine jg_iald (p := 169) rfl jM173 jq173_168 (ja_97 s2.1) c3.1 c3.2 s2 (by decide) (jg_uN (by decide)) ?_
    refine jg_iast (p := 170) rfl jM173 jq173_169 (ja_97 s2.1) c3.1 c3.2 s2 (by decide) (s.r _ _) ?_
    intro σ5 s5
    cases h4
    exact jw_vret jM173 jq173_170 (k σ5 s5)
  · have h4 := jo_p (Decidable.byContradiction c4) h3
    refine jiL1 (p := 160) rfl jM173 jq173_159 ?_
    refine jw_goto jM173 jq173_160 ?_
    refine jg_iast (p := 170) rfl jM173 jq173_169 (ja_97 s2.1) c3.1 c3.2 s2 (by decide) hl1 ?_
    intro σ6 s6
    cases h4
    exact jw_vret jM173 jq173_170 (k σ6 s6)
def fo173_47 (G : jg_G) (l1 : Int) (l2 : Int) (l3 : Int) (l4 : Int) : Option (jg_G × Int) := if 0 ≤ l1 ∧ l1 < 1501 then if G 103 l1 = (-1) then (if l4 < 0 then (fo173_133 G l1 l2 l3) else (if 0 ≤ l3 ∧ l3 < 4554 then if 0 ≤ l4 ∧ l4 < G 93 (67 * l3 + 2) ∧ G 93 (67 * l3 + 2) ≤ 32 then fo173_133 (fr_drops G l3 l4) l1 l2 l3 else none else none)) else (if l4 < 0 then (if 0 ≤ l3 ∧ l3 < 4554 then if 0 ≤ ((-1) - l4) ∧ ((-1) - l4) ≤ G 93 (67 * l3 + 2) ∧ G 93 (67 * l3 + 2) < 32 then fo173_133 (fr_puts G l3 ((-1) - l4) (G 101 l1) (G 103 l1)) l1 l2 l3 else none else none) else (if 0 ≤ (((67 * l3) + 3) + (2 * l4)) ∧ (((67 * l3) + 3) + (2 * l4)) < 305118 then if 0 ≤ (((67 * l3) + 4) + (2 * l4)) ∧ (((67 * l3) + 4) + (2 * l4)) < 305118 then fo173_133 (jg_u (jg_u G 93 (((67 * l3) + 3) + (2 * l4)) (G 101 l1)) 93 (((67 * l3) + 4) + (2 * l4)) (G 103 l1)) l1 l2 l3 else none else none)) else none
theorem jf173_47 {d : Nat} {σ0 : ib_H} {Q : ib_O → Prop} {G : jg_G} {l1 : Int} {l2 : Int} {l3 : Int} {l4 : Int} (hl1 : jb_r l1) (hl2 : jb_r l2) (hl3 : jb_r l3) (hl4 : jb_r l4) {r : jg_G × Int} (h : fo173_47 G l1 l2 l3 l4 = some r) (k : ∀ σ, jg_S σ0 r.1 σ → Q (.inl none, σ)) : jg_W σ0 G (d + 2) 173 47 [some (.ref 92), some (jb_v l1), some (jb_v l2), some (jb_v l3), some (jb_v l4)] [] Q := by
  intro σ s
  unfold fo173_47 at h
  refine jaL0 (p := 48) rfl jM173 jq173_47 ?_
  refine jw_getP (p := 51) (i := 19) (q := 103) rfl jM173 jq173_48 rfl (jo_92 s.1) je_11_19 (jp_92_19 s.1) ?_
  refine jiL1 (p := 52) rfl jM173 jq173_51 ?_
  obtain ⟨c1, h1⟩ := jo_i h
  refine jg_iald (p := 53) rfl jM173 jq173_52 (ja_103 s.1) c1.1 c1.2 s (by decide) rfl ?_
  refine jw_iconst (p := 54) rfl jM173 jq173_53 ?_
  refine jw_ic (p := 57) rfl jM173 jq173_54 (jc_ne (s.r _ _) (jb_rn rfl)) (fun c2 => ?_) (fun c2 => ?_)
  · have h2 := jo_n c2 h1
    refine jiL4 (p := 74) rfl jM173 jq173_72 ?_
    refine jw_if (p := 77) rfl jM173 jq173_74 (jc_lt hl4 jb_r0) (fun c3 => ?_) (fun c3 => ?_)
    · have h3 := jo_p c3 h2
      refine jaL0 (p := 100) rfl jM173 jq173_99 ?_
      refine jiL3 (p := 101) rfl jM173 jq173_100 ?_
      refine jw_iconst (p := 102) rfl jM173 jq173_101 ?_
      refine jiL4 (p := 104) rfl jM173 jq173_102 ?_
      refine jw_isub (p := 105) rfl jM173 jq173_104 ?_
      refine jaL0 (p := 106) rfl jM173 jq173_105 ?_
      refine jw_getP (p := 109) (i := 17) (q := 101) rfl jM173 jq173_106 rfl (jo_92 s.1) je_11_17 (jp_92_17 s.1) ?_
      refine jiL1 (p := 110) rfl jM173 jq173_109 ?_
      refine jg_iald (p := 111) rfl jM173 jq173_110 (ja_101 s.1) c1.1 c1.2 s (by decide) rfl ?_
      refine jaL0 (p := 112) rfl jM173 jq173_111 ?_
      refine jw_getP (p := 115) (i := 19) (q := 103) rfl jM173 jq173_112 rfl (jo_92 s.1) je_11_19 (jp_92_19 s.1) ?_
      refine jiL1 (p := 116) rfl jM173 jq173_115 ?_
      refine jg_iald (p := 117) rfl jM173 jq173_116 (ja_103 s.1) c1.1 c1.2 s (by decide) rfl ?_
      refine jw_callV [(jb_v l3), (jb_v ((-1) - l4)), (jb_v (G 101 l1)), (jb_v (G 103 l1))] jM173 jq173_117 rfl rfl (jo_92 s.1) rfl jM156 rfl rfl ?_
      obtain ⟨c4, h4⟩ := jo_i h3
      obtain ⟨c5, h5⟩ := jo_i h4
      refine cs156 c4 c5 (s.r _ _) (s.r _ _) (fun σ6 s6 => ?_) σ s
      show jb_w (d + 2) 173 120 [some (.ref 92), some (jb_v l1), some (jb_v l2), some (jb_v l3), some (jb_v l4)] [] σ6 Q
      refine jw_goto jM173 jq173_120 ?_
      exact jf173_133 hl1 hl2 hl3 h5 k σ6 s6
    · have h3 := jo_n c3 h2
      refine jaL0 (p := 78) rfl jM173 jq173_77 ?_
      refine jiL3 (p := 79) rfl jM173 jq173_78 ?_
      refine jiL4 (p := 81) rfl jM173 jq173_79 ?_
      refine jaL0 (p := 82) rfl jM173 jq173_81 ?_
      refine jw_getP (p := 85) (i := 17) (q := 101) rfl jM173 jq173_82 rfl (jo_92 s.1) je_11_17 (jp_92_17 s.1) ?_
      refine jiL1 (p := 86) rfl jM173 jq173_85 ?_
      refine jg_iald (p := 87) rfl jM173 jq173_86 (ja_101 s.1) c1.1 c1.2 s (by decide) rfl ?_
      refine jaL0 (p := 88) rfl jM173 jq173_87 ?_
      refine jw_getP (p := 91) (i := 19) (q := 103) rfl jM173 jq173_88 rfl (jo_92 s.1) je_11_19 (jp_92_19 s.1) ?_
      refine jiL1 (p := 92) rfl jM173 jq173_91 ?_
      refine jg_iald (p := 93) rfl jM173 jq173_92 (ja_103 s.1) c1.1 c1.2 s (by decide) rfl ?_
      refine jw_callV [(jb_v l3), (jb_v l4), (jb_v (G 101 l1)), (jb_v (G 103 l1))] jM173 jq173_93 rfl rfl (jo_92 s.1) rfl jM153 rfl rfl ?_
      show jb_w (d + 1) 153 0 [some (.ref 92), some (jb_v l3), some (jb_v l4), some (jb_v (G 101 l1)), some (jb_v (G 103 l1))] [] σ (jb_k (d + 2) 173 93 [some (.ref 92), some (jb_v l1), some (jb_v l2), some (jb_v l3), some (jb_v l4)] [] Q)
      refine jaL0 (p := 1) rfl jM153 jq153_0 ?_
      refine jw_getP (p := 4) (i := 1) (q := 93) rfl jM153 jq153_1 rfl (jo_92 s.1) je_11_1 (jp_92_1 s.1) ?_
      refine jw_bipush (p := 6) rfl jM153 jq153_4 (by decide) ?_
      refine jiL1 (p := 7) rfl jM153 jq153_6 ?_
      refine jw_imul (p := 8) rfl jM153 jq153_7 ?_
      refine jw_iconst (p := 9) rfl jM153 jq153_8 ?_
      refine jw_iadd (p := 10) rfl jM153 jq153_9 ?_
      refine jw_iconst (p := 11) rfl jM153 jq153_10 ?_
      refine jiL2 (p := 12) rfl jM153 jq153_11 ?_
      refine jw_imul (p := 13) rfl jM153 jq153_12 ?_
      refine jw_iadd (p := 14) rfl jM153 jq153_13 ?_
      refine jiL3 (p := 15) rfl jM153 jq153_14 ?_
      obtain ⟨c7, h7⟩ := jo_i h3
      refine jg_iast (p := 16) rfl jM153 jq153_15 (ja_93 s.1) c7.1 c7.2 s (by decide) (s.r _ _) ?_
      intro σ8 s8
      refine jaL0 (p := 17) rfl jM153 jq153_16 ?_
      refine jw_getP (p := 20) (i := 1) (q := 93) rfl jM153 jq153_17 rfl (jo_92 s8.1) je_11_1 (jp_92_1 s8.1) ?_
      refine jw_bipush (p := 22) rfl jM153 jq153_20 (by decide) ?_
      refine jiL1 (p := 23) rfl jM153 jq153_22 ?_
      refine jw_imul (p := 24) rfl jM153 jq153_23 ?_
      refine jw_iconst (p := 25) rfl jM153 jq153_24 ?_
      refine jw_iadd (p := 26) rfl jM153 jq153_25 ?_
      refine jw_iconst (p := 27) rfl jM153 jq153_26 ?_
      refine jiL2 (p := 28) rfl jM153 jq153_27 ?_
      refine jw_imul (p := 29) rfl jM153 jq153_28 ?_
      refine jw_iadd (p := 30) rfl jM153 jq153_29 ?_
      refine jiL4 (p := 32) rfl jM153 jq153_30 ?_
      obtain ⟨c9, h9⟩ := jo_i h7
      refine jg_iast (p := 33) rfl jM153 jq153_32 (ja_93 s8.1) c9.1 c9.2 s8 (by decide) (s.r _ _) ?_
      intro σ10 s10
      refine jw_vret jM153 jq153_33 ?_
      show jb_w (d + 2) 173 96 [some (.ref 92), some (jb_v l1), some (jb_v l2), some (jb_v l3), some (jb_v l4)] [] σ10 Q
      refine jw_goto jM173 jq173_96 ?_
      refine jw_goto jM173 jq173_120 ?_
      exact jf173_133 hl1 hl2 hl3 h9 k σ10 s10
  · have h2 := jo_p (Decidable.byContradiction c2) h1
    refine jiL4 (p := 59) rfl jM173 jq173_57 ?_
    refine jw_if (p := 62) rfl jM173 jq173_59 (jc_lt hl4 jb_r0) (fun c11 => ?_) (fun c11 => ?_)
    · have h11 := jo_p c11 h2
      refine jw_goto jM173 jq173_120 ?_
      exact jf173_133 hl1 hl2 hl3 h11 k σ s
    · have h11 := jo_n c11 h2
      refine jaL0 (p := 63) rfl jM173 jq173_62 ?_
      refine jiL3 (p := 64) rfl jM173 jq173_63 ?_
      refine jiL4 (p := 66) rfl jM173 jq173_64 ?_
      refine jw_callV [(jb_v l3), (jb_v l4)] jM173 jq173_66 rfl rfl (jo_92 s.1) rfl jM157 rfl rfl ?_
      obtain ⟨c12, h12⟩ := jo_i h11
      obtain ⟨c13, h13⟩ := jo_i h12
      refine cs157 c12 c13 (fun σ14 s14 => ?_) σ s
      show jb_w (d + 2) 173 69 [some (.ref 92), some (jb_v l1), some (jb_v l2), some (jb_v l3), some (jb_v l4)] [] σ14 Q
      refine jw_goto jM173 jq173_69 ?_
      refine jw_goto jM173 jq173_120 ?_
      exact jf173_133 hl1 hl2 hl3 h13 k σ14 s14
def fo173_15 (G : jg_G) (l1 : Int) (l2 : Int) (l3 : Int) : Option (jg_G × Int) := if 0 ≤ l1 ∧ l1 < 1501 then if G 98 l1 = 0 then (if 0 ≤ l3 ∧ l3 < 4554 then if 0 ≤ G 93 (67 * l3 + 2) ∧ G 93 (67 * l3 + 2) ≤ 32 then jo_l (fr_pl G l3 (G 101 l1)) fun x5 => fo173_47 G l1 l2 l3 x5 else none else none) else (if G 98 l1 = 1 then (if 0 ≤ l3 ∧ l3 < 4554 then if 0 ≤ G 93 (67 * l3 + 2) ∧ G 93 (67 * l3 + 2) ≤ 32 then jo_l (fr_pl G l3 (G 101 l1)) fun x13 => fo173_47 G l1 l2 l3 x13 else none else none) else (if 0 ≤ ((54 + (3 * (l1 - 1))) + l2) ∧ ((54 + (3 * (l1 - 1))) + l2) < 4554 then if 0 ≤ l3 ∧ l3 < 4554 then fo173_133 (fr_copies G ((54 + (3 * (l1 - 1))) + l2) l3) l1 l2 l3 else none else none)) else none
theorem jf173_15 {d : Nat} {σ0 : ib_H} {Q : ib_O → Prop} {G : jg_G} {l1 : Int} {l2 : Int} {l3 : Int} (hl1 : jb_r l1) (hl2 : jb_r l2) (hl3 : jb_r l3) {r : jg_G × Int} (h : fo173_15 G l1 l2 l3 = some r) (k : ∀ σ, jg_S σ0 r.1 σ → Q (.inl none, σ)) : jg_W σ0 G (d + 2) 173 15 [some (.ref 92), some (jb_v l1), some (jb_v l2), some (jb_v l3), none] [] Q := by
  intro σ s
  unfold fo173_15 at h
  refine jaL0 (p := 16) rfl jM173 jq173_15 ?_
  refine jw_getP (p := 19) (i := 14) (q := 98) rfl jM173 jq173_16 rfl (jo_92 s.1) je_11_14 (jp_92_14 s.1) ?_
  refine jiL1 (p := 20) rfl jM173 jq173_19 ?_
  obtain ⟨c1, h1⟩ := jo_i h
  refine jg_iald (p := 21) rfl jM173 jq173_20 (ja_98 s.1) c1.1 c1.2 s (by decide) rfl ?_
  refine jw_if (p := 24) rfl jM173 jq173_21 (jc_eq (s.r _ _) jb_r0) (fun c2 => ?_) (fun c2 => ?_)
  · have h2 := jo_p c2 h1
    refine jaL0 (p := 35) rfl jM173 jq173_34 ?_
    refine jiL3 (p := 36) rfl jM173 jq173_35 ?_
    refine jaL0 (p := 37) rfl jM173 jq173_36 ?_
    refine jw_getP (p := 40) (i := 17) (q := 101) rfl jM173 jq173_37 rfl (jo_92 s.1) je_11_17 (jp_92_17 s.1) ?_
    refine jiL1 (p := 41) rfl jM173 jq173_40 ?_
    refine jg_iald (p := 42) rfl jM173 jq173_41 (ja_101 s.1) c1.1 c1.2 s (by decide) rfl ?_
    refine jw_callV [(jb_v l3), (jb_v (G 101 l1))] jM173 jq173_42 rfl rfl (jo_92 s.1) rfl jM158 rfl rfl ?_
    obtain ⟨c3, h3⟩ := jo_i h2
    obtain ⟨c4, h4⟩ := jo_i h3
    obtain ⟨x5, e6, h6⟩ := jo_lb h4
    refine cs158 c3 c4 (s.r _ _) (fun σ5 s5 r5 => ?_) σ s
    rw [e6] at r5 ⊢
    show jb_w (d + 2) 173 45 [some (.ref 92), some (jb_v l1), some (jb_v l2), some (jb_v l3), none] [(jb_v x5)] σ5 Q
    refine jiS4 (p := 47) rfl jM173 jq173_45 ?_
    exact jf173_47 hl1 hl2 hl3 r5 h6 k σ5 s5
  · have h2 := jo_n c2 h1
    refine jaL0 (p := 25) rfl jM173 jq173_24 ?_
    refine jw_getP (p := 28) (i := 14) (q := 98) rfl jM173 jq173_25 rfl (jo_92 s.1) je_11_14 (jp_92_14 s.1) ?_
    refine jiL1 (p := 29) rfl jM173 jq173_28 ?_
    refine jg_iald (p := 30) rfl jM173 jq173_29 (ja_98 s.1) c1.1 c1.2 s (by decide) rfl ?_
    refine jw_iconst (p := 31) rfl jM173 jq173_30 ?_
    refine jw_ic (p := 34) rfl jM173 jq173_31 (jc_ne (s.r _ _) (jb_rn rfl)) (fun c7 => ?_) (fun c7 => ?_)
    · have h7 := jo_n c7 h2
      refine jaL0 (p := 124) rfl jM173 jq173_123 ?_
      refine jiL1 (p := 125) rfl jM173 jq173_124 ?_
      refine jiL2 (p := 126) rfl jM173 jq173_125 ?_
      refine jw_callS [(jb_v l1), (jb_v l2)] jM173 jq173_126 rfl rfl rfl jM170 rfl rfl ?_
      show jb_w (d + 1) 170 0 [some (jb_v l1), some (jb_v l2)] [] σ (jb_k (d + 2) 173 126 [some (.ref 92), some (jb_v l1), some (jb_v l2), some (jb_v l3), none] [(.ref 92)] Q)
      refine jw_bipush (p := 2) rfl jM170 jq170_0 (by decide) ?_
      refine jw_iconst (p := 3) rfl jM170 jq170_2 ?_
      refine jiL0 (p := 4) rfl jM170 jq170_3 ?_
      refine jw_iconst (p := 5) rfl jM170 jq170_4 ?_
      refine jw_isub (p := 6) rfl jM170 jq170_5 ?_
      refine jw_imul (p := 7) rfl jM170 jq170_6 ?_
      refine jw_iadd (p := 8) rfl jM170 jq170_7 ?_
      refine jiL1 (p := 9) rfl jM170 jq170_8 ?_
      refine jw_iadd (p := 10) rfl jM170 jq170_9 ?_
      refine jw_iret jM170 jq170_10 (fun z => absurd z (by decide)) ?_
      show jb_w (d + 2) 173 129 [some (.ref 92), some (jb_v l1), some (jb_v l2), some (jb_v l3), none] [(jb_v ((54 + (3 * (l1 - 1))) + l2)), (.ref 92)] σ Q
      refine jiL3 (p := 130) rfl jM173 jq173_129 ?_
      refine jw_callV [(jb_v ((54 + (3 * (l1 - 1))) + l2)), (jb_v l3)] jM173 jq173_130 rfl rfl (jo_92 s.1) rfl jM148 rfl rfl ?_
      obtain ⟨c8, h8⟩ := jo_i h7
      obtain ⟨c9, h9⟩ := jo_i h8
      refine cs148 c8 c9 (fun σ10 s10 => ?_) σ s
      show jb_w (d + 2) 173 133 [some (.ref 92), some (jb_v l1), some (jb_v l2), some (jb_v l3), none] [] σ10 Q
      exact jf173_133 hl1 hl2 hl3 h9 k σ10 s10
    · have h7 := jo_p (Decidable.byContradiction c7) h2
      refine jaL0 (p := 35) rfl jM173 jq173_34 ?_
      refine jiL3 (p := 36) rfl jM173 jq173_35 ?_
      refine jaL0 (p := 37) rfl jM173 jq173_36 ?_
      refine jw_getP (p := 40) (i := 17) (q := 101) rfl jM173 jq173_37 rfl (jo_92 s.1) je_11_17 (jp_92_17 s.1) ?_
      refine jiL1 (p := 41) rfl jM173 jq173_40 ?_
      refine jg_iald (p := 42) rfl jM173 jq173_41 (ja_101 s.1) c1.1 c1.2 s (by decide) rfl ?_
      refine jw_callV [(jb_v l3), (jb_v (G 101 l1))] jM173 jq173_42 rfl rfl (jo_92 s.1) rfl jM158 rfl rfl ?_
      obtain ⟨c11, h11⟩ := jo_i h7
      obtain ⟨c12, h12⟩ := jo_i h11
      obtain ⟨x13, e14, h14⟩ := jo_lb h12
      refine cs158 c11 c12 (s.r _ _) (fun σ13 s13 r13 => ?_) σ s
      rw [e14] at r13 ⊢
      show jb_w (d + 2) 173 45 [some (.ref 92), some (jb_v l1), some (jb_v l2), some (jb_v l3), none] [(jb_v x13)] σ13 Q
      refine jiS4 (p := 47) rfl jM173 jq173_45 ?_
      exact jf173_47 hl1 hl2 hl3 r13 h14 k σ13 s13
def fo173 (G : jg_G) (l1 : Int) (l2 : Int) : Option (jg_G × Int) := if 0 ≤ ((3 * l1) + l2) ∧ ((3 * l1) + l2) < 4503 then jo_l (fr_fo G (G 106 ((3 * l1) + l2))) fun x2 => fo173_15 G l1 l2 x2 else none
theorem jf173 {d : Nat} {σ0 : ib_H} {Q : ib_O → Prop} {G : jg_G} {l1 : Int} {l2 : Int} (hl1 : jb_r l1) (hl2 : jb_r l2) {r : jg_G × Int} (h : fo173 G l1 l2 = some r) (k : ∀ σ, jg_S σ0 r.1 σ → Q (.inl none, σ)) : jg_W σ0 G (d + 2) 173 0 [some (.ref 92), some (jb_v l1), some (jb_v l2), none, none] [] Q := by
  intro σ s
  unfold fo173 at h
  refine jaL0 (p := 1) rfl jM173 jq173_0 ?_
  refine jaL0 (p := 2) rfl jM173 jq173_1 ?_
  refine jw_getP (p := 5) (i := 22) (q := 106) rfl jM173 jq173_2 rfl (jo_92 s.1) je_11_22 (jp_92_22 s.1) ?_
  refine jw_iconst (p := 6) rfl jM173 jq173_5 ?_
  refine jiL1 (p := 7) rfl jM173 jq173_6 ?_
  refine jw_imul (p := 8) rfl jM173 jq173_7 ?_
  refine jiL2 (p := 9) rfl jM173 jq173_8 ?_
  refine jw_iadd (p := 10) rfl jM173 jq173_9 ?_
  obtain ⟨c1, h1⟩ := jo_i h
  refine jg_iald (p := 11) rfl jM173 jq173_10 (ja_106 s.1) c1.1 c1.2 s (by decide) rfl ?_
  refine jw_callV [(jb_v (G 106 ((3 * l1) + l2)))] jM173 jq173_11 rfl rfl (jo_92 s.1) rfl jM160 rfl rfl ?_
  obtain ⟨x2, e3, h3⟩ := jo_lb h1
  refine cs160 (s.r _ _) (fun σ2 s2 r2 => ?_) σ s
  rw [e3] at r2 ⊢
  show jb_w (d + 2) 173 14 [some (.ref 92), some (jb_v l1), some (jb_v l2), none, none] [(jb_v x2)] σ2 Q
  refine jiS3 (p := 15) rfl jM173 jq173_14 ?_
  exact jf173_15 hl1 hl2 r2 h3 k σ2 s2
-- 174 does need 6
def fo174_2 : Nat → jg_G → Int → Int → Option (jg_G × Int)
  | 0, _, _, _ => none
  | m + 1, G, l1, l2 => if 0 ≤ l1 ∧ l1 < 1501 then if G 105 l1 ≤ l2 then (some (G, 0)) else (if G 92 7 = 0 then (if 0 ≤ ((3 * l1) + l2) ∧ ((3 * l1) + l2) < 4503 then (fo168 G (G 106 ((3 * l1) + l2))).bind fun x5 => if (x5.1) 92 7 = 0 then ((fo173 (x5.1) l1 l2).bind fun x9 => if -2147483648 ≤ (l2 + 1) ∧ (l2 + 1) < 2147483648 then fo174_2 m (x9.1) l1 (l2 + 1) else none) else (if -2147483648 ≤ (l2 + 1) ∧ (l2 + 1) < 2147483648 then fo174_2 m (x5.1) l1 (l2 + 1) else none) else none) else (some (G, 0))) else none
theorem jf174_2 {d : Nat} {σ0 : ib_H} {Q : ib_O → Prop} : ∀ (m : Nat) {G : jg_G} {l1 : Int} {l2 : Int} (hl1 : jb_r l1) (hl2 : jb_r l2) {r : jg_G × Int} (h : fo174_2 m G l1 l2 = some r) (k : ∀ σ, jg_S σ0 r.1 σ → Q (.inl none, σ)), jg_W σ0 G (d + 6) 174 2 [some (.ref 92), some (jb_v l1), some (jb_v l2)] [] Q := by
  intro m
  induction m with
  | zero =>
    intro G l1 l2 hl1 hl2 r h k
    cases h
  | succ m ih =>
    intro G l1 l2 hl1 hl2 r h k σ s
    unfold fo174_2 at h
    refine jiL2 (p := 3) rfl jM174 jq174_2 ?_
    refine jaL0 (p := 4) rfl jM174 jq174_3 ?_
    refine jw_getP (p := 7) (i := 21) (q := 105) rfl jM174 jq174_4 rfl (jo_92 s.1) je_11_21 (jp_92_21 s.1) ?_
    refine jiL1 (p := 8) rfl jM174 jq174_7 ?_
    obtain ⟨c1, h1⟩ := jo_i h
    refine jg_iald (p := 9) rfl jM174 jq174_8 (ja_105 s.1) c1.1 c1.2 s (by decide) rfl ?_
    refine jw_ic (p := 12) rfl jM174 jq174_9 (jc_ge hl2 (s.r _ _)) (fun c2 => ?_) (fun c2 => ?_)
    · have h2 := jo_p c2 h1
      cases h2
      exact jw_vret jM174 jq174_52 (k σ s)
    · have h2 := jo_n c2 h1
      refine jaL0 (p := 13) rfl jM174 jq174_12 ?_
      refine jg_getI (p := 16) (i := 7) rfl jM174 jq174_13 rfl (jo_92 s.1) jn_11_7 s (by decide) (by decide) rfl ?_
      refine jw_if (p := 19) rfl jM174 jq174_16 (jc_ne (s.r _ _) jb_r0) (fun c3 => ?_) (fun c3 => ?_)
      · have h3 := jo_n c3 h2
        cases h3
        exact jw_vret jM174 jq174_52 (k σ s)
      · have h3 := jo_p (Decidable.byContradiction c3) h2
        refine jaL0 (p := 20) rfl jM174 jq174_19 ?_
        refine jaL0 (p := 21) rfl jM174 jq174_20 ?_
        refine jw_getP (p := 24) (i := 22) (q := 106) rfl jM174 jq174_21 rfl (jo_92 s.1) je_11_22 (jp_92_22 s.1) ?_
        refine jw_iconst (p := 25) rfl jM174 jq174_24 ?_
        refine jiL1 (p := 26) rfl jM174 jq174_25 ?_
        refine jw_imul (p := 27) rfl jM174 jq174_26 ?_
        refine jiL2 (p := 28) rfl jM174 jq174_27 ?_
        refine jw_iadd (p := 29) rfl jM174 jq174_28 ?_
        obtain ⟨c4, h4⟩ := jo_i h3
        refine jg_iald (p := 30) rfl jM174 jq174_29 (ja_106 s.1) c4.1 c4.2 s (by decide) rfl ?_
        refine jw_callV [(jb_v (G 106 ((3 * l1) + l2)))] jM174 jq174_30 rfl rfl (jo_92 s.1) rfl jM168 rfl rfl ?_
        obtain ⟨x5, b6, h6⟩ := jo_b h4
        refine jf168 (s.r _ _) b6 (fun σ5 s5 => ?_) σ s
        show jb_w (d + 6) 174 33 [some (.ref 92), some (jb_v l1), some (jb_v l2)] [] σ5 Q
        refine jaL0 (p := 34) rfl jM174 jq174_33 ?_
        refine jg_getI (p := 37) (i := 7) rfl jM174 jq174_34 rfl (jo_92 s5.1) jn_11_7 s5 (by decide) (by decide) rfl ?_
        refine jw_if (p := 40) rfl jM174 jq174_37 (jc_ne (s5.r _ _) jb_r0) (fun c7 => ?_) (fun c7 => ?_)
        · have h7 := jo_n c7 h6
          refine jiI2 (p := 49) rfl jM174 jq174_46 ?_
          refine jw_goto jM174 jq174_49 ?_
          obtain ⟨c8, h8⟩ := jo_i h7
          exact ih hl1 c8 h8 k σ5 s5
        · have h7 := jo_p (Decidable.byContradiction c7) h6
          refine jaL0 (p := 41) rfl jM174 jq174_40 ?_
          refine jiL1 (p := 42) rfl jM174 jq174_41 ?_
          refine jiL2 (p := 43) rfl jM174 jq174_42 ?_
          refine jw_callV [(jb_v l1), (jb_v l2)] jM174 jq174_43 rfl rfl (jo_92 s5.1) rfl jM173 rfl rfl ?_
          obtain ⟨x9, b10, h10⟩ := jo_b h7
          refine jf173 hl1 hl2 b10 (fun σ9 s9 => ?_) σ5 s5
          show jb_w (d + 6) 174 46 [some (.ref 92), some (jb_v l1), some (jb_v l2)] [] σ9 Q
          refine jiI2 (p := 49) rfl jM174 jq174_46 ?_
          refine jw_goto jM174 jq174_49 ?_
          obtain ⟨c11, h11⟩ := jo_i h10
          exact ih hl1 c11 h11 k σ9 s9
def fo174 (G : jg_G) (l1 : Int) : Option (jg_G × Int) := fo174_2 jo_N G l1 0
theorem jf174 {d : Nat} {σ0 : ib_H} {Q : ib_O → Prop} {G : jg_G} {l1 : Int} (hl1 : jb_r l1) {r : jg_G × Int} (h : fo174 G l1 = some r) (k : ∀ σ, jg_S σ0 r.1 σ → Q (.inl none, σ)) : jg_W σ0 G (d + 6) 174 0 [some (.ref 92), some (jb_v l1), none] [] Q := by
  intro σ s
  unfold fo174 at h
  refine jw_iconst (p := 1) rfl jM174 jq174_0 ?_
  refine jiS2 (p := 2) rfl jM174 jq174_1 ?_
  exact jf174_2 jo_N hl1 (jb_rn rfl) h k σ s
